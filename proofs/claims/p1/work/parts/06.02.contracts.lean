set_option maxHeartbeats 4000000 in
set_option maxRecDepth 100000 in
theorem k41_X11_number (l : Launch) (D : va_G) (cI cJ cB cZ : ClassId) (ad bd : Nat → Nat) (p1 : Int32) : MetI l yX11_number wsX11_number 0 0 0 0 D (TYS cI cJ cB cZ) (WX cI cJ cB cZ ad) [.ref (ad 0), .int p1] (fun (r : Int32) (_ : Unit) => r = (-1)) (fun _ => (WX cI cJ cB cZ ad)) := by
  refine x_startI (ty := .int) (cc := cX11_number) (by decide) rfl (Nat.le_of_ble_eq_true rfl) ?_
  intro p e s m args below meth c A ls B hr hnm h hl
  have hx := B.1.1
  have hb := B.1.2.1
  have hml := B.1.2.2.1
  have hts := B.1.2.2.2.2
  have hown : s.vm.findClass RX11 = some m.cls := B.1.2.2.2.1
  have hin9 : ∀ w ∈ u_ws RX9 TX9 7, w ∈ wsX11_number := by decide +kernel
  have hin11 : ∀ w ∈ u_ws RX11 TX11 11, w ∈ wsX11_number := by decide +kernel
  have hl : lv_has ls 2 [(0, .ref (ad 0)), (1, .int p1)] := hl
  refine lv_iload_n hx hb dX11_number_0 rfl (lv_at hl 1 rfl) ?_
  refine lv_if_lt (tgt := 11) hx hb dX11_number_1 (by decide) (fun c_1 => ?_) (fun c_1 => ?_)
  · skip
    refine lv_iconst (v := (-1)) hx hb dX11_number_11 (by decide) ?_
    exact x_iret (w1 := (fun _ => (WX cI cJ cB cZ ad))) () B h hr rfl rfl dX11_number_12
  · skip
    refine lv_iload_n hx hb dX11_number_4 rfl (lv_at hl 1 rfl) ?_
    refine lv_sipush (v := 256) hx hb dX11_number_5 (by decide) ?_
    refine lv_icmp_lt (tgt := 13) hx hb dX11_number_8 (by decide) (fun c_2 => ?_) (fun c_2 => ?_)
    · skip
      refine lv_aload_n hx hb dX11_number_13 rfl (lv_at hl 0 rfl) ?_
      refine x_get (ci := 11) (C := RX11) (T := TX11) (N := 11) (v := .ref (ad 3)) B h hin11 0 2 rfl rfl (by decide) (by decide +kernel) rfl dX11_number_14 ?_
      refine x_get (ci := 9) (C := RX9) (T := TX9) (N := 7) (v := .ref (ad 16)) B h hin9 3 3 rfl rfl (by decide) (by decide +kernel) rfl dX11_number_17 ?_
      refine lv_iload_n hx hb dX11_number_20 rfl (lv_at hl 1 rfl) ?_
      refine va_iald hx hb B.2.1 h.1 16 0 rfl rfl (vp_in_iff.mpr (by simp only [Int32.lt_iff_toInt_lt, Int32.le_iff_toInt_le, ← Int32.toInt_inj, show ((0 : Int32)).toInt = 0 from by decide, show ((256 : Int32)).toInt = 256 from by decide] at c_1 c_2; omega)) dX11_number_21 ?_
      refine lv_topi (fun v_3 ev_3 => ?_)
      obtain rfl : v_3 = (-1) := ev_3
      exact x_iret (w1 := (fun _ => (WX cI cJ cB cZ ad))) () B h hr rfl rfl dX11_number_22
    · skip
      refine lv_iconst (v := (-1)) hx hb dX11_number_11 (by decide) ?_
      exact x_iret (w1 := (fun _ => (WX cI cJ cB cZ ad))) () B h hr rfl rfl dX11_number_12
set_option maxHeartbeats 4000000 in
set_option maxRecDepth 100000 in
theorem k42_X12_in (l : Launch) (D : va_G) (cI cJ cB cZ : ClassId) (ad bd : Nat → Nat) (p0 : Int32) : MetI l yX12_in wsX12_in 0 0 0 0 D (TYS cI cJ cB cZ) [] [.int p0, .int 1, .int 255] (fun (r : Int32) (u : Nat) => (u = 0 ∧ (p0 < 1) ∧ r = 0) ∨ (u = 1 ∧ (¬ p0 < 1) ∧ (255 < p0) ∧ r = 0) ∨ (u = 2 ∧ (¬ p0 < 1) ∧ (¬ 255 < p0) ∧ r = 1)) (fun _ => []) := by
  refine x_startI (ty := .boolean) (cc := cX12_in) (by decide) rfl (Nat.le_of_ble_eq_true rfl) ?_
  intro p e s m args below meth c A ls B hr hnm h hl
  have hx := B.1.1
  have hb := B.1.2.1
  have hml := B.1.2.2.1
  have hts := B.1.2.2.2.2
  have hown : s.vm.findClass RX12 = some m.cls := B.1.2.2.2.1
  have hl : lv_has ls 3 [(0, .int p0), (1, .int 1), (2, .int 255)] := hl
  refine lv_iload_n hx hb dX12_in_0 rfl (lv_at hl 0 rfl) ?_
  refine lv_iload_n hx hb dX12_in_1 rfl (lv_at hl 1 rfl) ?_
  refine lv_icmp_lt (tgt := 14) hx hb dX12_in_2 (by decide) (fun c_1 => ?_) (fun c_1 => ?_)
  · skip
    refine lv_iconst (v := 0) hx hb dX12_in_14 (by decide) ?_
    exact x_iret (w1 := (fun _ => [])) 0 B h hr rfl (Or.inl ⟨rfl, c_1, rfl⟩) dX12_in_15
  · skip
    refine lv_iload_n hx hb dX12_in_5 rfl (lv_at hl 0 rfl) ?_
    refine lv_iload_n hx hb dX12_in_6 rfl (lv_at hl 2 rfl) ?_
    refine lv_icmp_gt (tgt := 14) hx hb dX12_in_7 (by decide) (fun c_2 => ?_) (fun c_2 => ?_)
    · skip
      refine lv_iconst (v := 0) hx hb dX12_in_14 (by decide) ?_
      exact x_iret (w1 := (fun _ => [])) 1 B h hr rfl (Or.inr (Or.inl ⟨rfl, c_1, c_2, rfl⟩)) dX12_in_15
    · skip
      refine lv_iconst (v := 1) hx hb dX12_in_10 (by decide) ?_
      refine lv_goto (tgt := 15) hx hb dX12_in_11 (by decide) ?_
      exact x_iret (w1 := (fun _ => [])) 2 B h hr rfl (Or.inr (Or.inr (⟨rfl, c_1, c_2, rfl⟩))) dX12_in_15
set_option maxHeartbeats 4000000 in
set_option maxRecDepth 100000 in
theorem k43_X12_number (l : Launch) (D : va_G) (cI cJ cB cZ : ClassId) (ad bd : Nat → Nat) (p1 : Int32) : MetI l yX12_number wsX12_number 1 22 0 0 D (TYS cI cJ cB cZ) (WM cI cJ cB cZ bd) [.ref (bd 0), .int p1] (fun (r : Int32) (_ : Unit) => r = (-1)) (fun _ => (WM cI cJ cB cZ bd)) := by
  refine x_startI (ty := .int) (cc := cX12_number) (by decide) rfl (Nat.le_of_ble_eq_true rfl) ?_
  intro p e s m args below meth c A ls B hr hnm h hl
  have hx := B.1.1
  have hb := B.1.2.1
  have hml := B.1.2.2.1
  have hts := B.1.2.2.2.2
  have hown : s.vm.findClass RX12 = some m.cls := B.1.2.2.2.1
  have hin12 : ∀ w ∈ u_ws RX12 TX12 31, w ∈ wsX12_number := by decide +kernel
  have hl : lv_has ls 2 [(0, .ref (bd 0)), (1, .int p1)] := hl
  refine lv_iload_n hx hb dX12_number_0 rfl (lv_at hl 1 rfl) ?_
  refine lv_iconst (v := 1) hx hb dX12_number_1 (by decide) ?_
  refine lv_sipush (v := 255) hx hb dX12_number_2 (by decide) ?_
  refine x_cSIE (n := 3) (As := [.int p1, .int 1, .int 255]) (rest := []) B h (k42_X12_in l D cI cJ cB cZ ad bd p1) ⟨⟨_, rfl⟩, by decide +kernel, Nat.le_of_ble_eq_true rfl, Nat.le_of_ble_eq_true rfl⟩ gX12_number_X12_in rfl hl.1 rfl (Nat.le_of_ble_eq_true rfl) dX12_number_5 ⟨Nat.le_of_ble_eq_true rfl, Nat.le_of_ble_eq_true rfl⟩ (fun r_1 u_1 H locs hp_1 h => ?_)
  rcases hp_1 with ⟨rfl, k_1_0, rfl⟩ | ⟨rfl, k_1_0, k_1_1, rfl⟩ | ⟨rfl, k_1_0, k_1_1, rfl⟩
  · skip
    have h : Hp D A s.heap (WM cI cJ cB cZ bd) H locs := h
    refine lv_if_eq (tgt := 27) hx hb dX12_number_8 (by decide) (fun c_2 => ?_) (fun c_2 => absurd c_2 (by decide))
    refine lv_iconst (v := (-1)) hx hb dX12_number_27 (by decide) ?_
    exact x_iret (w1 := (fun _ => (WM cI cJ cB cZ bd))) () B h hr rfl rfl dX12_number_28
  · skip
    have h : Hp D A s.heap (WM cI cJ cB cZ bd) H locs := h
    refine lv_if_eq (tgt := 27) hx hb dX12_number_8 (by decide) (fun c_3 => ?_) (fun c_3 => absurd c_3 (by decide))
    refine lv_iconst (v := (-1)) hx hb dX12_number_27 (by decide) ?_
    exact x_iret (w1 := (fun _ => (WM cI cJ cB cZ bd))) () B h hr rfl rfl dX12_number_28
  · skip
    have h : Hp D A s.heap (WM cI cJ cB cZ bd) H locs := h
    refine lv_if_eq (tgt := 27) hx hb dX12_number_8 (by decide) (fun c_4 => absurd c_4 (by decide)) (fun c_4 => ?_)
    refine lv_aload_n hx hb dX12_number_11 rfl (lv_at hl 0 rfl) ?_
    refine x_get (ci := 12) (C := RX12) (T := TX12) (N := 31) (v := .int 0) B h hin12 0 5 rfl rfl (by decide) (by decide +kernel) rfl dX12_number_12 ?_
    refine lv_if_le (tgt := 27) hx hb dX12_number_15 (by decide) (fun c_5 => ?_) (fun c_5 => absurd c_5 (by decide))
    refine lv_iconst (v := (-1)) hx hb dX12_number_27 (by decide) ?_
    exact x_iret (w1 := (fun _ => (WM cI cJ cB cZ bd))) () B h hr rfl rfl dX12_number_28
set_option maxHeartbeats 4000000 in
set_option maxRecDepth 100000 in
theorem k44_X11_sign (l : Launch) (D : va_G) (cI cJ cB cZ : ClassId) (ad bd : Nat → Nat) (p1 : Int32) (p2 : Int32) : MetI l yX11_sign wsX11_sign 1 21 0 0 D (TYS cI cJ cB cZ) (WX cI cJ cB cZ ad) [.ref (ad 0), .int p1, .int p2] (fun (r : Int32) (_ : Unit) => r = (-2147483648)) (fun _ => (WX cI cJ cB cZ ad)) := by
  refine x_startI (ty := .int) (cc := cX11_sign) (by decide) rfl (Nat.le_of_ble_eq_true rfl) ?_
  intro p e s m args below meth c A ls B hr hnm h hl
  have hx := B.1.1
  have hb := B.1.2.1
  have hml := B.1.2.2.1
  have hts := B.1.2.2.2.2
  have hown : s.vm.findClass RX11 = some m.cls := B.1.2.2.2.1
  have hin11 : ∀ w ∈ u_ws RX11 TX11 11, w ∈ wsX11_sign := by decide +kernel
  have hl : lv_has ls 3 [(0, .ref (ad 0)), (1, .int p1), (2, .int p2)] := hl
  refine lv_aload_n hx hb dX11_sign_0 rfl (lv_at hl 0 rfl) ?_
  refine x_get (ci := 11) (C := RX11) (T := TX11) (N := 11) (v := .ref (ad 3)) B h hin11 0 2 rfl rfl (by decide) (by decide +kernel) rfl dX11_sign_1 ?_
  refine lv_iload_n hx hb dX11_sign_4 rfl (lv_at hl 1 rfl) ?_
  refine x_cVIF (n := 1) (As := [.int p1]) (rest := []) B h (k36_X9_has l D cI cJ cB cZ ad bd p1) ⟨⟨_, rfl⟩, by decide +kernel, Nat.le_of_ble_eq_true rfl, Nat.le_of_ble_eq_true rfl⟩ gX11_sign_X9_has (show ((WX cI cJ cB cZ ad) : va_W)[3]? = some (_, .inr (9, _)) from rfl) rfl rfl hl.1 rfl (Nat.le_of_ble_eq_true rfl) dX11_sign_5 ⟨Nat.le_of_ble_eq_true rfl, Nat.le_of_ble_eq_true rfl⟩ (fun r_1 u_1 H locs hp_1 h => ?_)
  obtain rfl := hp_1
  have h : Hp D A s.heap (WX cI cJ cB cZ ad) H locs := h
  refine lv_if_eq (tgt := 22) hx hb dX11_sign_8 (by decide) (fun c_2 => ?_) (fun c_2 => absurd c_2 (by decide))
  refine lv_ldc (v := (-2147483648)) hx hb hown (hts (.constant RX11 160 (-2147483648)) (by decide +kernel)) dX11_sign_22 ?_
  exact x_iret (w1 := (fun _ => (WX cI cJ cB cZ ad))) () B h hr rfl rfl dX11_sign_24
set_option maxHeartbeats 4000000 in
set_option maxRecDepth 100000 in
theorem k45_X12_sign (l : Launch) (D : va_G) (cI cJ cB cZ : ClassId) (ad bd : Nat → Nat) (p1 : Int32) (p2 : Int32) : MetI l yX12_sign wsX12_sign 2 43 0 0 D (TYS cI cJ cB cZ) (WM cI cJ cB cZ bd) [.ref (bd 0), .int p1, .int p2] (fun (r : Int32) (_ : Unit) => r = (-2147483648)) (fun _ => (WM cI cJ cB cZ bd)) := by
  refine x_startI (ty := .int) (cc := cX12_sign) (by decide) rfl (Nat.le_of_ble_eq_true rfl) ?_
  intro p e s m args below meth c A ls B hr hnm h hl
  have hx := B.1.1
  have hb := B.1.2.1
  have hml := B.1.2.2.1
  have hts := B.1.2.2.2.2
  have hown : s.vm.findClass RX12 = some m.cls := B.1.2.2.2.1
  have hl : lv_has ls 3 [(0, .ref (bd 0)), (1, .int p1), (2, .int p2)] := hl
  refine lv_aload_n hx hb dX12_sign_0 rfl (lv_at hl 0 rfl) ?_
  refine lv_iload_n hx hb dX12_sign_1 rfl (lv_at hl 1 rfl) ?_
  refine x_cVIF (n := 1) (As := [.int p1]) (rest := []) B h (k39_X12_isSimplex l D cI cJ cB cZ ad bd p1) ⟨⟨_, rfl⟩, by decide +kernel, Nat.le_of_ble_eq_true rfl, Nat.le_of_ble_eq_true rfl⟩ gX12_sign_X12_isSimplex (show ((WM cI cJ cB cZ bd) : va_W)[0]? = some (_, .inr (12, _)) from rfl) rfl rfl hl.1 rfl (Nat.le_of_ble_eq_true rfl) dX12_sign_2 ⟨Nat.le_of_ble_eq_true rfl, Nat.le_of_ble_eq_true rfl⟩ (fun r_1 u_1 H locs hp_1 h => ?_)
  obtain rfl := hp_1
  have h : Hp D A s.heap (WM cI cJ cB cZ bd) H locs := h
  refine lv_if_eq (tgt := 16) hx hb dX12_sign_5 (by decide) (fun c_2 => ?_) (fun c_2 => absurd c_2 (by decide))
  refine lv_ldc (v := (-2147483648)) hx hb hown (hts (.constant RX12 165 (-2147483648)) (by decide +kernel)) dX12_sign_16 ?_
  exact x_iret (w1 := (fun _ => (WM cI cJ cB cZ bd))) () B h hr rfl rfl dX12_sign_18
set_option maxHeartbeats 4000000 in
set_option maxRecDepth 100000 in
theorem k46_X11_isThere (l : Launch) (D : va_G) (cI cJ cB cZ : ClassId) (ad bd : Nat → Nat) (p1 : Int32) : MetI l yX11_isThere wsX11_isThere 1 21 0 0 D (TYS cI cJ cB cZ) (WX cI cJ cB cZ ad) [.ref (ad 0), .int p1] (fun (r : Int32) (_ : Unit) => r = 0) (fun _ => (WX cI cJ cB cZ ad)) := by
  refine x_startI (ty := .boolean) (cc := cX11_isThere) (by decide) rfl (Nat.le_of_ble_eq_true rfl) ?_
  intro p e s m args below meth c A ls B hr hnm h hl
  have hx := B.1.1
  have hb := B.1.2.1
  have hml := B.1.2.2.1
  have hts := B.1.2.2.2.2
  have hown : s.vm.findClass RX11 = some m.cls := B.1.2.2.2.1
  have hin11 : ∀ w ∈ u_ws RX11 TX11 11, w ∈ wsX11_isThere := by decide +kernel
  have hl : lv_has ls 2 [(0, .ref (ad 0)), (1, .int p1)] := hl
  refine lv_aload_n hx hb dX11_isThere_0 rfl (lv_at hl 0 rfl) ?_
  refine x_get (ci := 11) (C := RX11) (T := TX11) (N := 11) (v := .ref (ad 3)) B h hin11 0 2 rfl rfl (by decide) (by decide +kernel) rfl dX11_isThere_1 ?_
  refine lv_iload_n hx hb dX11_isThere_4 rfl (lv_at hl 1 rfl) ?_
  refine x_cVIF (n := 1) (As := [.int p1]) (rest := []) B h (k36_X9_has l D cI cJ cB cZ ad bd p1) ⟨⟨_, rfl⟩, by decide +kernel, Nat.le_of_ble_eq_true rfl, Nat.le_of_ble_eq_true rfl⟩ gX11_isThere_X9_has (show ((WX cI cJ cB cZ ad) : va_W)[3]? = some (_, .inr (9, _)) from rfl) rfl rfl hl.1 rfl (Nat.le_of_ble_eq_true rfl) dX11_isThere_5 ⟨Nat.le_of_ble_eq_true rfl, Nat.le_of_ble_eq_true rfl⟩ (fun r_1 u_1 H locs hp_1 h => ?_)
  obtain rfl := hp_1
  have h : Hp D A s.heap (WX cI cJ cB cZ ad) H locs := h
  refine lv_if_eq (tgt := 29) hx hb dX11_isThere_8 (by decide) (fun c_2 => ?_) (fun c_2 => absurd c_2 (by decide))
  refine lv_iconst (v := 0) hx hb dX11_isThere_29 (by decide) ?_
  exact x_iret (w1 := (fun _ => (WX cI cJ cB cZ ad))) () B h hr rfl rfl dX11_isThere_30
set_option maxHeartbeats 4000000 in
set_option maxRecDepth 100000 in
theorem k47_X11_pair (l : Launch) (D : va_G) (cI cJ cB cZ : ClassId) (ad bd : Nat → Nat) (p1 : Int32) (p2 : Int32) : MetI l yX11_pair wsX11_pair 2 42 0 0 D (TYS cI cJ cB cZ) (WX cI cJ cB cZ ad) [.ref (ad 0), .int p1, .int p2] (fun (r : Int32) (_ : Unit) => r = (-1)) (fun _ => (WX cI cJ cB cZ ad)) := by
  refine x_startI (ty := .int) (cc := cX11_pair) (by decide) rfl (Nat.le_of_ble_eq_true rfl) ?_
  intro p e s m args below meth c A ls B hr hnm h hl
  have hx := B.1.1
  have hb := B.1.2.1
  have hml := B.1.2.2.1
  have hts := B.1.2.2.2.2
  have hown : s.vm.findClass RX11 = some m.cls := B.1.2.2.2.1
  have hl : lv_has ls 3 [(0, .ref (ad 0)), (1, .int p1), (2, .int p2)] := hl
  refine lv_aload_n hx hb dX11_pair_0 rfl (lv_at hl 0 rfl) ?_
  refine lv_iload_n hx hb dX11_pair_1 rfl (lv_at hl 1 rfl) ?_
  refine x_cVIF (n := 1) (As := [.int p1]) (rest := []) B h (k46_X11_isThere l D cI cJ cB cZ ad bd p1) ⟨⟨_, rfl⟩, by decide +kernel, Nat.le_of_ble_eq_true rfl, Nat.le_of_ble_eq_true rfl⟩ gX11_pair_X11_isThere (show ((WX cI cJ cB cZ ad) : va_W)[0]? = some (_, .inr (11, _)) from rfl) rfl rfl hl.1 rfl (Nat.le_of_ble_eq_true rfl) dX11_pair_2 ⟨Nat.le_of_ble_eq_true rfl, Nat.le_of_ble_eq_true rfl⟩ (fun r_1 u_1 H locs hp_1 h => ?_)
  obtain rfl := hp_1
  have h : Hp D A s.heap (WX cI cJ cB cZ ad) H locs := h
  refine lv_if_eq (tgt := 32) hx hb dX11_pair_5 (by decide) (fun c_2 => ?_) (fun c_2 => absurd c_2 (by decide))
  refine lv_iconst (v := (-1)) hx hb dX11_pair_32 (by decide) ?_
  exact x_iret (w1 := (fun _ => (WX cI cJ cB cZ ad))) () B h hr rfl rfl dX11_pair_33
set_option maxHeartbeats 4000000 in
set_option maxRecDepth 100000 in
theorem k48_X12_isThere (l : Launch) (D : va_G) (cI cJ cB cZ : ClassId) (ad bd : Nat → Nat) (p1 : Int32) : MetI l yX12_isThere wsX12_isThere 2 43 0 0 D (TYS cI cJ cB cZ) (WM cI cJ cB cZ bd) [.ref (bd 0), .int p1] (fun (r : Int32) (_ : Unit) => r = 0) (fun _ => (WM cI cJ cB cZ bd)) := by
  refine x_startI (ty := .boolean) (cc := cX12_isThere) (by decide) rfl (Nat.le_of_ble_eq_true rfl) ?_
  intro p e s m args below meth c A ls B hr hnm h hl
  have hx := B.1.1
  have hb := B.1.2.1
  have hml := B.1.2.2.1
  have hts := B.1.2.2.2.2
  have hown : s.vm.findClass RX12 = some m.cls := B.1.2.2.2.1
  have hl : lv_has ls 2 [(0, .ref (bd 0)), (1, .int p1)] := hl
  refine lv_aload_n hx hb dX12_isThere_0 rfl (lv_at hl 0 rfl) ?_
  refine lv_iload_n hx hb dX12_isThere_1 rfl (lv_at hl 1 rfl) ?_
  refine x_cVIF (n := 1) (As := [.int p1]) (rest := []) B h (k39_X12_isSimplex l D cI cJ cB cZ ad bd p1) ⟨⟨_, rfl⟩, by decide +kernel, Nat.le_of_ble_eq_true rfl, Nat.le_of_ble_eq_true rfl⟩ gX12_isThere_X12_isSimplex (show ((WM cI cJ cB cZ bd) : va_W)[0]? = some (_, .inr (12, _)) from rfl) rfl rfl hl.1 rfl (Nat.le_of_ble_eq_true rfl) dX12_isThere_2 ⟨Nat.le_of_ble_eq_true rfl, Nat.le_of_ble_eq_true rfl⟩ (fun r_1 u_1 H locs hp_1 h => ?_)
  obtain rfl := hp_1
  have h : Hp D A s.heap (WM cI cJ cB cZ bd) H locs := h
  refine lv_if_eq (tgt := 21) hx hb dX12_isThere_5 (by decide) (fun c_2 => ?_) (fun c_2 => absurd c_2 (by decide))
  refine lv_iconst (v := 0) hx hb dX12_isThere_21 (by decide) ?_
  exact x_iret (w1 := (fun _ => (WM cI cJ cB cZ bd))) () B h hr rfl rfl dX12_isThere_22
set_option maxHeartbeats 4000000 in
set_option maxRecDepth 100000 in
theorem k49_X12_pair (l : Launch) (D : va_G) (cI cJ cB cZ : ClassId) (ad bd : Nat → Nat) (p1 : Int32) (p2 : Int32) : MetI l yX12_pair wsX12_pair 3 64 0 0 D (TYS cI cJ cB cZ) (WM cI cJ cB cZ bd) [.ref (bd 0), .int p1, .int p2] (fun (r : Int32) (_ : Unit) => r = (-1)) (fun _ => (WM cI cJ cB cZ bd)) := by
  refine x_startI (ty := .int) (cc := cX12_pair) (by decide) rfl (Nat.le_of_ble_eq_true rfl) ?_
  intro p e s m args below meth c A ls B hr hnm h hl
  have hx := B.1.1
  have hb := B.1.2.1
  have hml := B.1.2.2.1
  have hts := B.1.2.2.2.2
  have hown : s.vm.findClass RX12 = some m.cls := B.1.2.2.2.1
  have hl : lv_has ls 3 [(0, .ref (bd 0)), (1, .int p1), (2, .int p2)] := hl
  refine lv_aload_n hx hb dX12_pair_0 rfl (lv_at hl 0 rfl) ?_
  refine lv_iload_n hx hb dX12_pair_1 rfl (lv_at hl 1 rfl) ?_
  refine x_cVIF (n := 1) (As := [.int p1]) (rest := []) B h (k48_X12_isThere l D cI cJ cB cZ ad bd p1) ⟨⟨_, rfl⟩, by decide +kernel, Nat.le_of_ble_eq_true rfl, Nat.le_of_ble_eq_true rfl⟩ gX12_pair_X12_isThere (show ((WM cI cJ cB cZ bd) : va_W)[0]? = some (_, .inr (12, _)) from rfl) rfl rfl hl.1 rfl (Nat.le_of_ble_eq_true rfl) dX12_pair_2 ⟨Nat.le_of_ble_eq_true rfl, Nat.le_of_ble_eq_true rfl⟩ (fun r_1 u_1 H locs hp_1 h => ?_)
  obtain rfl := hp_1
  have h : Hp D A s.heap (WM cI cJ cB cZ bd) H locs := h
  refine lv_if_eq (tgt := 34) hx hb dX12_pair_5 (by decide) (fun c_2 => ?_) (fun c_2 => absurd c_2 (by decide))
  refine lv_iconst (v := (-1)) hx hb dX12_pair_34 (by decide) ?_
  exact x_iret (w1 := (fun _ => (WM cI cJ cB cZ bd))) () B h hr rfl rfl dX12_pair_35
set_option maxHeartbeats 4000000 in
set_option maxRecDepth 100000 in
theorem k50_X11_part (l : Launch) (D : va_G) (cI cJ cB cZ : ClassId) (ad bd : Nat → Nat) (p1 : Int32) : MetI l yX11_part wsX11_part 2 42 0 0 D (TYS cI cJ cB cZ) (WX cI cJ cB cZ ad) [.ref (ad 0), .int p1] (fun (r : Int32) (_ : Unit) => r = (-1)) (fun _ => (WX cI cJ cB cZ ad)) := by
  refine x_startI (ty := .int) (cc := cX11_part) (by decide) rfl (Nat.le_of_ble_eq_true rfl) ?_
  intro p e s m args below meth c A ls B hr hnm h hl
  have hx := B.1.1
  have hb := B.1.2.1
  have hml := B.1.2.2.1
  have hts := B.1.2.2.2.2
  have hown : s.vm.findClass RX11 = some m.cls := B.1.2.2.2.1
  have hl : lv_has ls 2 [(0, .ref (ad 0)), (1, .int p1)] := hl
  refine lv_aload_n hx hb dX11_part_0 rfl (lv_at hl 0 rfl) ?_
  refine lv_iload_n hx hb dX11_part_1 rfl (lv_at hl 1 rfl) ?_
  refine x_cVIF (n := 1) (As := [.int p1]) (rest := []) B h (k46_X11_isThere l D cI cJ cB cZ ad bd p1) ⟨⟨_, rfl⟩, by decide +kernel, Nat.le_of_ble_eq_true rfl, Nat.le_of_ble_eq_true rfl⟩ gX11_part_X11_isThere (show ((WX cI cJ cB cZ ad) : va_W)[0]? = some (_, .inr (11, _)) from rfl) rfl rfl hl.1 rfl (Nat.le_of_ble_eq_true rfl) dX11_part_2 ⟨Nat.le_of_ble_eq_true rfl, Nat.le_of_ble_eq_true rfl⟩ (fun r_1 u_1 H locs hp_1 h => ?_)
  obtain rfl := hp_1
  have h : Hp D A s.heap (WX cI cJ cB cZ ad) H locs := h
  refine lv_if_eq (tgt := 21) hx hb dX11_part_5 (by decide) (fun c_2 => ?_) (fun c_2 => absurd c_2 (by decide))
  refine lv_iconst (v := (-1)) hx hb dX11_part_21 (by decide) ?_
  exact x_iret (w1 := (fun _ => (WX cI cJ cB cZ ad))) () B h hr rfl rfl dX11_part_22
set_option maxHeartbeats 4000000 in
set_option maxRecDepth 100000 in
theorem k51_X12_part (l : Launch) (D : va_G) (cI cJ cB cZ : ClassId) (ad bd : Nat → Nat) (p1 : Int32) : MetI l yX12_part wsX12_part 2 43 0 0 D (TYS cI cJ cB cZ) (WM cI cJ cB cZ bd) [.ref (bd 0), .int p1] (fun (r : Int32) (_ : Unit) => r = (-1)) (fun _ => (WM cI cJ cB cZ bd)) := by
  refine x_startI (ty := .int) (cc := cX12_part) (by decide) rfl (Nat.le_of_ble_eq_true rfl) ?_
  intro p e s m args below meth c A ls B hr hnm h hl
  have hx := B.1.1
  have hb := B.1.2.1
  have hml := B.1.2.2.1
  have hts := B.1.2.2.2.2
  have hown : s.vm.findClass RX12 = some m.cls := B.1.2.2.2.1
  have hl : lv_has ls 2 [(0, .ref (bd 0)), (1, .int p1)] := hl
  refine lv_aload_n hx hb dX12_part_0 rfl (lv_at hl 0 rfl) ?_
  refine lv_iload_n hx hb dX12_part_1 rfl (lv_at hl 1 rfl) ?_
  refine x_cVIF (n := 1) (As := [.int p1]) (rest := []) B h (k39_X12_isSimplex l D cI cJ cB cZ ad bd p1) ⟨⟨_, rfl⟩, by decide +kernel, Nat.le_of_ble_eq_true rfl, Nat.le_of_ble_eq_true rfl⟩ gX12_part_X12_isSimplex (show ((WM cI cJ cB cZ bd) : va_W)[0]? = some (_, .inr (12, _)) from rfl) rfl rfl hl.1 rfl (Nat.le_of_ble_eq_true rfl) dX12_part_2 ⟨Nat.le_of_ble_eq_true rfl, Nat.le_of_ble_eq_true rfl⟩ (fun r_1 u_1 H locs hp_1 h => ?_)
  obtain rfl := hp_1
  have h : Hp D A s.heap (WM cI cJ cB cZ bd) H locs := h
  refine lv_if_eq (tgt := 18) hx hb dX12_part_5 (by decide) (fun c_2 => ?_) (fun c_2 => absurd c_2 (by decide))
  refine lv_iconst (v := (-1)) hx hb dX12_part_18 (by decide) ?_
  exact x_iret (w1 := (fun _ => (WM cI cJ cB cZ bd))) () B h hr rfl rfl dX12_part_19
set_option maxHeartbeats 4000000 in
set_option maxRecDepth 100000 in
theorem k52_X11_auto (l : Launch) (D : va_G) (cI cJ cB cZ : ClassId) (ad bd : Nat → Nat) (p1 : Int32) : MetI l yX11_auto wsX11_auto 0 0 0 0 D (TYS cI cJ cB cZ) (WX cI cJ cB cZ ad) [.ref (ad 0), .int p1] (fun (r : Int32) (_ : Unit) => r = (-1)) (fun _ => (WX cI cJ cB cZ ad)) := by
  refine x_startI (ty := .int) (cc := cX11_auto) (by decide) rfl (Nat.le_of_ble_eq_true rfl) ?_
  intro p e s m args below meth c A ls B hr hnm h hl
  have hx := B.1.1
  have hb := B.1.2.1
  have hml := B.1.2.2.1
  have hts := B.1.2.2.2.2
  have hown : s.vm.findClass RX11 = some m.cls := B.1.2.2.2.1
  have hin9 : ∀ w ∈ u_ws RX9 TX9 7, w ∈ wsX11_auto := by decide +kernel
  have hin11 : ∀ w ∈ u_ws RX11 TX11 11, w ∈ wsX11_auto := by decide +kernel
  have hl : lv_has ls 2 [(0, .ref (ad 0)), (1, .int p1)] := hl
  refine lv_iload_n hx hb dX11_auto_0 rfl (lv_at hl 1 rfl) ?_
  refine lv_if_lt (tgt := 19) hx hb dX11_auto_1 (by decide) (fun c_1 => ?_) (fun c_1 => ?_)
  · skip
    refine lv_iconst (v := (-1)) hx hb dX11_auto_19 (by decide) ?_
    exact x_iret (w1 := (fun _ => (WX cI cJ cB cZ ad))) () B h hr rfl rfl dX11_auto_20
  · skip
    refine lv_iload_n hx hb dX11_auto_4 rfl (lv_at hl 1 rfl) ?_
    refine lv_iconst (v := 2) hx hb dX11_auto_5 (by decide) ?_
    refine lv_icmp_gt (tgt := 19) hx hb dX11_auto_6 (by decide) (fun c_2 => ?_) (fun c_2 => ?_)
    · skip
      refine lv_iconst (v := (-1)) hx hb dX11_auto_19 (by decide) ?_
      exact x_iret (w1 := (fun _ => (WX cI cJ cB cZ ad))) () B h hr rfl rfl dX11_auto_20
    · skip
      refine lv_aload_n hx hb dX11_auto_9 rfl (lv_at hl 0 rfl) ?_
      refine x_get (ci := 11) (C := RX11) (T := TX11) (N := 11) (v := .ref (ad 3)) B h hin11 0 2 rfl rfl (by decide) (by decide +kernel) rfl dX11_auto_10 ?_
      refine x_get (ci := 9) (C := RX9) (T := TX9) (N := 7) (v := .int 0) B h hin9 3 0 rfl rfl (by decide) (by decide +kernel) rfl dX11_auto_13 ?_
      refine lv_if_ne (tgt := 21) hx hb dX11_auto_16 (by decide) (fun c_3 => absurd c_3 (by decide)) (fun c_3 => ?_)
      refine lv_iconst (v := (-1)) hx hb dX11_auto_19 (by decide) ?_
      exact x_iret (w1 := (fun _ => (WX cI cJ cB cZ ad))) () B h hr rfl rfl dX11_auto_20
set_option maxHeartbeats 4000000 in
set_option maxRecDepth 100000 in
theorem k53_X12_auto (l : Launch) (D : va_G) (cI cJ cB cZ : ClassId) (ad bd : Nat → Nat) (p1 : Int32) : MetI l yX12_auto wsX12_auto 0 0 0 0 D (TYS cI cJ cB cZ) (WM cI cJ cB cZ bd) [.ref (bd 0), .int p1] (fun (r : Int32) (_ : Unit) => r = (-1)) (fun _ => (WM cI cJ cB cZ bd)) := by
  refine x_startI (ty := .int) (cc := cX12_auto) (by decide) rfl (Nat.le_of_ble_eq_true rfl) ?_
  intro p e s m args below meth c A ls B hr hnm h hl
  have hx := B.1.1
  have hb := B.1.2.1
  have hml := B.1.2.2.1
  have hts := B.1.2.2.2.2
  have hown : s.vm.findClass RX12 = some m.cls := B.1.2.2.2.1
  have hin12 : ∀ w ∈ u_ws RX12 TX12 31, w ∈ wsX12_auto := by decide +kernel
  have hl : lv_has ls 2 [(0, .ref (bd 0)), (1, .int p1)] := hl
  refine lv_aload_n hx hb dX12_auto_0 rfl (lv_at hl 0 rfl) ?_
  refine x_get (ci := 12) (C := RX12) (T := TX12) (N := 31) (v := .int 0) B h hin12 0 5 rfl rfl (by decide) (by decide +kernel) rfl dX12_auto_1 ?_
  refine lv_if_eq (tgt := 16) hx hb dX12_auto_4 (by decide) (fun c_1 => ?_) (fun c_1 => absurd c_1 (by decide))
  refine lv_iconst (v := (-1)) hx hb dX12_auto_16 (by decide) ?_
  exact x_iret (w1 := (fun _ => (WM cI cJ cB cZ bd))) () B h hr rfl rfl dX12_auto_17
set_option maxHeartbeats 4000000 in
set_option maxRecDepth 100000 in
theorem k54_X11_areEnds (l : Launch) (D : va_G) (cI cJ cB cZ : ClassId) (ad bd : Nat → Nat) (p1 : Int32) (p2 : Int32) : MetI l yX11_areEnds wsX11_areEnds 2 42 0 0 D (TYS cI cJ cB cZ) (WX cI cJ cB cZ ad) [.ref (ad 0), .int p1, .int p2] (fun (r : Int32) (_ : Unit) => r = 0) (fun _ => (WX cI cJ cB cZ ad)) := by
  refine x_startI (ty := .boolean) (cc := cX11_areEnds) (by decide) rfl (Nat.le_of_ble_eq_true rfl) ?_
  intro p e s m args below meth c A ls B hr hnm h hl
  have hx := B.1.1
  have hb := B.1.2.1
  have hml := B.1.2.2.1
  have hts := B.1.2.2.2.2
  have hown : s.vm.findClass RX11 = some m.cls := B.1.2.2.2.1
  have hl : lv_has ls 3 [(0, .ref (ad 0)), (1, .int p1), (2, .int p2)] := hl
  refine lv_aload_n hx hb dX11_areEnds_0 rfl (lv_at hl 0 rfl) ?_
  refine lv_iload_n hx hb dX11_areEnds_1 rfl (lv_at hl 1 rfl) ?_
  refine x_cVIF (n := 1) (As := [.int p1]) (rest := []) B h (k46_X11_isThere l D cI cJ cB cZ ad bd p1) ⟨⟨_, rfl⟩, by decide +kernel, Nat.le_of_ble_eq_true rfl, Nat.le_of_ble_eq_true rfl⟩ gX11_areEnds_X11_isThere (show ((WX cI cJ cB cZ ad) : va_W)[0]? = some (_, .inr (11, _)) from rfl) rfl rfl hl.1 rfl (Nat.le_of_ble_eq_true rfl) dX11_areEnds_2 ⟨Nat.le_of_ble_eq_true rfl, Nat.le_of_ble_eq_true rfl⟩ (fun r_1 u_1 H locs hp_1 h => ?_)
  obtain rfl := hp_1
  have h : Hp D A s.heap (WX cI cJ cB cZ ad) H locs := h
  refine lv_if_eq (tgt := 16) hx hb dX11_areEnds_5 (by decide) (fun c_2 => ?_) (fun c_2 => absurd c_2 (by decide))
  refine lv_iconst (v := 0) hx hb dX11_areEnds_16 (by decide) ?_
  exact x_iret (w1 := (fun _ => (WX cI cJ cB cZ ad))) () B h hr rfl rfl dX11_areEnds_17
set_option maxHeartbeats 4000000 in
set_option maxRecDepth 100000 in
theorem k55_X11_cancel (l : Launch) (D : va_G) (cI cJ cB cZ : ClassId) (ad bd : Nat → Nat) (p1 : Int32) (p2 : Int32) : MetI l yX11_cancel wsX11_cancel 3 64 0 0 D (TYS cI cJ cB cZ) (WX cI cJ cB cZ ad) [.ref (ad 0), .int p1, .int p2] (fun (r : Int32) (_ : Unit) => r = (-1)) (fun _ => (WX cI cJ cB cZ ad)) := by
  refine x_startI (ty := .int) (cc := cX11_cancel) (by decide) rfl (Nat.le_of_ble_eq_true rfl) ?_
  intro p e s m args below meth c A ls B hr hnm h hl
  have hx := B.1.1
  have hb := B.1.2.1
  have hml := B.1.2.2.1
  have hts := B.1.2.2.2.2
  have hown : s.vm.findClass RX11 = some m.cls := B.1.2.2.2.1
  have hl : lv_has ls 5 [(0, .ref (ad 0)), (1, .int p1), (2, .int p2)] := hl
  refine lv_aload_n hx hb dX11_cancel_0 rfl (lv_at hl 0 rfl) ?_
  refine lv_iload_n hx hb dX11_cancel_1 rfl (lv_at hl 1 rfl) ?_
  refine lv_iload_n hx hb dX11_cancel_2 rfl (lv_at hl 2 rfl) ?_
  refine x_cVIF (n := 2) (As := [.int p1, .int p2]) (rest := []) B h (k54_X11_areEnds l D cI cJ cB cZ ad bd p1 p2) ⟨⟨_, rfl⟩, by decide +kernel, Nat.le_of_ble_eq_true rfl, Nat.le_of_ble_eq_true rfl⟩ gX11_cancel_X11_areEnds (show ((WX cI cJ cB cZ ad) : va_W)[0]? = some (_, .inr (11, _)) from rfl) rfl rfl hl.1 rfl (Nat.le_of_ble_eq_true rfl) dX11_cancel_3 ⟨Nat.le_of_ble_eq_true rfl, Nat.le_of_ble_eq_true rfl⟩ (fun r_1 u_1 H locs hp_1 h => ?_)
  obtain rfl := hp_1
  have h : Hp D A s.heap (WX cI cJ cB cZ ad) H locs := h
  refine lv_if_ne (tgt := 11) hx hb dX11_cancel_6 (by decide) (fun c_2 => absurd c_2 (by decide)) (fun c_2 => ?_)
  refine lv_iconst (v := (-1)) hx hb dX11_cancel_9 (by decide) ?_
  exact x_iret (w1 := (fun _ => (WX cI cJ cB cZ ad))) () B h hr rfl rfl dX11_cancel_10
set_option maxHeartbeats 4000000 in
set_option maxRecDepth 100000 in
theorem k56_X12_isCritical (l : Launch) (D : va_G) (cI cJ cB cZ : ClassId) (ad bd : Nat → Nat) (p1 : Int32) : MetI l yX12_isCritical wsX12_isCritical 3 64 0 0 D (TYS cI cJ cB cZ) (WM cI cJ cB cZ bd) [.ref (bd 0), .int p1] (fun (r : Int32) (_ : Unit) => r = 0) (fun _ => (WM cI cJ cB cZ bd)) := by
  refine x_startI (ty := .boolean) (cc := cX12_isCritical) (by decide) rfl (Nat.le_of_ble_eq_true rfl) ?_
  intro p e s m args below meth c A ls B hr hnm h hl
  have hx := B.1.1
  have hb := B.1.2.1
  have hml := B.1.2.2.1
  have hts := B.1.2.2.2.2
  have hown : s.vm.findClass RX12 = some m.cls := B.1.2.2.2.1
  have hl : lv_has ls 2 [(0, .ref (bd 0)), (1, .int p1)] := hl
  refine lv_aload_n hx hb dX12_isCritical_0 rfl (lv_at hl 0 rfl) ?_
  refine lv_iload_n hx hb dX12_isCritical_1 rfl (lv_at hl 1 rfl) ?_
  refine x_cVIF (n := 1) (As := [.int p1]) (rest := []) B h (k48_X12_isThere l D cI cJ cB cZ ad bd p1) ⟨⟨_, rfl⟩, by decide +kernel, Nat.le_of_ble_eq_true rfl, Nat.le_of_ble_eq_true rfl⟩ gX12_isCritical_X12_isThere (show ((WM cI cJ cB cZ bd) : va_W)[0]? = some (_, .inr (12, _)) from rfl) rfl rfl hl.1 rfl (Nat.le_of_ble_eq_true rfl) dX12_isCritical_2 ⟨Nat.le_of_ble_eq_true rfl, Nat.le_of_ble_eq_true rfl⟩ (fun r_1 u_1 H locs hp_1 h => ?_)
  obtain rfl := hp_1
  have h : Hp D A s.heap (WM cI cJ cB cZ bd) H locs := h
  refine lv_if_eq (tgt := 22) hx hb dX12_isCritical_5 (by decide) (fun c_2 => ?_) (fun c_2 => absurd c_2 (by decide))
  refine lv_iconst (v := 0) hx hb dX12_isCritical_22 (by decide) ?_
  exact x_iret (w1 := (fun _ => (WM cI cJ cB cZ bd))) () B h hr rfl rfl dX12_isCritical_23
set_option maxHeartbeats 4000000 in
set_option maxRecDepth 100000 in
theorem k57_X12_areEnds (l : Launch) (D : va_G) (cI cJ cB cZ : ClassId) (ad bd : Nat → Nat) (p1 : Int32) (p2 : Int32) : MetI l yX12_areEnds wsX12_areEnds 4 85 0 0 D (TYS cI cJ cB cZ) (WM cI cJ cB cZ bd) [.ref (bd 0), .int p1, .int p2] (fun (r : Int32) (_ : Unit) => r = 0) (fun _ => (WM cI cJ cB cZ bd)) := by
  refine x_startI (ty := .boolean) (cc := cX12_areEnds) (by decide) rfl (Nat.le_of_ble_eq_true rfl) ?_
  intro p e s m args below meth c A ls B hr hnm h hl
  have hx := B.1.1
  have hb := B.1.2.1
  have hml := B.1.2.2.1
  have hts := B.1.2.2.2.2
  have hown : s.vm.findClass RX12 = some m.cls := B.1.2.2.2.1
  have hl : lv_has ls 3 [(0, .ref (bd 0)), (1, .int p1), (2, .int p2)] := hl
  refine lv_aload_n hx hb dX12_areEnds_0 rfl (lv_at hl 0 rfl) ?_
  refine lv_iload_n hx hb dX12_areEnds_1 rfl (lv_at hl 1 rfl) ?_
  refine x_cVIF (n := 1) (As := [.int p1]) (rest := []) B h (k56_X12_isCritical l D cI cJ cB cZ ad bd p1) ⟨⟨_, rfl⟩, by decide +kernel, Nat.le_of_ble_eq_true rfl, Nat.le_of_ble_eq_true rfl⟩ gX12_areEnds_X12_isCritical (show ((WM cI cJ cB cZ bd) : va_W)[0]? = some (_, .inr (12, _)) from rfl) rfl rfl hl.1 rfl (Nat.le_of_ble_eq_true rfl) dX12_areEnds_2 ⟨Nat.le_of_ble_eq_true rfl, Nat.le_of_ble_eq_true rfl⟩ (fun r_1 u_1 H locs hp_1 h => ?_)
  obtain rfl := hp_1
  have h : Hp D A s.heap (WM cI cJ cB cZ bd) H locs := h
  refine lv_if_eq (tgt := 35) hx hb dX12_areEnds_5 (by decide) (fun c_2 => ?_) (fun c_2 => absurd c_2 (by decide))
  refine lv_iconst (v := 0) hx hb dX12_areEnds_35 (by decide) ?_
  exact x_iret (w1 := (fun _ => (WM cI cJ cB cZ bd))) () B h hr rfl rfl dX12_areEnds_36
set_option maxHeartbeats 4000000 in
set_option maxRecDepth 100000 in
theorem k58_X12_cancel (l : Launch) (D : va_G) (cI cJ cB cZ : ClassId) (ad bd : Nat → Nat) (p1 : Int32) (p2 : Int32) : MetI l yX12_cancel wsX12_cancel 5 107 0 0 D (TYS cI cJ cB cZ) (WM cI cJ cB cZ bd) [.ref (bd 0), .int p1, .int p2] (fun (r : Int32) (_ : Unit) => r = (-1)) (fun _ => (WM cI cJ cB cZ bd)) := by
  refine x_startI (ty := .int) (cc := cX12_cancel) (by decide) rfl (Nat.le_of_ble_eq_true rfl) ?_
  intro p e s m args below meth c A ls B hr hnm h hl
  have hx := B.1.1
  have hb := B.1.2.1
  have hml := B.1.2.2.1
  have hts := B.1.2.2.2.2
  have hown : s.vm.findClass RX12 = some m.cls := B.1.2.2.2.1
  have hl : lv_has ls 4 [(0, .ref (bd 0)), (1, .int p1), (2, .int p2)] := hl
  refine lv_aload_n hx hb dX12_cancel_0 rfl (lv_at hl 0 rfl) ?_
  refine lv_iload_n hx hb dX12_cancel_1 rfl (lv_at hl 1 rfl) ?_
  refine lv_iload_n hx hb dX12_cancel_2 rfl (lv_at hl 2 rfl) ?_
  refine x_cVIF (n := 2) (As := [.int p1, .int p2]) (rest := []) B h (k57_X12_areEnds l D cI cJ cB cZ ad bd p1 p2) ⟨⟨_, rfl⟩, by decide +kernel, Nat.le_of_ble_eq_true rfl, Nat.le_of_ble_eq_true rfl⟩ gX12_cancel_X12_areEnds (show ((WM cI cJ cB cZ bd) : va_W)[0]? = some (_, .inr (12, _)) from rfl) rfl rfl hl.1 rfl (Nat.le_of_ble_eq_true rfl) dX12_cancel_3 ⟨Nat.le_of_ble_eq_true rfl, Nat.le_of_ble_eq_true rfl⟩ (fun r_1 u_1 H locs hp_1 h => ?_)
  obtain rfl := hp_1
  have h : Hp D A s.heap (WM cI cJ cB cZ bd) H locs := h
  refine lv_if_ne (tgt := 11) hx hb dX12_cancel_6 (by decide) (fun c_2 => absurd c_2 (by decide)) (fun c_2 => ?_)
  refine lv_iconst (v := (-1)) hx hb dX12_cancel_9 (by decide) ?_
  exact x_iret (w1 := (fun _ => (WM cI cJ cB cZ bd))) () B h hr rfl rfl dX12_cancel_10
set_option maxHeartbeats 4000000 in
set_option maxRecDepth 100000 in
theorem k59_X11_collapse (l : Launch) (D : va_G) (cI cJ cB cZ : ClassId) (ad bd : Nat → Nat) (p1 : Int32) : MetI l yX11_collapse wsX11_collapse 2 42 0 0 D (TYS cI cJ cB cZ) (WX cI cJ cB cZ ad) [.ref (ad 0), .int p1] (fun (r : Int32) (_ : Unit) => r = (-1)) (fun _ => (WX cI cJ cB cZ ad)) := by
  refine x_startI (ty := .int) (cc := cX11_collapse) (by decide) rfl (Nat.le_of_ble_eq_true rfl) ?_
  intro p e s m args below meth c A ls B hr hnm h hl
  have hx := B.1.1
  have hb := B.1.2.1
  have hml := B.1.2.2.1
  have hts := B.1.2.2.2.2
  have hown : s.vm.findClass RX11 = some m.cls := B.1.2.2.2.1
  have hl : lv_has ls 3 [(0, .ref (ad 0)), (1, .int p1)] := hl
  refine lv_aload_n hx hb dX11_collapse_0 rfl (lv_at hl 0 rfl) ?_
  refine lv_iload_n hx hb dX11_collapse_1 rfl (lv_at hl 1 rfl) ?_
  refine x_cVIF (n := 1) (As := [.int p1]) (rest := []) B h (k46_X11_isThere l D cI cJ cB cZ ad bd p1) ⟨⟨_, rfl⟩, by decide +kernel, Nat.le_of_ble_eq_true rfl, Nat.le_of_ble_eq_true rfl⟩ gX11_collapse_X11_isThere (show ((WX cI cJ cB cZ ad) : va_W)[0]? = some (_, .inr (11, _)) from rfl) rfl rfl hl.1 rfl (Nat.le_of_ble_eq_true rfl) dX11_collapse_2 ⟨Nat.le_of_ble_eq_true rfl, Nat.le_of_ble_eq_true rfl⟩ (fun r_1 u_1 H locs hp_1 h => ?_)
  obtain rfl := hp_1
  have h : Hp D A s.heap (WX cI cJ cB cZ ad) H locs := h
  refine lv_if_ne (tgt := 10) hx hb dX11_collapse_5 (by decide) (fun c_2 => absurd c_2 (by decide)) (fun c_2 => ?_)
  refine lv_iconst (v := (-1)) hx hb dX11_collapse_8 (by decide) ?_
  exact x_iret (w1 := (fun _ => (WX cI cJ cB cZ ad))) () B h hr rfl rfl dX11_collapse_9
set_option maxHeartbeats 4000000 in
set_option maxRecDepth 100000 in
theorem k60_X12_collapse (l : Launch) (D : va_G) (cI cJ cB cZ : ClassId) (ad bd : Nat → Nat) (p1 : Int32) : MetI l yX12_collapse wsX12_collapse 3 64 0 0 D (TYS cI cJ cB cZ) (WM cI cJ cB cZ bd) [.ref (bd 0), .int p1] (fun (r : Int32) (_ : Unit) => r = (-1)) (fun _ => (WM cI cJ cB cZ bd)) := by
  refine x_startI (ty := .int) (cc := cX12_collapse) (by decide) rfl (Nat.le_of_ble_eq_true rfl) ?_
  intro p e s m args below meth c A ls B hr hnm h hl
  have hx := B.1.1
  have hb := B.1.2.1
  have hml := B.1.2.2.1
  have hts := B.1.2.2.2.2
  have hown : s.vm.findClass RX12 = some m.cls := B.1.2.2.2.1
  have hl : lv_has ls 3 [(0, .ref (bd 0)), (1, .int p1)] := hl
  refine lv_aload_n hx hb dX12_collapse_0 rfl (lv_at hl 0 rfl) ?_
  refine lv_iload_n hx hb dX12_collapse_1 rfl (lv_at hl 1 rfl) ?_
  refine x_cVIF (n := 1) (As := [.int p1]) (rest := []) B h (k48_X12_isThere l D cI cJ cB cZ ad bd p1) ⟨⟨_, rfl⟩, by decide +kernel, Nat.le_of_ble_eq_true rfl, Nat.le_of_ble_eq_true rfl⟩ gX12_collapse_X12_isThere (show ((WM cI cJ cB cZ bd) : va_W)[0]? = some (_, .inr (12, _)) from rfl) rfl rfl hl.1 rfl (Nat.le_of_ble_eq_true rfl) dX12_collapse_2 ⟨Nat.le_of_ble_eq_true rfl, Nat.le_of_ble_eq_true rfl⟩ (fun r_1 u_1 H locs hp_1 h => ?_)
  obtain rfl := hp_1
  have h : Hp D A s.heap (WM cI cJ cB cZ bd) H locs := h
  refine lv_if_ne (tgt := 10) hx hb dX12_collapse_5 (by decide) (fun c_2 => absurd c_2 (by decide)) (fun c_2 => ?_)
  refine lv_iconst (v := (-1)) hx hb dX12_collapse_8 (by decide) ?_
  exact x_iret (w1 := (fun _ => (WM cI cJ cB cZ bd))) () B h hr rfl rfl dX12_collapse_9
set_option maxHeartbeats 4000000 in
set_option maxRecDepth 100000 in
theorem k61_X11_undo (l : Launch) (D : va_G) (cI cJ cB cZ : ClassId) (ad bd : Nat → Nat) : MetI l yX11_undo wsX11_undo 0 0 0 0 D (TYS cI cJ cB cZ) (WX cI cJ cB cZ ad) [.ref (ad 0)] (fun (r : Int32) (_ : Unit) => r = (-1)) (fun _ => (WX cI cJ cB cZ ad)) := by
  refine x_startI (ty := .int) (cc := cX11_undo) (by decide) rfl (Nat.le_of_ble_eq_true rfl) ?_
  intro p e s m args below meth c A ls B hr hnm h hl
  have hx := B.1.1
  have hb := B.1.2.1
  have hml := B.1.2.2.1
  have hts := B.1.2.2.2.2
  have hown : s.vm.findClass RX11 = some m.cls := B.1.2.2.2.1
  have hin3 : ∀ w ∈ u_ws RX3 TX3 4, w ∈ wsX11_undo := by decide +kernel
  have hin11 : ∀ w ∈ u_ws RX11 TX11 11, w ∈ wsX11_undo := by decide +kernel
  have hl : lv_has ls 1 [(0, .ref (ad 0))] := hl
  refine lv_aload_n hx hb dX11_undo_0 rfl (lv_at hl 0 rfl) ?_
  refine x_get (ci := 11) (C := RX11) (T := TX11) (N := 11) (v := .ref (ad 9)) B h hin11 0 8 rfl rfl (by decide) (by decide +kernel) rfl dX11_undo_1 ?_
  refine x_get (ci := 3) (C := RX3) (T := TX3) (N := 4) (v := .int 0) B h hin3 9 2 rfl rfl (by decide) (by decide +kernel) rfl dX11_undo_4 ?_
  refine lv_if_ne (tgt := 12) hx hb dX11_undo_7 (by decide) (fun c_1 => absurd c_1 (by decide)) (fun c_1 => ?_)
  refine lv_iconst (v := (-1)) hx hb dX11_undo_10 (by decide) ?_
  exact x_iret (w1 := (fun _ => (WX cI cJ cB cZ ad))) () B h hr rfl rfl dX11_undo_11
set_option maxHeartbeats 4000000 in
set_option maxRecDepth 100000 in
theorem k62_X12_undo (l : Launch) (D : va_G) (cI cJ cB cZ : ClassId) (ad bd : Nat → Nat) : MetI l yX12_undo wsX12_undo 0 0 0 0 D (TYS cI cJ cB cZ) (WM cI cJ cB cZ bd) [.ref (bd 0)] (fun (r : Int32) (_ : Unit) => r = (-1)) (fun _ => (WM cI cJ cB cZ bd)) := by
  refine x_startI (ty := .int) (cc := cX12_undo) (by decide) rfl (Nat.le_of_ble_eq_true rfl) ?_
  intro p e s m args below meth c A ls B hr hnm h hl
  have hx := B.1.1
  have hb := B.1.2.1
  have hml := B.1.2.2.1
  have hts := B.1.2.2.2.2
  have hown : s.vm.findClass RX12 = some m.cls := B.1.2.2.2.1
  have hin12 : ∀ w ∈ u_ws RX12 TX12 31, w ∈ wsX12_undo := by decide +kernel
  have hl : lv_has ls 3 [(0, .ref (bd 0))] := hl
  refine lv_aload_n hx hb dX12_undo_0 rfl (lv_at hl 0 rfl) ?_
  refine x_get (ci := 12) (C := RX12) (T := TX12) (N := 31) (v := .int 0) B h hin12 0 13 rfl rfl (by decide) (by decide +kernel) rfl dX12_undo_1 ?_
  refine lv_if_ne (tgt := 9) hx hb dX12_undo_4 (by decide) (fun c_1 => absurd c_1 (by decide)) (fun c_1 => ?_)
  refine lv_iconst (v := (-1)) hx hb dX12_undo_7 (by decide) ?_
  exact x_iret (w1 := (fun _ => (WM cI cJ cB cZ bd))) () B h hr rfl rfl dX12_undo_8
set_option maxHeartbeats 4000000 in
set_option maxRecDepth 100000 in
theorem k63_X11_isDim (l : Launch) (D : va_G) (cI cJ cB cZ : ClassId) (ad bd : Nat → Nat) (p0 : Int32) : MetI l yX11_isDim wsX11_isDim 0 0 0 0 D (TYS cI cJ cB cZ) [] [.int p0] (fun (r : Int32) (u : Nat) => (u = 0 ∧ (p0 < 0) ∧ r = 0) ∨ (u = 1 ∧ (¬ p0 < 0) ∧ (5 ≤ p0) ∧ r = 0) ∨ (u = 2 ∧ (¬ p0 < 0) ∧ (¬ 5 ≤ p0) ∧ r = 1)) (fun _ => []) := by
  refine x_startI (ty := .boolean) (cc := cX11_isDim) (by decide) rfl (Nat.le_of_ble_eq_true rfl) ?_
  intro p e s m args below meth c A ls B hr hnm h hl
  have hx := B.1.1
  have hb := B.1.2.1
  have hml := B.1.2.2.1
  have hts := B.1.2.2.2.2
  have hown : s.vm.findClass RX11 = some m.cls := B.1.2.2.2.1
  have hl : lv_has ls 1 [(0, .int p0)] := hl
  refine lv_iload_n hx hb dX11_isDim_0 rfl (lv_at hl 0 rfl) ?_
  refine lv_if_lt (tgt := 13) hx hb dX11_isDim_1 (by decide) (fun c_1 => ?_) (fun c_1 => ?_)
  · skip
    refine lv_iconst (v := 0) hx hb dX11_isDim_13 (by decide) ?_
    exact x_iret (w1 := (fun _ => [])) 0 B h hr rfl (Or.inl ⟨rfl, c_1, rfl⟩) dX11_isDim_14
  · skip
    refine lv_iload_n hx hb dX11_isDim_4 rfl (lv_at hl 0 rfl) ?_
    refine lv_iconst (v := 5) hx hb dX11_isDim_5 (by decide) ?_
    refine lv_icmp_ge (tgt := 13) hx hb dX11_isDim_6 (by decide) (fun c_2 => ?_) (fun c_2 => ?_)
    · skip
      refine lv_iconst (v := 0) hx hb dX11_isDim_13 (by decide) ?_
      exact x_iret (w1 := (fun _ => [])) 1 B h hr rfl (Or.inr (Or.inl ⟨rfl, c_1, c_2, rfl⟩)) dX11_isDim_14
    · skip
      refine lv_iconst (v := 1) hx hb dX11_isDim_9 (by decide) ?_
      refine lv_goto (tgt := 14) hx hb dX11_isDim_10 (by decide) ?_
      exact x_iret (w1 := (fun _ => [])) 2 B h hr rfl (Or.inr (Or.inr (⟨rfl, c_1, c_2, rfl⟩))) dX11_isDim_14
set_option maxHeartbeats 4000000 in
set_option maxRecDepth 100000 in
theorem k64_X6_unpaired (l : Launch) (D : va_G) (cI cJ cB cZ : ClassId) (ad bd : Nat → Nat) : MetL l yX6_unpaired wsX6_unpaired 0 0 0 0 D (TYS cI cJ cB cZ) (WX cI cJ cB cZ ad) [.ref (ad 4)] (fun (r : Int64) (_ : Unit) => r = 0) (fun _ => (WX cI cJ cB cZ ad)) := by
  refine x_startL (ty := .long) (cc := cX6_unpaired) (by decide) rfl (Nat.le_of_ble_eq_true rfl) ?_
  intro p e s m args below meth c A ls B hr hnm h hl
  have hx := B.1.1
  have hb := B.1.2.1
  have hml := B.1.2.2.1
  have hts := B.1.2.2.2.2
  have hown : s.vm.findClass RX6 = some m.cls := B.1.2.2.2.1
  have hin6 : ∀ w ∈ u_ws RX6 TX6 6, w ∈ wsX6_unpaired := by decide +kernel
  have hl : lv_has ls 1 [(0, .ref (ad 4))] := hl
  refine lv_aload_n hx hb dX6_unpaired_0 rfl (lv_at hl 0 rfl) ?_
  refine x_get (ci := 6) (C := RX6) (T := TX6) (N := 6) (v := .long 0) B h hin6 4 2 rfl rfl (by decide) (by decide +kernel) rfl dX6_unpaired_1 ?_
  refine lv_aload_n hx hb dX6_unpaired_4 rfl (lv_at hl 0 rfl) ?_
  refine x_get (ci := 6) (C := RX6) (T := TX6) (N := 6) (v := .long 0) B h hin6 4 3 rfl rfl (by decide) (by decide +kernel) rfl dX6_unpaired_5 ?_
  refine lv_aload_n hx hb dX6_unpaired_8 rfl (lv_at hl 0 rfl) ?_
  refine x_get (ci := 6) (C := RX6) (T := TX6) (N := 6) (v := .long 0) B h hin6 4 4 rfl rfl (by decide) (by decide +kernel) rfl dX6_unpaired_9 ?_
  refine lv_lor hx hb dX6_unpaired_12 ?_
  refine lv_topl (fun v_1 ev_1 => ?_)
  obtain rfl : v_1 = 0 := ev_1.trans (by decide)
  refine lv_ldc2 (v := (-1)) hx hb hown (hts (.constantLong RX6 43 (-1)) (by decide +kernel)) dX6_unpaired_13 ?_
  refine lv_lxor hx hb dX6_unpaired_16 ?_
  refine lv_topl (fun v_2 ev_2 => ?_)
  obtain rfl : v_2 = (-1) := ev_2.trans (by decide)
  refine lv_land hx hb dX6_unpaired_17 ?_
  refine lv_topl (fun v_3 ev_3 => ?_)
  obtain rfl : v_3 = 0 := ev_3.trans (by decide)
  exact x_lret (w1 := (fun _ => (WX cI cJ cB cZ ad))) () B h hr rfl dX6_unpaired_18
set_option maxHeartbeats 4000000 in
set_option maxRecDepth 100000 in
theorem k65_J13_bitCount_95d88 (l : Launch) (D : va_G) (cI cJ cB cZ : ClassId) (ad bd : Nat → Nat) : MetI l yJ13_bitCount_95d88 wsJ13_bitCount_95d88 0 0 0 0 D (TYS cI cJ cB cZ) [] [.long 0] (fun (r : Int32) (_ : Unit) => r = 0) (fun _ => []) := by
  refine x_startI (ty := .int) (cc := cJ13_bitCount_95d88) (by decide) rfl (Nat.le_of_ble_eq_true rfl) ?_
  intro p e s m args below meth c A ls B hr hnm h hl
  have hx := B.1.1
  have hb := B.1.2.1
  have hml := B.1.2.2.1
  have hts := B.1.2.2.2.2
  have hown : s.vm.findClass RJ13 = some m.cls := B.1.2.2.2.1
  have hl : lv_has ls 2 [(0, .long 0)] := hl
  refine lv_lload_n hx hb dJ13_bitCount_95d88_0 rfl (lv_at hl 0 rfl) ?_
  refine lv_lload_n hx hb dJ13_bitCount_95d88_1 rfl (lv_at hl 0 rfl) ?_
  refine lv_iconst (v := 1) hx hb dJ13_bitCount_95d88_2 (by decide) ?_
  refine lv_lushr (v := 0) hx hb dJ13_bitCount_95d88_3 (by decide) ?_
  refine lv_ldc2 (v := 6148914691236517205) hx hb hown (hts (.constantLong RJ13 314 6148914691236517205) (by decide +kernel)) dJ13_bitCount_95d88_4 ?_
  refine lv_land hx hb dJ13_bitCount_95d88_7 ?_
  refine lv_topl (fun v_1 ev_1 => ?_)
  obtain rfl : v_1 = 0 := ev_1.trans (by decide)
  refine lv_lsub hx hb dJ13_bitCount_95d88_8 ?_
  refine lv_topl (fun v_2 ev_2 => ?_)
  obtain rfl : v_2 = 0 := ev_2.trans (by decide)
  refine lv_lstore_n (lv' := [(0, .long 0)]) hx hb dJ13_bitCount_95d88_9 rfl hl (by decide) rfl (fun ls hl => ?_)
  refine lv_lload_n hx hb dJ13_bitCount_95d88_10 rfl (lv_at hl 0 rfl) ?_
  refine lv_ldc2 (v := 3689348814741910323) hx hb hown (hts (.constantLong RJ13 316 3689348814741910323) (by decide +kernel)) dJ13_bitCount_95d88_11 ?_
  refine lv_land hx hb dJ13_bitCount_95d88_14 ?_
  refine lv_topl (fun v_3 ev_3 => ?_)
  obtain rfl : v_3 = 0 := ev_3.trans (by decide)
  refine lv_lload_n hx hb dJ13_bitCount_95d88_15 rfl (lv_at hl 0 rfl) ?_
  refine lv_iconst (v := 2) hx hb dJ13_bitCount_95d88_16 (by decide) ?_
  refine lv_lushr (v := 0) hx hb dJ13_bitCount_95d88_17 (by decide) ?_
  refine lv_ldc2 (v := 3689348814741910323) hx hb hown (hts (.constantLong RJ13 316 3689348814741910323) (by decide +kernel)) dJ13_bitCount_95d88_18 ?_
  refine lv_land hx hb dJ13_bitCount_95d88_21 ?_
  refine lv_topl (fun v_4 ev_4 => ?_)
  obtain rfl : v_4 = 0 := ev_4.trans (by decide)
  refine lv_ladd hx hb dJ13_bitCount_95d88_22 ?_
  refine lv_topl (fun v_5 ev_5 => ?_)
  obtain rfl : v_5 = 0 := ev_5.trans (by decide)
  refine lv_lstore_n (lv' := [(0, .long 0)]) hx hb dJ13_bitCount_95d88_23 rfl hl (by decide) rfl (fun ls hl => ?_)
  refine lv_lload_n hx hb dJ13_bitCount_95d88_24 rfl (lv_at hl 0 rfl) ?_
  refine lv_lload_n hx hb dJ13_bitCount_95d88_25 rfl (lv_at hl 0 rfl) ?_
  refine lv_iconst (v := 4) hx hb dJ13_bitCount_95d88_26 (by decide) ?_
  refine lv_lushr (v := 0) hx hb dJ13_bitCount_95d88_27 (by decide) ?_
  refine lv_ladd hx hb dJ13_bitCount_95d88_28 ?_
  refine lv_topl (fun v_6 ev_6 => ?_)
  obtain rfl : v_6 = 0 := ev_6.trans (by decide)
  refine lv_ldc2 (v := 1085102592571150095) hx hb hown (hts (.constantLong RJ13 318 1085102592571150095) (by decide +kernel)) dJ13_bitCount_95d88_29 ?_
  refine lv_land hx hb dJ13_bitCount_95d88_32 ?_
  refine lv_topl (fun v_7 ev_7 => ?_)
  obtain rfl : v_7 = 0 := ev_7.trans (by decide)
  refine lv_lstore_n (lv' := [(0, .long 0)]) hx hb dJ13_bitCount_95d88_33 rfl hl (by decide) rfl (fun ls hl => ?_)
  refine lv_lload_n hx hb dJ13_bitCount_95d88_34 rfl (lv_at hl 0 rfl) ?_
  refine lv_lload_n hx hb dJ13_bitCount_95d88_35 rfl (lv_at hl 0 rfl) ?_
  refine lv_bipush (v := 8) hx hb dJ13_bitCount_95d88_36 (by decide) ?_
  refine lv_lushr (v := 0) hx hb dJ13_bitCount_95d88_38 (by decide) ?_
  refine lv_ladd hx hb dJ13_bitCount_95d88_39 ?_
  refine lv_topl (fun v_8 ev_8 => ?_)
  obtain rfl : v_8 = 0 := ev_8.trans (by decide)
  refine lv_lstore_n (lv' := [(0, .long 0)]) hx hb dJ13_bitCount_95d88_40 rfl hl (by decide) rfl (fun ls hl => ?_)
  refine lv_lload_n hx hb dJ13_bitCount_95d88_41 rfl (lv_at hl 0 rfl) ?_
  refine lv_lload_n hx hb dJ13_bitCount_95d88_42 rfl (lv_at hl 0 rfl) ?_
  refine lv_bipush (v := 16) hx hb dJ13_bitCount_95d88_43 (by decide) ?_
  refine lv_lushr (v := 0) hx hb dJ13_bitCount_95d88_45 (by decide) ?_
  refine lv_ladd hx hb dJ13_bitCount_95d88_46 ?_
  refine lv_topl (fun v_9 ev_9 => ?_)
  obtain rfl : v_9 = 0 := ev_9.trans (by decide)
  refine lv_lstore_n (lv' := [(0, .long 0)]) hx hb dJ13_bitCount_95d88_47 rfl hl (by decide) rfl (fun ls hl => ?_)
  refine lv_lload_n hx hb dJ13_bitCount_95d88_48 rfl (lv_at hl 0 rfl) ?_
  refine lv_lload_n hx hb dJ13_bitCount_95d88_49 rfl (lv_at hl 0 rfl) ?_
  refine lv_bipush (v := 32) hx hb dJ13_bitCount_95d88_50 (by decide) ?_
  refine lv_lushr (v := 0) hx hb dJ13_bitCount_95d88_52 (by decide) ?_
  refine lv_ladd hx hb dJ13_bitCount_95d88_53 ?_
  refine lv_topl (fun v_10 ev_10 => ?_)
  obtain rfl : v_10 = 0 := ev_10.trans (by decide)
  refine lv_lstore_n (lv' := [(0, .long 0)]) hx hb dJ13_bitCount_95d88_54 rfl hl (by decide) rfl (fun ls hl => ?_)
  refine lv_lload_n hx hb dJ13_bitCount_95d88_55 rfl (lv_at hl 0 rfl) ?_
  refine lv_l2i (v := 0) hx hb dJ13_bitCount_95d88_56 (by decide) ?_
  refine lv_bipush (v := 127) hx hb dJ13_bitCount_95d88_57 (by decide) ?_
  refine lv_iand hx hb dJ13_bitCount_95d88_59 ?_
  refine lv_topi (fun v_11 ev_11 => ?_)
  obtain rfl : v_11 = 0 := ev_11.trans (by decide)
  exact x_iret (w1 := (fun _ => [])) () B h hr rfl rfl dJ13_bitCount_95d88_60
set_option maxHeartbeats 4000000 in
set_option maxRecDepth 100000 in
theorem k66_J13_bitCount_95d88 (l : Launch) (D : va_G) (cI cJ cB cZ : ClassId) (ad bd : Nat → Nat) : MetI l yJ13_bitCount_95d88 wsJ13_bitCount_95d88 0 0 0 0 D (TYS cI cJ cB cZ) [] [.long (-1)] (fun (r : Int32) (_ : Unit) => r = 64) (fun _ => []) := by
  refine x_startI (ty := .int) (cc := cJ13_bitCount_95d88) (by decide) rfl (Nat.le_of_ble_eq_true rfl) ?_
  intro p e s m args below meth c A ls B hr hnm h hl
  have hx := B.1.1
  have hb := B.1.2.1
  have hml := B.1.2.2.1
  have hts := B.1.2.2.2.2
  have hown : s.vm.findClass RJ13 = some m.cls := B.1.2.2.2.1
  have hl : lv_has ls 2 [(0, .long (-1))] := hl
  refine lv_lload_n hx hb dJ13_bitCount_95d88_0 rfl (lv_at hl 0 rfl) ?_
  refine lv_lload_n hx hb dJ13_bitCount_95d88_1 rfl (lv_at hl 0 rfl) ?_
  refine lv_iconst (v := 1) hx hb dJ13_bitCount_95d88_2 (by decide) ?_
  refine lv_lushr (v := 9223372036854775807) hx hb dJ13_bitCount_95d88_3 (by decide) ?_
  refine lv_ldc2 (v := 6148914691236517205) hx hb hown (hts (.constantLong RJ13 314 6148914691236517205) (by decide +kernel)) dJ13_bitCount_95d88_4 ?_
  refine lv_land hx hb dJ13_bitCount_95d88_7 ?_
  refine lv_topl (fun v_1 ev_1 => ?_)
  obtain rfl : v_1 = 6148914691236517205 := ev_1.trans (by decide)
  refine lv_lsub hx hb dJ13_bitCount_95d88_8 ?_
  refine lv_topl (fun v_2 ev_2 => ?_)
  obtain rfl : v_2 = (-6148914691236517206) := ev_2.trans (by decide)
  refine lv_lstore_n (lv' := [(0, .long (-6148914691236517206))]) hx hb dJ13_bitCount_95d88_9 rfl hl (by decide) rfl (fun ls hl => ?_)
  refine lv_lload_n hx hb dJ13_bitCount_95d88_10 rfl (lv_at hl 0 rfl) ?_
  refine lv_ldc2 (v := 3689348814741910323) hx hb hown (hts (.constantLong RJ13 316 3689348814741910323) (by decide +kernel)) dJ13_bitCount_95d88_11 ?_
  refine lv_land hx hb dJ13_bitCount_95d88_14 ?_
  refine lv_topl (fun v_3 ev_3 => ?_)
  obtain rfl : v_3 = 2459565876494606882 := ev_3.trans (by decide)
  refine lv_lload_n hx hb dJ13_bitCount_95d88_15 rfl (lv_at hl 0 rfl) ?_
  refine lv_iconst (v := 2) hx hb dJ13_bitCount_95d88_16 (by decide) ?_
  refine lv_lushr (v := 3074457345618258602) hx hb dJ13_bitCount_95d88_17 (by decide) ?_
  refine lv_ldc2 (v := 3689348814741910323) hx hb hown (hts (.constantLong RJ13 316 3689348814741910323) (by decide +kernel)) dJ13_bitCount_95d88_18 ?_
  refine lv_land hx hb dJ13_bitCount_95d88_21 ?_
  refine lv_topl (fun v_4 ev_4 => ?_)
  obtain rfl : v_4 = 2459565876494606882 := ev_4.trans (by decide)
  refine lv_ladd hx hb dJ13_bitCount_95d88_22 ?_
  refine lv_topl (fun v_5 ev_5 => ?_)
  obtain rfl : v_5 = 4919131752989213764 := ev_5.trans (by decide)
  refine lv_lstore_n (lv' := [(0, .long 4919131752989213764)]) hx hb dJ13_bitCount_95d88_23 rfl hl (by decide) rfl (fun ls hl => ?_)
  refine lv_lload_n hx hb dJ13_bitCount_95d88_24 rfl (lv_at hl 0 rfl) ?_
  refine lv_lload_n hx hb dJ13_bitCount_95d88_25 rfl (lv_at hl 0 rfl) ?_
  refine lv_iconst (v := 4) hx hb dJ13_bitCount_95d88_26 (by decide) ?_
  refine lv_lushr (v := 307445734561825860) hx hb dJ13_bitCount_95d88_27 (by decide) ?_
  refine lv_ladd hx hb dJ13_bitCount_95d88_28 ?_
  refine lv_topl (fun v_6 ev_6 => ?_)
  obtain rfl : v_6 = 5226577487551039624 := ev_6.trans (by decide)
  refine lv_ldc2 (v := 1085102592571150095) hx hb hown (hts (.constantLong RJ13 318 1085102592571150095) (by decide +kernel)) dJ13_bitCount_95d88_29 ?_
  refine lv_land hx hb dJ13_bitCount_95d88_32 ?_
  refine lv_topl (fun v_7 ev_7 => ?_)
  obtain rfl : v_7 = 578721382704613384 := ev_7.trans (by decide)
  refine lv_lstore_n (lv' := [(0, .long 578721382704613384)]) hx hb dJ13_bitCount_95d88_33 rfl hl (by decide) rfl (fun ls hl => ?_)
  refine lv_lload_n hx hb dJ13_bitCount_95d88_34 rfl (lv_at hl 0 rfl) ?_
  refine lv_lload_n hx hb dJ13_bitCount_95d88_35 rfl (lv_at hl 0 rfl) ?_
  refine lv_bipush (v := 8) hx hb dJ13_bitCount_95d88_36 (by decide) ?_
  refine lv_lushr (v := 2260630401189896) hx hb dJ13_bitCount_95d88_38 (by decide) ?_
  refine lv_ladd hx hb dJ13_bitCount_95d88_39 ?_
  refine lv_topl (fun v_8 ev_8 => ?_)
  obtain rfl : v_8 = 580982013105803280 := ev_8.trans (by decide)
  refine lv_lstore_n (lv' := [(0, .long 580982013105803280)]) hx hb dJ13_bitCount_95d88_40 rfl hl (by decide) rfl (fun ls hl => ?_)
  refine lv_lload_n hx hb dJ13_bitCount_95d88_41 rfl (lv_at hl 0 rfl) ?_
  refine lv_lload_n hx hb dJ13_bitCount_95d88_42 rfl (lv_at hl 0 rfl) ?_
  refine lv_bipush (v := 16) hx hb dJ13_bitCount_95d88_43 (by decide) ?_
  refine lv_lushr (v := 8865081987088) hx hb dJ13_bitCount_95d88_45 (by decide) ?_
  refine lv_ladd hx hb dJ13_bitCount_95d88_46 ?_
  refine lv_topl (fun v_9 ev_9 => ?_)
  obtain rfl : v_9 = 580990878187790368 := ev_9.trans (by decide)
  refine lv_lstore_n (lv' := [(0, .long 580990878187790368)]) hx hb dJ13_bitCount_95d88_47 rfl hl (by decide) rfl (fun ls hl => ?_)
  refine lv_lload_n hx hb dJ13_bitCount_95d88_48 rfl (lv_at hl 0 rfl) ?_
  refine lv_lload_n hx hb dJ13_bitCount_95d88_49 rfl (lv_at hl 0 rfl) ?_
  refine lv_bipush (v := 32) hx hb dJ13_bitCount_95d88_50 (by decide) ?_
  refine lv_lushr (v := 135272480) hx hb dJ13_bitCount_95d88_52 (by decide) ?_
  refine lv_ladd hx hb dJ13_bitCount_95d88_53 ?_
  refine lv_topl (fun v_10 ev_10 => ?_)
  obtain rfl : v_10 = 580990878323062848 := ev_10.trans (by decide)
  refine lv_lstore_n (lv' := [(0, .long 580990878323062848)]) hx hb dJ13_bitCount_95d88_54 rfl hl (by decide) rfl (fun ls hl => ?_)
  refine lv_lload_n hx hb dJ13_bitCount_95d88_55 rfl (lv_at hl 0 rfl) ?_
  refine lv_l2i (v := 674248768) hx hb dJ13_bitCount_95d88_56 (by decide) ?_
  refine lv_bipush (v := 127) hx hb dJ13_bitCount_95d88_57 (by decide) ?_
  refine lv_iand hx hb dJ13_bitCount_95d88_59 ?_
  refine lv_topi (fun v_11 ev_11 => ?_)
  obtain rfl : v_11 = 64 := ev_11.trans (by decide)
  exact x_iret (w1 := (fun _ => [])) () B h hr rfl rfl dJ13_bitCount_95d88_60
set_option maxHeartbeats 4000000 in
set_option maxRecDepth 100000 in
theorem k67_X11_lowest (l : Launch) (D : va_G) (cI cJ cB cZ : ClassId) (ad bd : Nat → Nat) : MetI l yX11_lowest wsX11_lowest 1 21 0 0 D (TYS cI cJ cB cZ) [] [.long 0] (fun (r : Int32) (_ : Unit) => r = 0) (fun _ => []) := by
  refine x_startI (ty := .int) (cc := cX11_lowest) (by decide) rfl (Nat.le_of_ble_eq_true rfl) ?_
  intro p e s m args below meth c A ls B hr hnm h hl
  have hx := B.1.1
  have hb := B.1.2.1
  have hml := B.1.2.2.1
  have hts := B.1.2.2.2.2
  have hown : s.vm.findClass RX11 = some m.cls := B.1.2.2.2.1
  have hl : lv_has ls 2 [(0, .long 0)] := hl
  refine lv_lload_n hx hb dX11_lowest_0 rfl (lv_at hl 0 rfl) ?_
  refine lv_lload_n hx hb dX11_lowest_1 rfl (lv_at hl 0 rfl) ?_
  refine lv_lneg hx hb dX11_lowest_2 ?_
  refine lv_topl (fun v_1 ev_1 => ?_)
  obtain rfl : v_1 = 0 := ev_1.trans (by decide)
  refine lv_land hx hb dX11_lowest_3 ?_
  refine lv_topl (fun v_2 ev_2 => ?_)
  obtain rfl : v_2 = 0 := ev_2.trans (by decide)
  refine lv_lconst (v := 1) hx hb dX11_lowest_4 (by decide) ?_
  refine lv_lsub hx hb dX11_lowest_5 ?_
  refine lv_topl (fun v_3 ev_3 => ?_)
  obtain rfl : v_3 = (-1) := ev_3.trans (by decide)
  refine x_cSIE (n := 1) (As := [.long (-1)]) (rest := []) B h (k66_J13_bitCount_95d88 l D cI cJ cB cZ ad bd) ⟨⟨_, rfl⟩, by decide +kernel, Nat.le_of_ble_eq_true rfl, Nat.le_of_ble_eq_true rfl⟩ gX11_lowest_J13_bitCount_95d88 rfl hl.1 rfl (Nat.le_of_ble_eq_true rfl) dX11_lowest_6 ⟨Nat.le_of_ble_eq_true rfl, Nat.le_of_ble_eq_true rfl⟩ (fun r_4 u_4 H locs hp_4 h => ?_)
  obtain rfl := hp_4
  have h : Hp D A s.heap [] H locs := h
  refine lv_bipush (v := 63) hx hb dX11_lowest_9 (by decide) ?_
  refine lv_iand hx hb dX11_lowest_11 ?_
  refine lv_topi (fun v_5 ev_5 => ?_)
  obtain rfl : v_5 = 0 := ev_5.trans (by decide)
  exact x_iret (w1 := (fun _ => [])) () B h hr rfl rfl dX11_lowest_12
set_option maxHeartbeats 4000000 in
set_option maxRecDepth 100000 in
theorem k68_X11_nth (l : Launch) (D : va_G) (cI cJ cB cZ : ClassId) (ad bd : Nat → Nat) (p1 : Int32) : MetI l yX11_nth wsX11_nth 2 42 0 0 D (TYS cI cJ cB cZ) [] [.long 0, .int p1] (fun (r : Int32) (_ : Unit) => r = 0) (fun _ => []) := by
  refine x_startI (ty := .int) (cc := cX11_nth) (by decide) rfl (Nat.le_of_ble_eq_true rfl) ?_
  intro p e s m args below meth c A ls B hr hnm h hl
  have hx := B.1.1
  have hb := B.1.2.1
  have hml := B.1.2.2.1
  have hts := B.1.2.2.2.2
  have hown : s.vm.findClass RX11 = some m.cls := B.1.2.2.2.1
  have hl : lv_has ls 6 [(0, .long 0), (2, .int p1)] := hl
  refine lv_lload_n hx hb dX11_nth_0 rfl (lv_at hl 0 rfl) ?_
  refine lv_lstore_n (lv' := [(3, .long 0), (0, .long 0), (2, .int p1)]) hx hb dX11_nth_1 rfl hl (by decide) rfl (fun ls hl => ?_)
  refine lv_iconst (v := 0) hx hb dX11_nth_2 (by decide) ?_
  refine lv_istore (lv' := [(5, .int 0), (3, .long 0), (0, .long 0), (2, .int p1)]) hx hb dX11_nth_3 hl (by decide) rfl (fun ls hl => ?_)
  refine lv_iload hx hb dX11_nth_5 (lv_at hl 0 rfl) ?_
  refine lv_iload_n hx hb dX11_nth_7 rfl (lv_at hl 3 rfl) ?_
  refine lv_icmp_ge (tgt := 29) hx hb dX11_nth_8 (by decide) (fun c_1 => ?_) (fun c_1 => ?_)
  · skip
    refine lv_lload_n hx hb dX11_nth_29 rfl (lv_at hl 1 rfl) ?_
    refine x_cSIE (n := 1) (As := [.long 0]) (rest := []) B h (k67_X11_lowest l D cI cJ cB cZ ad bd) ⟨⟨_, rfl⟩, by decide +kernel, Nat.le_of_ble_eq_true rfl, Nat.le_of_ble_eq_true rfl⟩ gX11_nth_X11_lowest rfl hl.1 rfl (Nat.le_of_ble_eq_true rfl) dX11_nth_30 ⟨Nat.le_of_ble_eq_true rfl, Nat.le_of_ble_eq_true rfl⟩ (fun r_2 u_2 H locs hp_2 h => ?_)
    obtain rfl := hp_2
    have h : Hp D A s.heap [] H locs := h
    exact x_iret (w1 := (fun _ => [])) () B h hr rfl rfl dX11_nth_33
  · skip
    refine lv_lload_n hx hb dX11_nth_11 rfl (lv_at hl 1 rfl) ?_
    refine lv_lconst (v := 0) hx hb dX11_nth_12 (by decide) ?_
    refine W.lcmp hx hb dX11_nth_13 ?_
    refine lv_topi (fun v_3 ev_3 => ?_)
    obtain rfl : v_3 = 0 := ev_3.trans (by decide)
    refine lv_if_eq (tgt := 29) hx hb dX11_nth_14 (by decide) (fun c_4 => ?_) (fun c_4 => absurd c_4 (by decide))
    refine lv_lload_n hx hb dX11_nth_29 rfl (lv_at hl 1 rfl) ?_
    refine x_cSIE (n := 1) (As := [.long 0]) (rest := []) B h (k67_X11_lowest l D cI cJ cB cZ ad bd) ⟨⟨_, rfl⟩, by decide +kernel, Nat.le_of_ble_eq_true rfl, Nat.le_of_ble_eq_true rfl⟩ gX11_nth_X11_lowest rfl hl.1 rfl (Nat.le_of_ble_eq_true rfl) dX11_nth_30 ⟨Nat.le_of_ble_eq_true rfl, Nat.le_of_ble_eq_true rfl⟩ (fun r_5 u_5 H locs hp_5 h => ?_)
    obtain rfl := hp_5
    have h : Hp D A s.heap [] H locs := h
    exact x_iret (w1 := (fun _ => [])) () B h hr rfl rfl dX11_nth_33
set_option maxHeartbeats 4000000 in
set_option maxRecDepth 100000 in
theorem k69_X11_listed (l : Launch) (D : va_G) (cI cJ cB cZ : ClassId) (ad bd : Nat → Nat) (p1 : Int32) : MetI l yX11_listed wsX11_listed 3 67 0 0 D (TYS cI cJ cB cZ) [] [.long 0, .int p1] (fun (r : Int32) (u : Nat) => (u = 0 ∧ (¬ p1 = (-1)) ∧ (0 ≤ p1) ∧ r = (-2)) ∨ (u = 1 ∧ (¬ p1 = (-1)) ∧ (¬ 0 ≤ p1) ∧ r = 0) ∨ (u = 2 ∧ (p1 = (-1)) ∧ r = 0)) (fun _ => []) := by
  refine x_startI (ty := .int) (cc := cX11_listed) (by decide) rfl (Nat.le_of_ble_eq_true rfl) ?_
  intro p e s m args below meth c A ls B hr hnm h hl
  have hx := B.1.1
  have hb := B.1.2.1
  have hml := B.1.2.2.1
  have hts := B.1.2.2.2.2
  have hown : s.vm.findClass RX11 = some m.cls := B.1.2.2.2.1
  have hl : lv_has ls 4 [(0, .long 0), (2, .int p1)] := hl
  refine lv_lload_n hx hb dX11_listed_0 rfl (lv_at hl 0 rfl) ?_
  refine x_cSIE (n := 1) (As := [.long 0]) (rest := []) B h (k65_J13_bitCount_95d88 l D cI cJ cB cZ ad bd) ⟨⟨_, rfl⟩, by decide +kernel, Nat.le_of_ble_eq_true rfl, Nat.le_of_ble_eq_true rfl⟩ gX11_listed_J13_bitCount_95d88 rfl hl.1 rfl (Nat.le_of_ble_eq_true rfl) dX11_listed_1 ⟨Nat.le_of_ble_eq_true rfl, Nat.le_of_ble_eq_true rfl⟩ (fun r_1 u_1 H locs hp_1 h => ?_)
  obtain rfl := hp_1
  have h : Hp D A s.heap [] H locs := h
  refine lv_istore_n (lv' := [(3, .int 0), (0, .long 0), (2, .int p1)]) hx hb dX11_listed_4 rfl hl (by decide) rfl (fun ls hl => ?_)
  refine lv_iload_n hx hb dX11_listed_5 rfl (lv_at hl 2 rfl) ?_
  refine lv_iconst (v := (-1)) hx hb dX11_listed_6 (by decide) ?_
  refine lv_icmp_ne (tgt := 12) hx hb dX11_listed_7 (by decide) (fun c_2 => ?_) (fun c_2 => ?_)
  · skip
    refine lv_iload_n hx hb dX11_listed_12 rfl (lv_at hl 2 rfl) ?_
    refine lv_iload_n hx hb dX11_listed_13 rfl (lv_at hl 0 rfl) ?_
    refine lv_icmp_ge (tgt := 25) hx hb dX11_listed_14 (by decide) (fun c_3 => ?_) (fun c_3 => ?_)
    · skip
      refine lv_bipush (v := (-2)) hx hb dX11_listed_25 (by decide) ?_
      exact x_iret (w1 := (fun _ => [])) 0 B h hr rfl (Or.inl ⟨rfl, c_2, c_3, rfl⟩) dX11_listed_27
    · skip
      refine lv_lload_n hx hb dX11_listed_17 rfl (lv_at hl 1 rfl) ?_
      refine lv_iload_n hx hb dX11_listed_18 rfl (lv_at hl 2 rfl) ?_
      refine x_cSIE (n := 2) (As := [.long 0, .int p1]) (rest := []) B h (k68_X11_nth l D cI cJ cB cZ ad bd p1) ⟨⟨_, rfl⟩, by decide +kernel, Nat.le_of_ble_eq_true rfl, Nat.le_of_ble_eq_true rfl⟩ gX11_listed_X11_nth rfl hl.1 rfl (Nat.le_of_ble_eq_true rfl) dX11_listed_19 ⟨Nat.le_of_ble_eq_true rfl, Nat.le_of_ble_eq_true rfl⟩ (fun r_4 u_4 H locs hp_4 h => ?_)
      obtain rfl := hp_4
      have h : Hp D A s.heap [] H locs := h
      refine lv_goto (tgt := 27) hx hb dX11_listed_22 (by decide) ?_
      exact x_iret (w1 := (fun _ => [])) 1 B h hr rfl (Or.inr (Or.inl ⟨rfl, c_2, c_3, rfl⟩)) dX11_listed_27
  · skip
    refine lv_iload_n hx hb dX11_listed_10 rfl (lv_at hl 0 rfl) ?_
    exact x_iret (w1 := (fun _ => [])) 2 B h hr rfl (Or.inr (Or.inr (⟨rfl, c_2, rfl⟩))) dX11_listed_11
set_option maxHeartbeats 4000000 in
set_option maxRecDepth 100000 in
theorem k70_X11_critical (l : Launch) (D : va_G) (cI cJ cB cZ : ClassId) (ad bd : Nat → Nat) (p1 : Int32) (p2 : Int32) : MetI l yX11_critical wsX11_critical 4 90 0 0 D (TYS cI cJ cB cZ) (WX cI cJ cB cZ ad) [.ref (ad 0), .int p1, .int p2] (fun (r : Int32) (u : Nat) => (u = 0 ∧ (p1 < 0) ∧ r = (-1)) ∨ (u = 1 ∧ (¬ p1 < 0) ∧ (5 ≤ p1) ∧ r = (-1)) ∨ (u = 2 ∧ ((-1) ≤ p2) ∧ p1 = 0 ∧ (¬ p2 = (-1)) ∧ (0 ≤ p2) ∧ r = (-2)) ∨ (u = 3 ∧ ((-1) ≤ p2) ∧ p1 = 0 ∧ (¬ p2 = (-1)) ∧ (¬ 0 ≤ p2) ∧ r = 0) ∨ (u = 4 ∧ ((-1) ≤ p2) ∧ p1 = 0 ∧ (p2 = (-1)) ∧ r = 0) ∨ (u = 5 ∧ ((-1) ≤ p2) ∧ p1 = 1 ∧ (¬ p2 = (-1)) ∧ (0 ≤ p2) ∧ r = (-2)) ∨ (u = 6 ∧ ((-1) ≤ p2) ∧ p1 = 1 ∧ (¬ p2 = (-1)) ∧ (¬ 0 ≤ p2) ∧ r = 0) ∨ (u = 7 ∧ ((-1) ≤ p2) ∧ p1 = 1 ∧ (p2 = (-1)) ∧ r = 0) ∨ (u = 8 ∧ ((-1) ≤ p2) ∧ p1 = 2 ∧ (¬ p2 = (-1)) ∧ (0 ≤ p2) ∧ r = (-2)) ∨ (u = 9 ∧ ((-1) ≤ p2) ∧ p1 = 2 ∧ (¬ p2 = (-1)) ∧ (¬ 0 ≤ p2) ∧ r = 0) ∨ (u = 10 ∧ ((-1) ≤ p2) ∧ p1 = 2 ∧ (p2 = (-1)) ∧ r = 0) ∨ (u = 11 ∧ ((-1) ≤ p2) ∧ p1 = 3 ∧ (¬ p2 = (-1)) ∧ (0 ≤ p2) ∧ r = (-2)) ∨ (u = 12 ∧ ((-1) ≤ p2) ∧ p1 = 3 ∧ (¬ p2 = (-1)) ∧ (¬ 0 ≤ p2) ∧ r = 0) ∨ (u = 13 ∧ ((-1) ≤ p2) ∧ p1 = 3 ∧ (p2 = (-1)) ∧ r = 0) ∨ (u = 14 ∧ ((-1) ≤ p2) ∧ p1 = 4 ∧ (¬ p2 = (-1)) ∧ (0 ≤ p2) ∧ r = (-2)) ∨ (u = 15 ∧ ((-1) ≤ p2) ∧ p1 = 4 ∧ (¬ p2 = (-1)) ∧ (¬ 0 ≤ p2) ∧ r = 0) ∨ (u = 16 ∧ ((-1) ≤ p2) ∧ p1 = 4 ∧ (p2 = (-1)) ∧ r = 0) ∨ (u = 17 ∧ (¬ p1 < 0) ∧ (¬ 5 ≤ p1) ∧ (¬ (-1) ≤ p2) ∧ r = (-1))) (fun _ => (WX cI cJ cB cZ ad)) := by
  refine x_startI (ty := .int) (cc := cX11_critical) (by decide) rfl (Nat.le_of_ble_eq_true rfl) ?_
  intro p e s m args below meth c A ls B hr hnm h hl
  have hx := B.1.1
  have hb := B.1.2.1
  have hml := B.1.2.2.1
  have hts := B.1.2.2.2.2
  have hown : s.vm.findClass RX11 = some m.cls := B.1.2.2.2.1
  have hin9 : ∀ w ∈ u_ws RX9 TX9 7, w ∈ wsX11_critical := by decide +kernel
  have hin11 : ∀ w ∈ u_ws RX11 TX11 11, w ∈ wsX11_critical := by decide +kernel
  have hl : lv_has ls 3 [(0, .ref (ad 0)), (1, .int p1), (2, .int p2)] := hl
  refine lv_iload_n hx hb dX11_critical_0 rfl (lv_at hl 1 rfl) ?_
  refine x_cSIE (n := 1) (As := [.int p1]) (rest := []) B h (k63_X11_isDim l D cI cJ cB cZ ad bd p1) ⟨⟨_, rfl⟩, by decide +kernel, Nat.le_of_ble_eq_true rfl, Nat.le_of_ble_eq_true rfl⟩ gX11_critical_X11_isDim rfl hl.1 rfl (Nat.le_of_ble_eq_true rfl) dX11_critical_1 ⟨Nat.le_of_ble_eq_true rfl, Nat.le_of_ble_eq_true rfl⟩ (fun r_1 u_1 H locs hp_1 h => ?_)
  rcases hp_1 with ⟨rfl, k_1_0, rfl⟩ | ⟨rfl, k_1_0, k_1_1, rfl⟩ | ⟨rfl, k_1_0, k_1_1, rfl⟩
  · skip
    have h : Hp D A s.heap (WX cI cJ cB cZ ad) H locs := h
    refine lv_if_eq (tgt := 12) hx hb dX11_critical_4 (by decide) (fun c_2 => ?_) (fun c_2 => absurd c_2 (by decide))
    refine lv_iconst (v := (-1)) hx hb dX11_critical_12 (by decide) ?_
    exact x_iret (w1 := (fun _ => (WX cI cJ cB cZ ad))) 0 B h hr rfl (Or.inl ⟨rfl, k_1_0, rfl⟩) dX11_critical_13
  · skip
    have h : Hp D A s.heap (WX cI cJ cB cZ ad) H locs := h
    refine lv_if_eq (tgt := 12) hx hb dX11_critical_4 (by decide) (fun c_3 => ?_) (fun c_3 => absurd c_3 (by decide))
    refine lv_iconst (v := (-1)) hx hb dX11_critical_12 (by decide) ?_
    exact x_iret (w1 := (fun _ => (WX cI cJ cB cZ ad))) 1 B h hr rfl (Or.inr (Or.inl ⟨rfl, k_1_0, k_1_1, rfl⟩)) dX11_critical_13
  · skip
    have h : Hp D A s.heap (WX cI cJ cB cZ ad) H locs := h
    refine lv_if_eq (tgt := 12) hx hb dX11_critical_4 (by decide) (fun c_4 => absurd c_4 (by decide)) (fun c_4 => ?_)
    refine lv_iload_n hx hb dX11_critical_7 rfl (lv_at hl 2 rfl) ?_
    refine lv_iconst (v := (-1)) hx hb dX11_critical_8 (by decide) ?_
    refine lv_icmp_ge (tgt := 14) hx hb dX11_critical_9 (by decide) (fun c_5 => ?_) (fun c_5 => ?_)
    · skip
      refine lv_aload_n hx hb dX11_critical_14 rfl (lv_at hl 0 rfl) ?_
      refine x_get (ci := 11) (C := RX11) (T := TX11) (N := 11) (v := .ref (ad 4)) B h hin11 0 3 rfl rfl (by decide) (by decide +kernel) rfl dX11_critical_15 ?_
      refine x_cVLF (n := 0) (As := []) (rest := []) B h (k64_X6_unpaired l D cI cJ cB cZ ad bd) ⟨⟨_, rfl⟩, by decide +kernel, Nat.le_of_ble_eq_true rfl, Nat.le_of_ble_eq_true rfl⟩ gX11_critical_X6_unpaired (show ((WX cI cJ cB cZ ad) : va_W)[4]? = some (_, .inr (6, _)) from rfl) rfl rfl hl.1 rfl (Nat.le_of_ble_eq_true rfl) dX11_critical_18 ⟨Nat.le_of_ble_eq_true rfl, Nat.le_of_ble_eq_true rfl⟩ (fun r_6 u_6 H locs hp_6 h => ?_)
      obtain rfl := hp_6
      have h : Hp D A s.heap (WX cI cJ cB cZ ad) H locs := h
      refine lv_aload_n hx hb dX11_critical_21 rfl (lv_at hl 0 rfl) ?_
      refine x_get (ci := 11) (C := RX11) (T := TX11) (N := 11) (v := .ref (ad 3)) B h hin11 0 2 rfl rfl (by decide) (by decide +kernel) rfl dX11_critical_22 ?_
      refine x_get (ci := 9) (C := RX9) (T := TX9) (N := 7) (v := .ref (ad 19)) B h hin9 3 6 rfl rfl (by decide) (by decide +kernel) rfl dX11_critical_25 ?_
      refine lv_iload_n hx hb dX11_critical_28 rfl (lv_at hl 1 rfl) ?_
      have k_7 : p1 = 0 ∨ p1 = 1 ∨ p1 = 2 ∨ p1 = 3 ∨ p1 = 4 := by simp only [Int32.lt_iff_toInt_lt, Int32.le_iff_toInt_le, ← Int32.toInt_inj, show ((-1 : Int32)).toInt = -1 from by decide, show ((0 : Int32)).toInt = 0 from by decide, show ((1 : Int32)).toInt = 1 from by decide, show ((2 : Int32)).toInt = 2 from by decide, show ((3 : Int32)).toInt = 3 from by decide, show ((4 : Int32)).toInt = 4 from by decide, show ((5 : Int32)).toInt = 5 from by decide] at k_1_0 k_1_1 c_5 ⊢; omega
      rcases k_7 with e_7 | e_7 | e_7 | e_7 | e_7
      · skip
        obtain rfl : p1 = 0 := e_7.trans (by decide)
        refine va_lald hx hb B.2.1 h.1 19 1 rfl rfl (vp_in_iff.mpr (by decide)) dX11_critical_29 ?_
        refine lv_topl (fun v_8 ev_8 => ?_)
        obtain rfl : v_8 = 0 := ev_8
        refine lv_land hx hb dX11_critical_30 ?_
        refine lv_topl (fun v_9 ev_9 => ?_)
        obtain rfl : v_9 = 0 := ev_9.trans (by decide)
        refine lv_iload_n hx hb dX11_critical_31 rfl (lv_at hl 2 rfl) ?_
        refine x_cSIE (n := 2) (As := [.long 0, .int p2]) (rest := []) B h (k69_X11_listed l D cI cJ cB cZ ad bd p2) ⟨⟨_, rfl⟩, by decide +kernel, Nat.le_of_ble_eq_true rfl, Nat.le_of_ble_eq_true rfl⟩ gX11_critical_X11_listed rfl hl.1 rfl (Nat.le_of_ble_eq_true rfl) dX11_critical_32 ⟨Nat.le_of_ble_eq_true rfl, Nat.le_of_ble_eq_true rfl⟩ (fun r_10 u_10 H locs hp_10 h => ?_)
        rcases hp_10 with ⟨rfl, k_10_0, k_10_1, rfl⟩ | ⟨rfl, k_10_0, k_10_1, rfl⟩ | ⟨rfl, k_10_0, rfl⟩
        · skip
          have h : Hp D A s.heap (WX cI cJ cB cZ ad) H locs := h
          exact x_iret (w1 := (fun _ => (WX cI cJ cB cZ ad))) 2 B h hr rfl (Or.inr (Or.inr (Or.inl ⟨rfl, c_5, rfl, k_10_0, k_10_1, rfl⟩))) dX11_critical_35
        · skip
          have h : Hp D A s.heap (WX cI cJ cB cZ ad) H locs := h
          exact x_iret (w1 := (fun _ => (WX cI cJ cB cZ ad))) 3 B h hr rfl (Or.inr (Or.inr (Or.inr (Or.inl ⟨rfl, c_5, rfl, k_10_0, k_10_1, rfl⟩)))) dX11_critical_35
        · skip
          have h : Hp D A s.heap (WX cI cJ cB cZ ad) H locs := h
          exact x_iret (w1 := (fun _ => (WX cI cJ cB cZ ad))) 4 B h hr rfl (Or.inr (Or.inr (Or.inr (Or.inr (Or.inl ⟨rfl, c_5, rfl, k_10_0, rfl⟩))))) dX11_critical_35
      · skip
        obtain rfl : p1 = 1 := e_7.trans (by decide)
        refine va_lald hx hb B.2.1 h.1 19 1 rfl rfl (vp_in_iff.mpr (by decide)) dX11_critical_29 ?_
        refine lv_topl (fun v_11 ev_11 => ?_)
        obtain rfl : v_11 = 0 := ev_11
        refine lv_land hx hb dX11_critical_30 ?_
        refine lv_topl (fun v_12 ev_12 => ?_)
        obtain rfl : v_12 = 0 := ev_12.trans (by decide)
        refine lv_iload_n hx hb dX11_critical_31 rfl (lv_at hl 2 rfl) ?_
        refine x_cSIE (n := 2) (As := [.long 0, .int p2]) (rest := []) B h (k69_X11_listed l D cI cJ cB cZ ad bd p2) ⟨⟨_, rfl⟩, by decide +kernel, Nat.le_of_ble_eq_true rfl, Nat.le_of_ble_eq_true rfl⟩ gX11_critical_X11_listed rfl hl.1 rfl (Nat.le_of_ble_eq_true rfl) dX11_critical_32 ⟨Nat.le_of_ble_eq_true rfl, Nat.le_of_ble_eq_true rfl⟩ (fun r_13 u_13 H locs hp_13 h => ?_)
        rcases hp_13 with ⟨rfl, k_13_0, k_13_1, rfl⟩ | ⟨rfl, k_13_0, k_13_1, rfl⟩ | ⟨rfl, k_13_0, rfl⟩
        · skip
          have h : Hp D A s.heap (WX cI cJ cB cZ ad) H locs := h
          exact x_iret (w1 := (fun _ => (WX cI cJ cB cZ ad))) 5 B h hr rfl (Or.inr (Or.inr (Or.inr (Or.inr (Or.inr (Or.inl ⟨rfl, c_5, rfl, k_13_0, k_13_1, rfl⟩)))))) dX11_critical_35
        · skip
          have h : Hp D A s.heap (WX cI cJ cB cZ ad) H locs := h
          exact x_iret (w1 := (fun _ => (WX cI cJ cB cZ ad))) 6 B h hr rfl (Or.inr (Or.inr (Or.inr (Or.inr (Or.inr (Or.inr (Or.inl ⟨rfl, c_5, rfl, k_13_0, k_13_1, rfl⟩))))))) dX11_critical_35
        · skip
          have h : Hp D A s.heap (WX cI cJ cB cZ ad) H locs := h
          exact x_iret (w1 := (fun _ => (WX cI cJ cB cZ ad))) 7 B h hr rfl (Or.inr (Or.inr (Or.inr (Or.inr (Or.inr (Or.inr (Or.inr (Or.inl ⟨rfl, c_5, rfl, k_13_0, rfl⟩)))))))) dX11_critical_35
      · skip
        obtain rfl : p1 = 2 := e_7.trans (by decide)
        refine va_lald hx hb B.2.1 h.1 19 1 rfl rfl (vp_in_iff.mpr (by decide)) dX11_critical_29 ?_
        refine lv_topl (fun v_14 ev_14 => ?_)
        obtain rfl : v_14 = 0 := ev_14
        refine lv_land hx hb dX11_critical_30 ?_
        refine lv_topl (fun v_15 ev_15 => ?_)
        obtain rfl : v_15 = 0 := ev_15.trans (by decide)
        refine lv_iload_n hx hb dX11_critical_31 rfl (lv_at hl 2 rfl) ?_
        refine x_cSIE (n := 2) (As := [.long 0, .int p2]) (rest := []) B h (k69_X11_listed l D cI cJ cB cZ ad bd p2) ⟨⟨_, rfl⟩, by decide +kernel, Nat.le_of_ble_eq_true rfl, Nat.le_of_ble_eq_true rfl⟩ gX11_critical_X11_listed rfl hl.1 rfl (Nat.le_of_ble_eq_true rfl) dX11_critical_32 ⟨Nat.le_of_ble_eq_true rfl, Nat.le_of_ble_eq_true rfl⟩ (fun r_16 u_16 H locs hp_16 h => ?_)
        rcases hp_16 with ⟨rfl, k_16_0, k_16_1, rfl⟩ | ⟨rfl, k_16_0, k_16_1, rfl⟩ | ⟨rfl, k_16_0, rfl⟩
        · skip
          have h : Hp D A s.heap (WX cI cJ cB cZ ad) H locs := h
          exact x_iret (w1 := (fun _ => (WX cI cJ cB cZ ad))) 8 B h hr rfl (Or.inr (Or.inr (Or.inr (Or.inr (Or.inr (Or.inr (Or.inr (Or.inr (Or.inl ⟨rfl, c_5, rfl, k_16_0, k_16_1, rfl⟩))))))))) dX11_critical_35
        · skip
          have h : Hp D A s.heap (WX cI cJ cB cZ ad) H locs := h
          exact x_iret (w1 := (fun _ => (WX cI cJ cB cZ ad))) 9 B h hr rfl (Or.inr (Or.inr (Or.inr (Or.inr (Or.inr (Or.inr (Or.inr (Or.inr (Or.inr (Or.inl ⟨rfl, c_5, rfl, k_16_0, k_16_1, rfl⟩)))))))))) dX11_critical_35
        · skip
          have h : Hp D A s.heap (WX cI cJ cB cZ ad) H locs := h
          exact x_iret (w1 := (fun _ => (WX cI cJ cB cZ ad))) 10 B h hr rfl (Or.inr (Or.inr (Or.inr (Or.inr (Or.inr (Or.inr (Or.inr (Or.inr (Or.inr (Or.inr (Or.inl ⟨rfl, c_5, rfl, k_16_0, rfl⟩))))))))))) dX11_critical_35
      · skip
        obtain rfl : p1 = 3 := e_7.trans (by decide)
        refine va_lald hx hb B.2.1 h.1 19 1 rfl rfl (vp_in_iff.mpr (by decide)) dX11_critical_29 ?_
        refine lv_topl (fun v_17 ev_17 => ?_)
        obtain rfl : v_17 = 0 := ev_17
        refine lv_land hx hb dX11_critical_30 ?_
        refine lv_topl (fun v_18 ev_18 => ?_)
        obtain rfl : v_18 = 0 := ev_18.trans (by decide)
        refine lv_iload_n hx hb dX11_critical_31 rfl (lv_at hl 2 rfl) ?_
        refine x_cSIE (n := 2) (As := [.long 0, .int p2]) (rest := []) B h (k69_X11_listed l D cI cJ cB cZ ad bd p2) ⟨⟨_, rfl⟩, by decide +kernel, Nat.le_of_ble_eq_true rfl, Nat.le_of_ble_eq_true rfl⟩ gX11_critical_X11_listed rfl hl.1 rfl (Nat.le_of_ble_eq_true rfl) dX11_critical_32 ⟨Nat.le_of_ble_eq_true rfl, Nat.le_of_ble_eq_true rfl⟩ (fun r_19 u_19 H locs hp_19 h => ?_)
        rcases hp_19 with ⟨rfl, k_19_0, k_19_1, rfl⟩ | ⟨rfl, k_19_0, k_19_1, rfl⟩ | ⟨rfl, k_19_0, rfl⟩
        · skip
          have h : Hp D A s.heap (WX cI cJ cB cZ ad) H locs := h
          exact x_iret (w1 := (fun _ => (WX cI cJ cB cZ ad))) 11 B h hr rfl (Or.inr (Or.inr (Or.inr (Or.inr (Or.inr (Or.inr (Or.inr (Or.inr (Or.inr (Or.inr (Or.inr (Or.inl ⟨rfl, c_5, rfl, k_19_0, k_19_1, rfl⟩)))))))))))) dX11_critical_35
        · skip
          have h : Hp D A s.heap (WX cI cJ cB cZ ad) H locs := h
          exact x_iret (w1 := (fun _ => (WX cI cJ cB cZ ad))) 12 B h hr rfl (Or.inr (Or.inr (Or.inr (Or.inr (Or.inr (Or.inr (Or.inr (Or.inr (Or.inr (Or.inr (Or.inr (Or.inr (Or.inl ⟨rfl, c_5, rfl, k_19_0, k_19_1, rfl⟩))))))))))))) dX11_critical_35
        · skip
          have h : Hp D A s.heap (WX cI cJ cB cZ ad) H locs := h
          exact x_iret (w1 := (fun _ => (WX cI cJ cB cZ ad))) 13 B h hr rfl (Or.inr (Or.inr (Or.inr (Or.inr (Or.inr (Or.inr (Or.inr (Or.inr (Or.inr (Or.inr (Or.inr (Or.inr (Or.inr (Or.inl ⟨rfl, c_5, rfl, k_19_0, rfl⟩)))))))))))))) dX11_critical_35
      · skip
        obtain rfl : p1 = 4 := e_7.trans (by decide)
        refine va_lald hx hb B.2.1 h.1 19 1 rfl rfl (vp_in_iff.mpr (by decide)) dX11_critical_29 ?_
        refine lv_topl (fun v_20 ev_20 => ?_)
        obtain rfl : v_20 = 0 := ev_20
        refine lv_land hx hb dX11_critical_30 ?_
        refine lv_topl (fun v_21 ev_21 => ?_)
        obtain rfl : v_21 = 0 := ev_21.trans (by decide)
        refine lv_iload_n hx hb dX11_critical_31 rfl (lv_at hl 2 rfl) ?_
        refine x_cSIE (n := 2) (As := [.long 0, .int p2]) (rest := []) B h (k69_X11_listed l D cI cJ cB cZ ad bd p2) ⟨⟨_, rfl⟩, by decide +kernel, Nat.le_of_ble_eq_true rfl, Nat.le_of_ble_eq_true rfl⟩ gX11_critical_X11_listed rfl hl.1 rfl (Nat.le_of_ble_eq_true rfl) dX11_critical_32 ⟨Nat.le_of_ble_eq_true rfl, Nat.le_of_ble_eq_true rfl⟩ (fun r_22 u_22 H locs hp_22 h => ?_)
        rcases hp_22 with ⟨rfl, k_22_0, k_22_1, rfl⟩ | ⟨rfl, k_22_0, k_22_1, rfl⟩ | ⟨rfl, k_22_0, rfl⟩
        · skip
          have h : Hp D A s.heap (WX cI cJ cB cZ ad) H locs := h
          exact x_iret (w1 := (fun _ => (WX cI cJ cB cZ ad))) 14 B h hr rfl (Or.inr (Or.inr (Or.inr (Or.inr (Or.inr (Or.inr (Or.inr (Or.inr (Or.inr (Or.inr (Or.inr (Or.inr (Or.inr (Or.inr (Or.inl ⟨rfl, c_5, rfl, k_22_0, k_22_1, rfl⟩))))))))))))))) dX11_critical_35
        · skip
          have h : Hp D A s.heap (WX cI cJ cB cZ ad) H locs := h
          exact x_iret (w1 := (fun _ => (WX cI cJ cB cZ ad))) 15 B h hr rfl (Or.inr (Or.inr (Or.inr (Or.inr (Or.inr (Or.inr (Or.inr (Or.inr (Or.inr (Or.inr (Or.inr (Or.inr (Or.inr (Or.inr (Or.inr (Or.inl ⟨rfl, c_5, rfl, k_22_0, k_22_1, rfl⟩)))))))))))))))) dX11_critical_35
        · skip
          have h : Hp D A s.heap (WX cI cJ cB cZ ad) H locs := h
          exact x_iret (w1 := (fun _ => (WX cI cJ cB cZ ad))) 16 B h hr rfl (Or.inr (Or.inr (Or.inr (Or.inr (Or.inr (Or.inr (Or.inr (Or.inr (Or.inr (Or.inr (Or.inr (Or.inr (Or.inr (Or.inr (Or.inr (Or.inr (Or.inl ⟨rfl, c_5, rfl, k_22_0, rfl⟩))))))))))))))))) dX11_critical_35
    · skip
      refine lv_iconst (v := (-1)) hx hb dX11_critical_12 (by decide) ?_
      exact x_iret (w1 := (fun _ => (WX cI cJ cB cZ ad))) 17 B h hr rfl (Or.inr (Or.inr (Or.inr (Or.inr (Or.inr (Or.inr (Or.inr (Or.inr (Or.inr (Or.inr (Or.inr (Or.inr (Or.inr (Or.inr (Or.inr (Or.inr (Or.inr (⟨rfl, k_1_0, k_1_1, c_5, rfl⟩)))))))))))))))))) dX11_critical_13
set_option maxHeartbeats 4000000 in
set_option maxRecDepth 100000 in
theorem k71_X12_in (l : Launch) (D : va_G) (cI cJ cB cZ : ClassId) (ad bd : Nat → Nat) (p0 : Int32) : MetI l yX12_in wsX12_in 0 0 0 0 D (TYS cI cJ cB cZ) [] [.int p0, .int 0, .int 4] (fun (r : Int32) (u : Nat) => (u = 0 ∧ (p0 < 0) ∧ r = 0) ∨ (u = 1 ∧ (¬ p0 < 0) ∧ (4 < p0) ∧ r = 0) ∨ (u = 2 ∧ (¬ p0 < 0) ∧ (¬ 4 < p0) ∧ r = 1)) (fun _ => []) := by
  refine x_startI (ty := .boolean) (cc := cX12_in) (by decide) rfl (Nat.le_of_ble_eq_true rfl) ?_
  intro p e s m args below meth c A ls B hr hnm h hl
  have hx := B.1.1
  have hb := B.1.2.1
  have hml := B.1.2.2.1
  have hts := B.1.2.2.2.2
  have hown : s.vm.findClass RX12 = some m.cls := B.1.2.2.2.1
  have hl : lv_has ls 3 [(0, .int p0), (1, .int 0), (2, .int 4)] := hl
  refine lv_iload_n hx hb dX12_in_0 rfl (lv_at hl 0 rfl) ?_
  refine lv_iload_n hx hb dX12_in_1 rfl (lv_at hl 1 rfl) ?_
  refine lv_icmp_lt (tgt := 14) hx hb dX12_in_2 (by decide) (fun c_1 => ?_) (fun c_1 => ?_)
  · skip
    refine lv_iconst (v := 0) hx hb dX12_in_14 (by decide) ?_
    exact x_iret (w1 := (fun _ => [])) 0 B h hr rfl (Or.inl ⟨rfl, c_1, rfl⟩) dX12_in_15
  · skip
    refine lv_iload_n hx hb dX12_in_5 rfl (lv_at hl 0 rfl) ?_
    refine lv_iload_n hx hb dX12_in_6 rfl (lv_at hl 2 rfl) ?_
    refine lv_icmp_gt (tgt := 14) hx hb dX12_in_7 (by decide) (fun c_2 => ?_) (fun c_2 => ?_)
    · skip
      refine lv_iconst (v := 0) hx hb dX12_in_14 (by decide) ?_
      exact x_iret (w1 := (fun _ => [])) 1 B h hr rfl (Or.inr (Or.inl ⟨rfl, c_1, c_2, rfl⟩)) dX12_in_15
    · skip
      refine lv_iconst (v := 1) hx hb dX12_in_10 (by decide) ?_
      refine lv_goto (tgt := 15) hx hb dX12_in_11 (by decide) ?_
      exact x_iret (w1 := (fun _ => [])) 2 B h hr rfl (Or.inr (Or.inr (⟨rfl, c_1, c_2, rfl⟩))) dX12_in_15
set_option maxHeartbeats 4000000 in
set_option maxRecDepth 100000 in
theorem k72_X12_critical (l : Launch) (D : va_G) (cI cJ cB cZ : ClassId) (ad bd : Nat → Nat) (p1 : Int32) (p2 : Int32) : MetI l yX12_critical wsX12_critical 1 22 0 0 D (TYS cI cJ cB cZ) (WM cI cJ cB cZ bd) [.ref (bd 0), .int p1, .int p2] (fun (r : Int32) (u : Nat) => (u = 0 ∧ (p1 < 0) ∧ r = (-1)) ∨ (u = 1 ∧ (¬ p1 < 0) ∧ (4 < p1) ∧ r = (-1)) ∨ (u = 2 ∧ (¬ p1 < 0) ∧ (¬ 4 < p1) ∧ ((-1) ≤ p2) ∧ (¬ p2 = (-1)) ∧ r = (-2)) ∨ (u = 3 ∧ (¬ p1 < 0) ∧ (¬ 4 < p1) ∧ ((-1) ≤ p2) ∧ (p2 = (-1)) ∧ r = 0) ∨ (u = 4 ∧ (¬ p1 < 0) ∧ (¬ 4 < p1) ∧ (¬ (-1) ≤ p2) ∧ r = (-1))) (fun _ => (WM cI cJ cB cZ bd)) := by
  refine x_startI (ty := .int) (cc := cX12_critical) (by decide) rfl (Nat.le_of_ble_eq_true rfl) ?_
  intro p e s m args below meth c A ls B hr hnm h hl
  have hx := B.1.1
  have hb := B.1.2.1
  have hml := B.1.2.2.1
  have hts := B.1.2.2.2.2
  have hown : s.vm.findClass RX12 = some m.cls := B.1.2.2.2.1
  have hin12 : ∀ w ∈ u_ws RX12 TX12 31, w ∈ wsX12_critical := by decide +kernel
  have hl : lv_has ls 5 [(0, .ref (bd 0)), (1, .int p1), (2, .int p2)] := hl
  refine lv_iload_n hx hb dX12_critical_0 rfl (lv_at hl 1 rfl) ?_
  refine lv_iconst (v := 0) hx hb dX12_critical_1 (by decide) ?_
  refine lv_iconst (v := 4) hx hb dX12_critical_2 (by decide) ?_
  refine x_cSIE (n := 3) (As := [.int p1, .int 0, .int 4]) (rest := []) B h (k71_X12_in l D cI cJ cB cZ ad bd p1) ⟨⟨_, rfl⟩, by decide +kernel, Nat.le_of_ble_eq_true rfl, Nat.le_of_ble_eq_true rfl⟩ gX12_critical_X12_in rfl hl.1 rfl (Nat.le_of_ble_eq_true rfl) dX12_critical_3 ⟨Nat.le_of_ble_eq_true rfl, Nat.le_of_ble_eq_true rfl⟩ (fun r_1 u_1 H locs hp_1 h => ?_)
  rcases hp_1 with ⟨rfl, k_1_0, rfl⟩ | ⟨rfl, k_1_0, k_1_1, rfl⟩ | ⟨rfl, k_1_0, k_1_1, rfl⟩
  · skip
    have h : Hp D A s.heap (WM cI cJ cB cZ bd) H locs := h
    refine lv_if_eq (tgt := 14) hx hb dX12_critical_6 (by decide) (fun c_2 => ?_) (fun c_2 => absurd c_2 (by decide))
    refine lv_iconst (v := (-1)) hx hb dX12_critical_14 (by decide) ?_
    exact x_iret (w1 := (fun _ => (WM cI cJ cB cZ bd))) 0 B h hr rfl (Or.inl ⟨rfl, k_1_0, rfl⟩) dX12_critical_15
  · skip
    have h : Hp D A s.heap (WM cI cJ cB cZ bd) H locs := h
    refine lv_if_eq (tgt := 14) hx hb dX12_critical_6 (by decide) (fun c_3 => ?_) (fun c_3 => absurd c_3 (by decide))
    refine lv_iconst (v := (-1)) hx hb dX12_critical_14 (by decide) ?_
    exact x_iret (w1 := (fun _ => (WM cI cJ cB cZ bd))) 1 B h hr rfl (Or.inr (Or.inl ⟨rfl, k_1_0, k_1_1, rfl⟩)) dX12_critical_15
  · skip
    have h : Hp D A s.heap (WM cI cJ cB cZ bd) H locs := h
    refine lv_if_eq (tgt := 14) hx hb dX12_critical_6 (by decide) (fun c_4 => absurd c_4 (by decide)) (fun c_4 => ?_)
    refine lv_iload_n hx hb dX12_critical_9 rfl (lv_at hl 2 rfl) ?_
    refine lv_iconst (v := (-1)) hx hb dX12_critical_10 (by decide) ?_
    refine lv_icmp_ge (tgt := 16) hx hb dX12_critical_11 (by decide) (fun c_5 => ?_) (fun c_5 => ?_)
    · skip
      refine lv_iconst (v := 0) hx hb dX12_critical_16 (by decide) ?_
      refine lv_istore_n (lv' := [(3, .int 0), (0, .ref (bd 0)), (1, .int p1), (2, .int p2)]) hx hb dX12_critical_17 rfl hl (by decide) rfl (fun ls hl => ?_)
      refine lv_iconst (v := 0) hx hb dX12_critical_18 (by decide) ?_
      refine lv_istore (lv' := [(4, .int 0), (3, .int 0), (0, .ref (bd 0)), (1, .int p1), (2, .int p2)]) hx hb dX12_critical_19 hl (by decide) rfl (fun ls hl => ?_)
      refine lv_iload hx hb dX12_critical_21 (lv_at hl 0 rfl) ?_
      refine lv_aload_n hx hb dX12_critical_23 rfl (lv_at hl 2 rfl) ?_
      refine x_get (ci := 12) (C := RX12) (T := TX12) (N := 31) (v := .int 0) B h hin12 0 5 rfl rfl (by decide) (by decide +kernel) rfl dX12_critical_24 ?_
      refine lv_icmp_ge (tgt := 66) hx hb dX12_critical_27 (by decide) (fun c_6 => ?_) (fun c_6 => absurd c_6 (by decide))
      refine lv_iload_n hx hb dX12_critical_66 rfl (lv_at hl 4 rfl) ?_
      refine lv_iconst (v := (-1)) hx hb dX12_critical_67 (by decide) ?_
      refine lv_icmp_ne (tgt := 75) hx hb dX12_critical_68 (by decide) (fun c_7 => ?_) (fun c_7 => ?_)
      · skip
        refine lv_bipush (v := (-2)) hx hb dX12_critical_75 (by decide) ?_
        exact x_iret (w1 := (fun _ => (WM cI cJ cB cZ bd))) 2 B h hr rfl (Or.inr (Or.inr (Or.inl ⟨rfl, k_1_0, k_1_1, c_5, c_7, rfl⟩))) dX12_critical_77
      · skip
        refine lv_iload_n hx hb dX12_critical_71 rfl (lv_at hl 1 rfl) ?_
        refine lv_goto (tgt := 77) hx hb dX12_critical_72 (by decide) ?_
        exact x_iret (w1 := (fun _ => (WM cI cJ cB cZ bd))) 3 B h hr rfl (Or.inr (Or.inr (Or.inr (Or.inl ⟨rfl, k_1_0, k_1_1, c_5, c_7, rfl⟩)))) dX12_critical_77
    · skip
      refine lv_iconst (v := (-1)) hx hb dX12_critical_14 (by decide) ?_
      exact x_iret (w1 := (fun _ => (WM cI cJ cB cZ bd))) 4 B h hr rfl (Or.inr (Or.inr (Or.inr (Or.inr (⟨rfl, k_1_0, k_1_1, c_5, rfl⟩))))) dX12_critical_15
set_option maxHeartbeats 4000000 in
set_option maxRecDepth 100000 in
theorem k73_X11_paths (l : Launch) (D : va_G) (cI cJ cB cZ : ClassId) (ad bd : Nat → Nat) (p1 : Int32) (p2 : Int32) : MetL l yX11_paths wsX11_paths 3 64 0 0 D (TYS cI cJ cB cZ) (WX cI cJ cB cZ ad) [.ref (ad 0), .int p1, .int p2] (fun (r : Int64) (_ : Unit) => r = (-1)) (fun _ => (WX cI cJ cB cZ ad)) := by
  refine x_startL (ty := .long) (cc := cX11_paths) (by decide) rfl (Nat.le_of_ble_eq_true rfl) ?_
  intro p e s m args below meth c A ls B hr hnm h hl
  have hx := B.1.1
  have hb := B.1.2.1
  have hml := B.1.2.2.1
  have hts := B.1.2.2.2.2
  have hown : s.vm.findClass RX11 = some m.cls := B.1.2.2.2.1
  have hl : lv_has ls 3 [(0, .ref (ad 0)), (1, .int p1), (2, .int p2)] := hl
  refine lv_aload_n hx hb dX11_paths_0 rfl (lv_at hl 0 rfl) ?_
  refine lv_iload_n hx hb dX11_paths_1 rfl (lv_at hl 1 rfl) ?_
  refine lv_iload_n hx hb dX11_paths_2 rfl (lv_at hl 2 rfl) ?_
  refine x_cVIF (n := 2) (As := [.int p1, .int p2]) (rest := []) B h (k54_X11_areEnds l D cI cJ cB cZ ad bd p1 p2) ⟨⟨_, rfl⟩, by decide +kernel, Nat.le_of_ble_eq_true rfl, Nat.le_of_ble_eq_true rfl⟩ gX11_paths_X11_areEnds (show ((WX cI cJ cB cZ ad) : va_W)[0]? = some (_, .inr (11, _)) from rfl) rfl rfl hl.1 rfl (Nat.le_of_ble_eq_true rfl) dX11_paths_3 ⟨Nat.le_of_ble_eq_true rfl, Nat.le_of_ble_eq_true rfl⟩ (fun r_1 u_1 H locs hp_1 h => ?_)
  obtain rfl := hp_1
  have h : Hp D A s.heap (WX cI cJ cB cZ ad) H locs := h
  refine lv_if_ne (tgt := 13) hx hb dX11_paths_6 (by decide) (fun c_2 => absurd c_2 (by decide)) (fun c_2 => ?_)
  refine lv_ldc2 (v := (-1)) hx hb hown (hts (.constantLong RX11 242 (-1)) (by decide +kernel)) dX11_paths_9 ?_
  exact x_lret (w1 := (fun _ => (WX cI cJ cB cZ ad))) () B h hr rfl dX11_paths_12
set_option maxHeartbeats 4000000 in
set_option maxRecDepth 100000 in
theorem k74_X12_paths (l : Launch) (D : va_G) (cI cJ cB cZ : ClassId) (ad bd : Nat → Nat) (p1 : Int32) (p2 : Int32) : MetL l yX12_paths wsX12_paths 5 107 0 0 D (TYS cI cJ cB cZ) (WM cI cJ cB cZ bd) [.ref (bd 0), .int p1, .int p2] (fun (r : Int64) (_ : Unit) => r = (-1)) (fun _ => (WM cI cJ cB cZ bd)) := by
  refine x_startL (ty := .long) (cc := cX12_paths) (by decide) rfl (Nat.le_of_ble_eq_true rfl) ?_
  intro p e s m args below meth c A ls B hr hnm h hl
  have hx := B.1.1
  have hb := B.1.2.1
  have hml := B.1.2.2.1
  have hts := B.1.2.2.2.2
  have hown : s.vm.findClass RX12 = some m.cls := B.1.2.2.2.1
  have hl : lv_has ls 3 [(0, .ref (bd 0)), (1, .int p1), (2, .int p2)] := hl
  refine lv_aload_n hx hb dX12_paths_0 rfl (lv_at hl 0 rfl) ?_
  refine lv_iload_n hx hb dX12_paths_1 rfl (lv_at hl 1 rfl) ?_
  refine lv_iload_n hx hb dX12_paths_2 rfl (lv_at hl 2 rfl) ?_
  refine x_cVIF (n := 2) (As := [.int p1, .int p2]) (rest := []) B h (k57_X12_areEnds l D cI cJ cB cZ ad bd p1 p2) ⟨⟨_, rfl⟩, by decide +kernel, Nat.le_of_ble_eq_true rfl, Nat.le_of_ble_eq_true rfl⟩ gX12_paths_X12_areEnds (show ((WM cI cJ cB cZ bd) : va_W)[0]? = some (_, .inr (12, _)) from rfl) rfl rfl hl.1 rfl (Nat.le_of_ble_eq_true rfl) dX12_paths_3 ⟨Nat.le_of_ble_eq_true rfl, Nat.le_of_ble_eq_true rfl⟩ (fun r_1 u_1 H locs hp_1 h => ?_)
  obtain rfl := hp_1
  have h : Hp D A s.heap (WM cI cJ cB cZ bd) H locs := h
  refine lv_if_eq (tgt := 18) hx hb dX12_paths_6 (by decide) (fun c_2 => ?_) (fun c_2 => absurd c_2 (by decide))
  refine lv_ldc2 (v := (-1)) hx hb hown (hts (.constantLong RX12 236 (-1)) (by decide +kernel)) dX12_paths_18 ?_
  exact x_lret (w1 := (fun _ => (WM cI cJ cB cZ bd))) () B h hr rfl dX12_paths_21
set_option maxHeartbeats 4000000 in
set_option maxRecDepth 100000 in
theorem k75_X11_path (l : Launch) (D : va_G) (cI cJ cB cZ : ClassId) (ad bd : Nat → Nat) (p1 : Int32) (p2 : Int32) (p3 : Int32) (p4 : Int32) : MetI l yX11_path wsX11_path 3 64 0 0 D (TYS cI cJ cB cZ) (WX cI cJ cB cZ ad) [.ref (ad 0), .int p1, .int p2, .int p3, .int p4] (fun (r : Int32) (_ : Unit) => r = (-1)) (fun _ => (WX cI cJ cB cZ ad)) := by
  refine x_startI (ty := .int) (cc := cX11_path) (by decide) rfl (Nat.le_of_ble_eq_true rfl) ?_
  intro p e s m args below meth c A ls B hr hnm h hl
  have hx := B.1.1
  have hb := B.1.2.1
  have hml := B.1.2.2.1
  have hts := B.1.2.2.2.2
  have hown : s.vm.findClass RX11 = some m.cls := B.1.2.2.2.1
  have hl : lv_has ls 6 [(0, .ref (ad 0)), (1, .int p1), (2, .int p2), (3, .int p3), (4, .int p4)] := hl
  refine lv_aload_n hx hb dX11_path_0 rfl (lv_at hl 0 rfl) ?_
  refine lv_iload_n hx hb dX11_path_1 rfl (lv_at hl 1 rfl) ?_
  refine lv_iload_n hx hb dX11_path_2 rfl (lv_at hl 2 rfl) ?_
  refine x_cVIF (n := 2) (As := [.int p1, .int p2]) (rest := []) B h (k54_X11_areEnds l D cI cJ cB cZ ad bd p1 p2) ⟨⟨_, rfl⟩, by decide +kernel, Nat.le_of_ble_eq_true rfl, Nat.le_of_ble_eq_true rfl⟩ gX11_path_X11_areEnds (show ((WX cI cJ cB cZ ad) : va_W)[0]? = some (_, .inr (11, _)) from rfl) rfl rfl hl.1 rfl (Nat.le_of_ble_eq_true rfl) dX11_path_3 ⟨Nat.le_of_ble_eq_true rfl, Nat.le_of_ble_eq_true rfl⟩ (fun r_1 u_1 H locs hp_1 h => ?_)
  obtain rfl := hp_1
  have h : Hp D A s.heap (WX cI cJ cB cZ ad) H locs := h
  refine lv_if_eq (tgt := 19) hx hb dX11_path_6 (by decide) (fun c_2 => ?_) (fun c_2 => absurd c_2 (by decide))
  refine lv_iconst (v := (-1)) hx hb dX11_path_19 (by decide) ?_
  exact x_iret (w1 := (fun _ => (WX cI cJ cB cZ ad))) () B h hr rfl rfl dX11_path_20
set_option maxHeartbeats 4000000 in
set_option maxRecDepth 100000 in
theorem k76_X12_path (l : Launch) (D : va_G) (cI cJ cB cZ : ClassId) (ad bd : Nat → Nat) (p1 : Int32) (p2 : Int32) (p3 : Int32) (p4 : Int32) : MetI l yX12_path wsX12_path 5 107 0 0 D (TYS cI cJ cB cZ) (WM cI cJ cB cZ bd) [.ref (bd 0), .int p1, .int p2, .int p3, .int p4] (fun (r : Int32) (_ : Unit) => r = (-1)) (fun _ => (WM cI cJ cB cZ bd)) := by
  refine x_startI (ty := .int) (cc := cX12_path) (by decide) rfl (Nat.le_of_ble_eq_true rfl) ?_
  intro p e s m args below meth c A ls B hr hnm h hl
  have hx := B.1.1
  have hb := B.1.2.1
  have hml := B.1.2.2.1
  have hts := B.1.2.2.2.2
  have hown : s.vm.findClass RX12 = some m.cls := B.1.2.2.2.1
  have hl : lv_has ls 5 [(0, .ref (bd 0)), (1, .int p1), (2, .int p2), (3, .int p3), (4, .int p4)] := hl
  refine lv_aload_n hx hb dX12_path_0 rfl (lv_at hl 0 rfl) ?_
  refine lv_iload_n hx hb dX12_path_1 rfl (lv_at hl 1 rfl) ?_
  refine lv_iload_n hx hb dX12_path_2 rfl (lv_at hl 2 rfl) ?_
  refine x_cVIF (n := 2) (As := [.int p1, .int p2]) (rest := []) B h (k57_X12_areEnds l D cI cJ cB cZ ad bd p1 p2) ⟨⟨_, rfl⟩, by decide +kernel, Nat.le_of_ble_eq_true rfl, Nat.le_of_ble_eq_true rfl⟩ gX12_path_X12_areEnds (show ((WM cI cJ cB cZ bd) : va_W)[0]? = some (_, .inr (12, _)) from rfl) rfl rfl hl.1 rfl (Nat.le_of_ble_eq_true rfl) dX12_path_3 ⟨Nat.le_of_ble_eq_true rfl, Nat.le_of_ble_eq_true rfl⟩ (fun r_1 u_1 H locs hp_1 h => ?_)
  obtain rfl := hp_1
  have h : Hp D A s.heap (WM cI cJ cB cZ bd) H locs := h
  refine lv_if_eq (tgt := 19) hx hb dX12_path_6 (by decide) (fun c_2 => ?_) (fun c_2 => absurd c_2 (by decide))
  refine lv_iconst (v := (-1)) hx hb dX12_path_19 (by decide) ?_
  exact x_iret (w1 := (fun _ => (WM cI cJ cB cZ bd))) () B h hr rfl rfl dX12_path_20
