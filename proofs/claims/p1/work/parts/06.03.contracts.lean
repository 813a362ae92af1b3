set_option maxHeartbeats 4000000 in
set_option maxRecDepth 100000 in
theorem k77_X11_incidence (l : Launch) (D : va_G) (cI cJ cB cZ : ClassId) (ad bd : Nat → Nat) (p1 : Int32) (p2 : Int32) : MetL l yX11_incidence wsX11_incidence 3 64 0 0 D (TYS cI cJ cB cZ) (WX cI cJ cB cZ ad) [.ref (ad 0), .int p1, .int p2] (fun (r : Int64) (_ : Unit) => r = (-9223372036854775808)) (fun _ => (WX cI cJ cB cZ ad)) := by
  refine x_startL (ty := .long) (cc := cX11_incidence) (by decide) rfl (Nat.le_of_ble_eq_true rfl) ?_
  intro p e s m args below meth c A ls B hr hnm h hl
  have hx := B.1.1
  have hb := B.1.2.1
  have hml := B.1.2.2.1
  have hts := B.1.2.2.2.2
  have hown : s.vm.findClass RX11 = some m.cls := B.1.2.2.2.1
  have hl : lv_has ls 3 [(0, .ref (ad 0)), (1, .int p1), (2, .int p2)] := hl
  refine lv_aload_n hx hb dX11_incidence_0 rfl (lv_at hl 0 rfl) ?_
  refine lv_iload_n hx hb dX11_incidence_1 rfl (lv_at hl 1 rfl) ?_
  refine lv_iload_n hx hb dX11_incidence_2 rfl (lv_at hl 2 rfl) ?_
  refine x_cVIF (n := 2) (As := [.int p1, .int p2]) (rest := []) B h (k54_X11_areEnds l D cI cJ cB cZ ad bd p1 p2) ⟨⟨_, rfl⟩, by decide +kernel, Nat.le_of_ble_eq_true rfl, Nat.le_of_ble_eq_true rfl⟩ gX11_incidence_X11_areEnds (show ((WX cI cJ cB cZ ad) : va_W)[0]? = some (_, .inr (11, _)) from rfl) rfl rfl hl.1 rfl (Nat.le_of_ble_eq_true rfl) dX11_incidence_3 ⟨Nat.le_of_ble_eq_true rfl, Nat.le_of_ble_eq_true rfl⟩ (fun r_1 u_1 H locs hp_1 h => ?_)
  obtain rfl := hp_1
  have h : Hp D A s.heap (WX cI cJ cB cZ ad) H locs := h
  refine lv_if_ne (tgt := 13) hx hb dX11_incidence_6 (by decide) (fun c_2 => absurd c_2 (by decide)) (fun c_2 => ?_)
  refine lv_ldc2 (v := (-9223372036854775808)) hx hb hown (hts (.constantLong RX11 244 (-9223372036854775808)) (by decide +kernel)) dX11_incidence_9 ?_
  exact x_lret (w1 := (fun _ => (WX cI cJ cB cZ ad))) () B h hr rfl dX11_incidence_12
set_option maxHeartbeats 4000000 in
set_option maxRecDepth 100000 in
theorem k78_X12_incidence (l : Launch) (D : va_G) (cI cJ cB cZ : ClassId) (ad bd : Nat → Nat) (p1 : Int32) (p2 : Int32) : MetL l yX12_incidence wsX12_incidence 5 107 0 0 D (TYS cI cJ cB cZ) (WM cI cJ cB cZ bd) [.ref (bd 0), .int p1, .int p2] (fun (r : Int64) (_ : Unit) => r = (-9223372036854775808)) (fun _ => (WM cI cJ cB cZ bd)) := by
  refine x_startL (ty := .long) (cc := cX12_incidence) (by decide) rfl (Nat.le_of_ble_eq_true rfl) ?_
  intro p e s m args below meth c A ls B hr hnm h hl
  have hx := B.1.1
  have hb := B.1.2.1
  have hml := B.1.2.2.1
  have hts := B.1.2.2.2.2
  have hown : s.vm.findClass RX12 = some m.cls := B.1.2.2.2.1
  have hl : lv_has ls 3 [(0, .ref (bd 0)), (1, .int p1), (2, .int p2)] := hl
  refine lv_aload_n hx hb dX12_incidence_0 rfl (lv_at hl 0 rfl) ?_
  refine lv_iload_n hx hb dX12_incidence_1 rfl (lv_at hl 1 rfl) ?_
  refine lv_iload_n hx hb dX12_incidence_2 rfl (lv_at hl 2 rfl) ?_
  refine x_cVIF (n := 2) (As := [.int p1, .int p2]) (rest := []) B h (k57_X12_areEnds l D cI cJ cB cZ ad bd p1 p2) ⟨⟨_, rfl⟩, by decide +kernel, Nat.le_of_ble_eq_true rfl, Nat.le_of_ble_eq_true rfl⟩ gX12_incidence_X12_areEnds (show ((WM cI cJ cB cZ bd) : va_W)[0]? = some (_, .inr (12, _)) from rfl) rfl rfl hl.1 rfl (Nat.le_of_ble_eq_true rfl) dX12_incidence_3 ⟨Nat.le_of_ble_eq_true rfl, Nat.le_of_ble_eq_true rfl⟩ (fun r_1 u_1 H locs hp_1 h => ?_)
  obtain rfl := hp_1
  have h : Hp D A s.heap (WM cI cJ cB cZ bd) H locs := h
  refine lv_if_eq (tgt := 18) hx hb dX12_incidence_6 (by decide) (fun c_2 => ?_) (fun c_2 => absurd c_2 (by decide))
  refine lv_ldc2 (v := (-9223372036854775808)) hx hb hown (hts (.constantLong RX12 241 (-9223372036854775808)) (by decide +kernel)) dX12_incidence_18 ?_
  exact x_lret (w1 := (fun _ => (WM cI cJ cB cZ bd))) () B h hr rfl dX12_incidence_21
set_option maxHeartbeats 4000000 in
set_option maxRecDepth 100000 in
theorem k79_X11_chain (l : Launch) (D : va_G) (cI cJ cB cZ : ClassId) (ad bd : Nat → Nat) (p1 : Int32) (p2 : Int32) : MetL l yX11_chain wsX11_chain 2 42 0 0 D (TYS cI cJ cB cZ) (WX cI cJ cB cZ ad) [.ref (ad 0), .int p1, .int p2] (fun (r : Int64) (_ : Unit) => r = (-9223372036854775808)) (fun _ => (WX cI cJ cB cZ ad)) := by
  refine x_startL (ty := .long) (cc := cX11_chain) (by decide) rfl (Nat.le_of_ble_eq_true rfl) ?_
  intro p e s m args below meth c A ls B hr hnm h hl
  have hx := B.1.1
  have hb := B.1.2.1
  have hml := B.1.2.2.1
  have hts := B.1.2.2.2.2
  have hown : s.vm.findClass RX11 = some m.cls := B.1.2.2.2.1
  have hl : lv_has ls 3 [(0, .ref (ad 0)), (1, .int p1), (2, .int p2)] := hl
  refine lv_aload_n hx hb dX11_chain_0 rfl (lv_at hl 0 rfl) ?_
  refine lv_iload_n hx hb dX11_chain_1 rfl (lv_at hl 1 rfl) ?_
  refine x_cVIF (n := 1) (As := [.int p1]) (rest := []) B h (k46_X11_isThere l D cI cJ cB cZ ad bd p1) ⟨⟨_, rfl⟩, by decide +kernel, Nat.le_of_ble_eq_true rfl, Nat.le_of_ble_eq_true rfl⟩ gX11_chain_X11_isThere (show ((WX cI cJ cB cZ ad) : va_W)[0]? = some (_, .inr (11, _)) from rfl) rfl rfl hl.1 rfl (Nat.le_of_ble_eq_true rfl) dX11_chain_2 ⟨Nat.le_of_ble_eq_true rfl, Nat.le_of_ble_eq_true rfl⟩ (fun r_1 u_1 H locs hp_1 h => ?_)
  obtain rfl := hp_1
  have h : Hp D A s.heap (WX cI cJ cB cZ ad) H locs := h
  refine lv_if_eq (tgt := 27) hx hb dX11_chain_5 (by decide) (fun c_2 => ?_) (fun c_2 => absurd c_2 (by decide))
  refine lv_ldc2 (v := (-9223372036854775808)) hx hb hown (hts (.constantLong RX11 244 (-9223372036854775808)) (by decide +kernel)) dX11_chain_27 ?_
  exact x_lret (w1 := (fun _ => (WX cI cJ cB cZ ad))) () B h hr rfl dX11_chain_30
set_option maxHeartbeats 4000000 in
set_option maxRecDepth 100000 in
theorem k80_X12_chain (l : Launch) (D : va_G) (cI cJ cB cZ : ClassId) (ad bd : Nat → Nat) (p1 : Int32) (p2 : Int32) : MetL l yX12_chain wsX12_chain 4 85 0 0 D (TYS cI cJ cB cZ) (WM cI cJ cB cZ bd) [.ref (bd 0), .int p1, .int p2] (fun (r : Int64) (_ : Unit) => r = (-9223372036854775808)) (fun _ => (WM cI cJ cB cZ bd)) := by
  refine x_startL (ty := .long) (cc := cX12_chain) (by decide) rfl (Nat.le_of_ble_eq_true rfl) ?_
  intro p e s m args below meth c A ls B hr hnm h hl
  have hx := B.1.1
  have hb := B.1.2.1
  have hml := B.1.2.2.1
  have hts := B.1.2.2.2.2
  have hown : s.vm.findClass RX12 = some m.cls := B.1.2.2.2.1
  have hl : lv_has ls 5 [(0, .ref (bd 0)), (1, .int p1), (2, .int p2)] := hl
  refine lv_aload_n hx hb dX12_chain_0 rfl (lv_at hl 0 rfl) ?_
  refine lv_iload_n hx hb dX12_chain_1 rfl (lv_at hl 1 rfl) ?_
  refine x_cVIF (n := 1) (As := [.int p1]) (rest := []) B h (k56_X12_isCritical l D cI cJ cB cZ ad bd p1) ⟨⟨_, rfl⟩, by decide +kernel, Nat.le_of_ble_eq_true rfl, Nat.le_of_ble_eq_true rfl⟩ gX12_chain_X12_isCritical (show ((WM cI cJ cB cZ bd) : va_W)[0]? = some (_, .inr (12, _)) from rfl) rfl rfl hl.1 rfl (Nat.le_of_ble_eq_true rfl) dX12_chain_2 ⟨Nat.le_of_ble_eq_true rfl, Nat.le_of_ble_eq_true rfl⟩ (fun r_1 u_1 H locs hp_1 h => ?_)
  obtain rfl := hp_1
  have h : Hp D A s.heap (WM cI cJ cB cZ bd) H locs := h
  refine lv_if_eq (tgt := 29) hx hb dX12_chain_5 (by decide) (fun c_2 => ?_) (fun c_2 => absurd c_2 (by decide))
  refine lv_ldc2 (v := (-9223372036854775808)) hx hb hown (hts (.constantLong RX12 241 (-9223372036854775808)) (by decide +kernel)) dX12_chain_29 ?_
  exact x_lret (w1 := (fun _ => (WM cI cJ cB cZ bd))) () B h hr rfl dX12_chain_32
set_option maxHeartbeats 4000000 in
set_option maxRecDepth 100000 in
theorem k81_X11_root (l : Launch) (D : va_G) (cI cJ cB cZ : ClassId) (ad bd : Nat → Nat) (p1 : Int32) (p2 : Int32) : MetI l yX11_root wsX11_root 2 42 0 0 D (TYS cI cJ cB cZ) (WX cI cJ cB cZ ad) [.ref (ad 0), .int p1, .int p2] (fun (r : Int32) (_ : Unit) => r = (-1)) (fun _ => (WX cI cJ cB cZ ad)) := by
  refine x_startI (ty := .int) (cc := cX11_root) (by decide) rfl (Nat.le_of_ble_eq_true rfl) ?_
  intro p e s m args below meth c A ls B hr hnm h hl
  have hx := B.1.1
  have hb := B.1.2.1
  have hml := B.1.2.2.1
  have hts := B.1.2.2.2.2
  have hown : s.vm.findClass RX11 = some m.cls := B.1.2.2.2.1
  have hl : lv_has ls 8 [(0, .ref (ad 0)), (1, .int p1), (2, .int p2)] := hl
  refine lv_aload_n hx hb dX11_root_0 rfl (lv_at hl 0 rfl) ?_
  refine lv_iload_n hx hb dX11_root_1 rfl (lv_at hl 1 rfl) ?_
  refine x_cVIF (n := 1) (As := [.int p1]) (rest := []) B h (k46_X11_isThere l D cI cJ cB cZ ad bd p1) ⟨⟨_, rfl⟩, by decide +kernel, Nat.le_of_ble_eq_true rfl, Nat.le_of_ble_eq_true rfl⟩ gX11_root_X11_isThere (show ((WX cI cJ cB cZ ad) : va_W)[0]? = some (_, .inr (11, _)) from rfl) rfl rfl hl.1 rfl (Nat.le_of_ble_eq_true rfl) dX11_root_2 ⟨Nat.le_of_ble_eq_true rfl, Nat.le_of_ble_eq_true rfl⟩ (fun r_1 u_1 H locs hp_1 h => ?_)
  obtain rfl := hp_1
  have h : Hp D A s.heap (WX cI cJ cB cZ ad) H locs := h
  refine lv_if_eq (tgt := 29) hx hb dX11_root_5 (by decide) (fun c_2 => ?_) (fun c_2 => absurd c_2 (by decide))
  refine lv_iconst (v := (-1)) hx hb dX11_root_29 (by decide) ?_
  exact x_iret (w1 := (fun _ => (WX cI cJ cB cZ ad))) () B h hr rfl rfl dX11_root_30
set_option maxHeartbeats 4000000 in
set_option maxRecDepth 100000 in
theorem k82_X12_root (l : Launch) (D : va_G) (cI cJ cB cZ : ClassId) (ad bd : Nat → Nat) (p1 : Int32) (p2 : Int32) : MetI l yX12_root wsX12_root 3 64 0 0 D (TYS cI cJ cB cZ) (WM cI cJ cB cZ bd) [.ref (bd 0), .int p1, .int p2] (fun (r : Int32) (_ : Unit) => r = (-1)) (fun _ => (WM cI cJ cB cZ bd)) := by
  refine x_startI (ty := .int) (cc := cX12_root) (by decide) rfl (Nat.le_of_ble_eq_true rfl) ?_
  intro p e s m args below meth c A ls B hr hnm h hl
  have hx := B.1.1
  have hb := B.1.2.1
  have hml := B.1.2.2.1
  have hts := B.1.2.2.2.2
  have hown : s.vm.findClass RX12 = some m.cls := B.1.2.2.2.1
  have hl : lv_has ls 5 [(0, .ref (bd 0)), (1, .int p1), (2, .int p2)] := hl
  refine lv_aload_n hx hb dX12_root_0 rfl (lv_at hl 0 rfl) ?_
  refine lv_iload_n hx hb dX12_root_1 rfl (lv_at hl 1 rfl) ?_
  refine x_cVIF (n := 1) (As := [.int p1]) (rest := []) B h (k48_X12_isThere l D cI cJ cB cZ ad bd p1) ⟨⟨_, rfl⟩, by decide +kernel, Nat.le_of_ble_eq_true rfl, Nat.le_of_ble_eq_true rfl⟩ gX12_root_X12_isThere (show ((WM cI cJ cB cZ bd) : va_W)[0]? = some (_, .inr (12, _)) from rfl) rfl rfl hl.1 rfl (Nat.le_of_ble_eq_true rfl) dX12_root_2 ⟨Nat.le_of_ble_eq_true rfl, Nat.le_of_ble_eq_true rfl⟩ (fun r_1 u_1 H locs hp_1 h => ?_)
  obtain rfl := hp_1
  have h : Hp D A s.heap (WM cI cJ cB cZ bd) H locs := h
  refine lv_if_eq (tgt := 25) hx hb dX12_root_5 (by decide) (fun c_2 => ?_) (fun c_2 => absurd c_2 (by decide))
  refine lv_iconst (v := (-1)) hx hb dX12_root_25 (by decide) ?_
  exact x_iret (w1 := (fun _ => (WM cI cJ cB cZ bd))) () B h hr rfl rfl dX12_root_26
set_option maxHeartbeats 4000000 in
set_option maxRecDepth 100000 in
theorem k83_X11_through (l : Launch) (D : va_G) (cI cJ cB cZ : ClassId) (ad bd : Nat → Nat) (p1 : Int32) (p2 : Int32) (p3 : Int32) : MetL l yX11_through wsX11_through 3 64 0 0 D (TYS cI cJ cB cZ) (WX cI cJ cB cZ ad) [.ref (ad 0), .int p1, .int p2, .int p3] (fun (r : Int64) (_ : Unit) => r = (-1)) (fun _ => (WX cI cJ cB cZ ad)) := by
  refine x_startL (ty := .long) (cc := cX11_through) (by decide) rfl (Nat.le_of_ble_eq_true rfl) ?_
  intro p e s m args below meth c A ls B hr hnm h hl
  have hx := B.1.1
  have hb := B.1.2.1
  have hml := B.1.2.2.1
  have hts := B.1.2.2.2.2
  have hown : s.vm.findClass RX11 = some m.cls := B.1.2.2.2.1
  have hl : lv_has ls 4 [(0, .ref (ad 0)), (1, .int p1), (2, .int p2), (3, .int p3)] := hl
  refine lv_aload_n hx hb dX11_through_0 rfl (lv_at hl 0 rfl) ?_
  refine lv_iload_n hx hb dX11_through_1 rfl (lv_at hl 1 rfl) ?_
  refine lv_iload_n hx hb dX11_through_2 rfl (lv_at hl 2 rfl) ?_
  refine x_cVIF (n := 2) (As := [.int p1, .int p2]) (rest := []) B h (k54_X11_areEnds l D cI cJ cB cZ ad bd p1 p2) ⟨⟨_, rfl⟩, by decide +kernel, Nat.le_of_ble_eq_true rfl, Nat.le_of_ble_eq_true rfl⟩ gX11_through_X11_areEnds (show ((WX cI cJ cB cZ ad) : va_W)[0]? = some (_, .inr (11, _)) from rfl) rfl rfl hl.1 rfl (Nat.le_of_ble_eq_true rfl) dX11_through_3 ⟨Nat.le_of_ble_eq_true rfl, Nat.le_of_ble_eq_true rfl⟩ (fun r_1 u_1 H locs hp_1 h => ?_)
  obtain rfl := hp_1
  have h : Hp D A s.heap (WX cI cJ cB cZ ad) H locs := h
  refine lv_if_eq (tgt := 17) hx hb dX11_through_6 (by decide) (fun c_2 => ?_) (fun c_2 => absurd c_2 (by decide))
  refine lv_ldc2 (v := (-1)) hx hb hown (hts (.constantLong RX11 242 (-1)) (by decide +kernel)) dX11_through_17 ?_
  exact x_lret (w1 := (fun _ => (WX cI cJ cB cZ ad))) () B h hr rfl dX11_through_20
set_option maxHeartbeats 4000000 in
set_option maxRecDepth 100000 in
theorem k84_X12_through (l : Launch) (D : va_G) (cI cJ cB cZ : ClassId) (ad bd : Nat → Nat) (p1 : Int32) (p2 : Int32) (p3 : Int32) : MetL l yX12_through wsX12_through 5 107 0 0 D (TYS cI cJ cB cZ) (WM cI cJ cB cZ bd) [.ref (bd 0), .int p1, .int p2, .int p3] (fun (r : Int64) (_ : Unit) => r = (-1)) (fun _ => (WM cI cJ cB cZ bd)) := by
  refine x_startL (ty := .long) (cc := cX12_through) (by decide) rfl (Nat.le_of_ble_eq_true rfl) ?_
  intro p e s m args below meth c A ls B hr hnm h hl
  have hx := B.1.1
  have hb := B.1.2.1
  have hml := B.1.2.2.1
  have hts := B.1.2.2.2.2
  have hown : s.vm.findClass RX12 = some m.cls := B.1.2.2.2.1
  have hl : lv_has ls 8 [(0, .ref (bd 0)), (1, .int p1), (2, .int p2), (3, .int p3)] := hl
  refine lv_aload_n hx hb dX12_through_0 rfl (lv_at hl 0 rfl) ?_
  refine lv_iload_n hx hb dX12_through_1 rfl (lv_at hl 1 rfl) ?_
  refine lv_iload_n hx hb dX12_through_2 rfl (lv_at hl 2 rfl) ?_
  refine x_cVIF (n := 2) (As := [.int p1, .int p2]) (rest := []) B h (k57_X12_areEnds l D cI cJ cB cZ ad bd p1 p2) ⟨⟨_, rfl⟩, by decide +kernel, Nat.le_of_ble_eq_true rfl, Nat.le_of_ble_eq_true rfl⟩ gX12_through_X12_areEnds (show ((WM cI cJ cB cZ bd) : va_W)[0]? = some (_, .inr (12, _)) from rfl) rfl rfl hl.1 rfl (Nat.le_of_ble_eq_true rfl) dX12_through_3 ⟨Nat.le_of_ble_eq_true rfl, Nat.le_of_ble_eq_true rfl⟩ (fun r_1 u_1 H locs hp_1 h => ?_)
  obtain rfl := hp_1
  have h : Hp D A s.heap (WM cI cJ cB cZ bd) H locs := h
  refine lv_if_eq (tgt := 17) hx hb dX12_through_6 (by decide) (fun c_2 => ?_) (fun c_2 => absurd c_2 (by decide))
  refine lv_ldc2 (v := (-1)) hx hb hown (hts (.constantLong RX12 236 (-1)) (by decide +kernel)) dX12_through_17 ?_
  exact x_lret (w1 := (fun _ => (WM cI cJ cB cZ bd))) () B h hr rfl dX12_through_20
set_option maxHeartbeats 4000000 in
set_option maxRecDepth 100000 in
theorem k85_X11_squares (l : Launch) (D : va_G) (cI cJ cB cZ : ClassId) (ad bd : Nat → Nat) : MetI l yX11_squares wsX11_squares 1 20 0 0 D (TYS cI cJ cB cZ) (WX cI cJ cB cZ ad) [.ref (ad 0)] (fun (r : Int32) (_ : Unit) => r = 0) (fun _ => (WX cI cJ cB cZ ad)) := by
  refine x_startI (ty := .int) (cc := cX11_squares) (by decide) rfl (Nat.le_of_ble_eq_true rfl) ?_
  intro p e s m args below meth c A ls B hr hnm h hl
  have hx := B.1.1
  have hb := B.1.2.1
  have hml := B.1.2.2.1
  have hts := B.1.2.2.2.2
  have hown : s.vm.findClass RX11 = some m.cls := B.1.2.2.2.1
  have hin9 : ∀ w ∈ u_ws RX9 TX9 7, w ∈ wsX11_squares := by decide +kernel
  have hin11 : ∀ w ∈ u_ws RX11 TX11 11, w ∈ wsX11_squares := by decide +kernel
  have hl : lv_has ls 5 [(0, .ref (ad 0))] := hl
  refine lv_iconst (v := 0) hx hb dX11_squares_0 (by decide) ?_
  refine lv_istore_n (lv' := [(1, .int 0), (0, .ref (ad 0))]) hx hb dX11_squares_1 rfl hl (by decide) rfl (fun ls hl => ?_)
  refine lv_aload_n hx hb dX11_squares_2 rfl (lv_at hl 1 rfl) ?_
  refine x_get (ci := 11) (C := RX11) (T := TX11) (N := 11) (v := .ref (ad 4)) B h hin11 0 3 rfl rfl (by decide) (by decide +kernel) rfl dX11_squares_3 ?_
  refine x_cVLF (n := 0) (As := []) (rest := []) B h (k64_X6_unpaired l D cI cJ cB cZ ad bd) ⟨⟨_, rfl⟩, by decide +kernel, Nat.le_of_ble_eq_true rfl, Nat.le_of_ble_eq_true rfl⟩ gX11_squares_X6_unpaired (show ((WX cI cJ cB cZ ad) : va_W)[4]? = some (_, .inr (6, _)) from rfl) rfl rfl hl.1 rfl (Nat.le_of_ble_eq_true rfl) dX11_squares_6 ⟨Nat.le_of_ble_eq_true rfl, Nat.le_of_ble_eq_true rfl⟩ (fun r_1 u_1 H locs hp_1 h => ?_)
  obtain rfl := hp_1
  have h : Hp D A s.heap (WX cI cJ cB cZ ad) H locs := h
  refine lv_lstore_n (lv' := [(2, .long 0), (1, .int 0), (0, .ref (ad 0))]) hx hb dX11_squares_9 rfl hl (by decide) rfl (fun ls hl => ?_)
  refine lv_iconst (v := 0) hx hb dX11_squares_10 (by decide) ?_
  refine lv_istore (lv' := [(4, .int 0), (2, .long 0), (1, .int 0), (0, .ref (ad 0))]) hx hb dX11_squares_11 hl (by decide) rfl (fun ls hl => ?_)
  refine lv_iload hx hb dX11_squares_13 (lv_at hl 0 rfl) ?_
  refine lv_aload_n hx hb dX11_squares_15 rfl (lv_at hl 3 rfl) ?_
  refine x_get (ci := 11) (C := RX11) (T := TX11) (N := 11) (v := .ref (ad 3)) B h hin11 0 2 rfl rfl (by decide) (by decide +kernel) rfl dX11_squares_16 ?_
  refine x_get (ci := 9) (C := RX9) (T := TX9) (N := 7) (v := .int 0) B h hin9 3 0 rfl rfl (by decide) (by decide +kernel) rfl dX11_squares_19 ?_
  refine lv_icmp_ge (tgt := 63) hx hb dX11_squares_22 (by decide) (fun c_2 => ?_) (fun c_2 => absurd c_2 (by decide))
  refine lv_iload_n hx hb dX11_squares_63 rfl (lv_at hl 2 rfl) ?_
  exact x_iret (w1 := (fun _ => (WX cI cJ cB cZ ad))) () B h hr rfl rfl dX11_squares_64
set_option maxHeartbeats 4000000 in
set_option maxRecDepth 100000 in
theorem k86_X12_squares (l : Launch) (D : va_G) (cI cJ cB cZ : ClassId) (ad bd : Nat → Nat) : MetI l yX12_squares wsX12_squares 0 0 0 0 D (TYS cI cJ cB cZ) (WM cI cJ cB cZ bd) [.ref (bd 0)] (fun (r : Int32) (_ : Unit) => r = 0) (fun _ => (WM cI cJ cB cZ bd)) := by
  refine x_startI (ty := .int) (cc := cX12_squares) (by decide) rfl (Nat.le_of_ble_eq_true rfl) ?_
  intro p e s m args below meth c A ls B hr hnm h hl
  have hx := B.1.1
  have hb := B.1.2.1
  have hml := B.1.2.2.1
  have hts := B.1.2.2.2.2
  have hown : s.vm.findClass RX12 = some m.cls := B.1.2.2.2.1
  have hin12 : ∀ w ∈ u_ws RX12 TX12 31, w ∈ wsX12_squares := by decide +kernel
  have hl : lv_has ls 4 [(0, .ref (bd 0))] := hl
  refine lv_iconst (v := 0) hx hb dX12_squares_0 (by decide) ?_
  refine lv_istore_n (lv' := [(1, .int 0), (0, .ref (bd 0))]) hx hb dX12_squares_1 rfl hl (by decide) rfl (fun ls hl => ?_)
  refine lv_iconst (v := 0) hx hb dX12_squares_2 (by decide) ?_
  refine lv_istore_n (lv' := [(2, .int 0), (1, .int 0), (0, .ref (bd 0))]) hx hb dX12_squares_3 rfl hl (by decide) rfl (fun ls hl => ?_)
  refine lv_iload_n hx hb dX12_squares_4 rfl (lv_at hl 0 rfl) ?_
  refine lv_aload_n hx hb dX12_squares_5 rfl (lv_at hl 2 rfl) ?_
  refine x_get (ci := 12) (C := RX12) (T := TX12) (N := 31) (v := .int 0) B h hin12 0 5 rfl rfl (by decide) (by decide +kernel) rfl dX12_squares_6 ?_
  refine lv_icmp_ge (tgt := 87) hx hb dX12_squares_9 (by decide) (fun c_1 => ?_) (fun c_1 => absurd c_1 (by decide))
  refine lv_iload_n hx hb dX12_squares_87 rfl (lv_at hl 1 rfl) ?_
  exact x_iret (w1 := (fun _ => (WM cI cJ cB cZ bd))) () B h hr rfl rfl dX12_squares_88
set_option maxHeartbeats 4000000 in
set_option maxRecDepth 100000 in
theorem k87_X11_basis (l : Launch) (D : va_G) (cI cJ cB cZ : ClassId) (ad bd : Nat → Nat) : MetL l yX11_basis wsX11_basis 0 0 0 0 D (TYS cI cJ cB cZ) (WX cI cJ cB cZ ad) [.ref (ad 0), .int 0] (fun (r : Int64) (_ : Unit) => r = 0) (fun _ => (WX cI cJ cB cZ ad)) := by
  refine x_startL (ty := .long) (cc := cX11_basis) (by decide) rfl (Nat.le_of_ble_eq_true rfl) ?_
  intro p e s m args below meth c A ls B hr hnm h hl
  have hx := B.1.1
  have hb := B.1.2.1
  have hml := B.1.2.2.1
  have hts := B.1.2.2.2.2
  have hown : s.vm.findClass RX11 = some m.cls := B.1.2.2.2.1
  have hin6 : ∀ w ∈ u_ws RX6 TX6 6, w ∈ wsX11_basis := by decide +kernel
  have hin11 : ∀ w ∈ u_ws RX11 TX11 11, w ∈ wsX11_basis := by decide +kernel
  have hl : lv_has ls 2 [(0, .ref (ad 0)), (1, .int 0)] := hl
  refine lv_iload_n hx hb dX11_basis_0 rfl (lv_at hl 1 rfl) ?_
  refine lv_iconst (v := 1) hx hb dX11_basis_1 (by decide) ?_
  refine lv_icmp_ne (tgt := 15) hx hb dX11_basis_2 (by decide) (fun c_1 => ?_) (fun c_1 => absurd c_1 (by decide))
  refine lv_aload_n hx hb dX11_basis_15 rfl (lv_at hl 0 rfl) ?_
  refine x_get (ci := 11) (C := RX11) (T := TX11) (N := 11) (v := .ref (ad 4)) B h hin11 0 3 rfl rfl (by decide) (by decide +kernel) rfl dX11_basis_16 ?_
  refine x_get (ci := 6) (C := RX6) (T := TX6) (N := 6) (v := .long 0) B h hin6 4 2 rfl rfl (by decide) (by decide +kernel) rfl dX11_basis_19 ?_
  exact x_lret (w1 := (fun _ => (WX cI cJ cB cZ ad))) () B h hr rfl dX11_basis_22
set_option maxHeartbeats 4000000 in
set_option maxRecDepth 100000 in
theorem k88_X0_rankOf (l : Launch) (D : va_G) (cI cJ cB cZ : ClassId) (ad bd : Nat → Nat) : MetI l yX0_rankOf wsX0_rankOf 0 0 0 0 D (TYS cI cJ cB cZ) (WX cI cJ cB cZ ad) [.ref (ad 8), .long 0, .int 0, .int 0] (fun (r : Int32) (_ : Unit) => r = 0) (fun _ => (WX cI cJ cB cZ ad)) := by
  refine x_startI (ty := .int) (cc := cX0_rankOf) (by decide) rfl (Nat.le_of_ble_eq_true rfl) ?_
  intro p e s m args below meth c A ls B hr hnm h hl
  have hx := B.1.1
  have hb := B.1.2.1
  have hml := B.1.2.2.1
  have hts := B.1.2.2.2.2
  have hown : s.vm.findClass RX0 = some m.cls := B.1.2.2.2.1
  have hl : lv_has ls 5 [(0, .ref (ad 8)), (1, .long 0), (3, .int 0), (4, .int 0)] := hl
  refine lv_iload_n hx hb dX0_rankOf_0 rfl (lv_at hl 2 rfl) ?_
  refine lv_iconst (v := 1) hx hb dX0_rankOf_1 (by decide) ?_
  refine lv_icmp_lt (tgt := 10) hx hb dX0_rankOf_2 (by decide) (fun c_1 => ?_) (fun c_1 => absurd c_1 (by decide))
  refine lv_iconst (v := 0) hx hb dX0_rankOf_10 (by decide) ?_
  exact x_iret (w1 := (fun _ => (WX cI cJ cB cZ ad))) () B h hr rfl rfl dX0_rankOf_11
set_option maxHeartbeats 4000000 in
set_option maxRecDepth 100000 in
theorem k89_X5_resize (l : Launch) (D : va_G) (cI cJ cB cZ : ClassId) (ad bd : Nat → Nat) : MetV l yX5_resize wsX5_resize 0 0 0 0 D (TYS cI cJ cB cZ) (WX cI cJ cB cZ ad) [.ref (ad 11), .int 0, .int 0] (fun _ : Unit => True) (fun _ => (WX cI cJ cB cZ ad)) := by
  refine x_startV (ty := .int) (cc := cX5_resize) (by decide) rfl (Nat.le_of_ble_eq_true rfl) ?_
  intro p e s m args below meth c A ls B hr hnm h hl
  have hx := B.1.1
  have hb := B.1.2.1
  have hml := B.1.2.2.1
  have hts := B.1.2.2.2.2
  have hown : s.vm.findClass RX5 = some m.cls := B.1.2.2.2.1
  have hin5 : ∀ w ∈ u_ws RX5 TX5 6, w ∈ wsX5_resize := by decide +kernel
  have hl : lv_has ls 4 [(0, .ref (ad 11)), (1, .int 0), (2, .int 0)] := hl
  refine lv_iload_n hx hb dX5_resize_0 rfl (lv_at hl 1 rfl) ?_
  refine lv_if_lt (tgt := 33) hx hb dX5_resize_1 (by decide) (fun c_1 => absurd c_1 (by decide)) (fun c_1 => ?_)
  refine lv_iload_n hx hb dX5_resize_4 rfl (lv_at hl 2 rfl) ?_
  refine lv_if_lt (tgt := 33) hx hb dX5_resize_5 (by decide) (fun c_2 => absurd c_2 (by decide)) (fun c_2 => ?_)
  refine lv_iload_n hx hb dX5_resize_8 rfl (lv_at hl 1 rfl) ?_
  refine lv_bipush (v := 64) hx hb dX5_resize_9 (by decide) ?_
  refine lv_icmp_ge (tgt := 33) hx hb dX5_resize_11 (by decide) (fun c_3 => absurd c_3 (by decide)) (fun c_3 => ?_)
  refine lv_iload_n hx hb dX5_resize_14 rfl (lv_at hl 2 rfl) ?_
  refine lv_bipush (v := 64) hx hb dX5_resize_15 (by decide) ?_
  refine lv_icmp_ge (tgt := 33) hx hb dX5_resize_17 (by decide) (fun c_4 => absurd c_4 (by decide)) (fun c_4 => ?_)
  refine lv_iload_n hx hb dX5_resize_20 rfl (lv_at hl 1 rfl) ?_
  refine lv_iload_n hx hb dX5_resize_21 rfl (lv_at hl 2 rfl) ?_
  refine lv_imul hx hb dX5_resize_22 ?_
  refine lv_topi (fun v_5 ev_5 => ?_)
  obtain rfl : v_5 = 0 := ev_5.trans (by decide)
  refine lv_sipush (v := 900) hx hb dX5_resize_23 (by decide) ?_
  refine lv_icmp_gt (tgt := 33) hx hb dX5_resize_26 (by decide) (fun c_6 => absurd c_6 (by decide)) (fun c_6 => ?_)
  refine lv_iconst (v := 1) hx hb dX5_resize_29 (by decide) ?_
  refine lv_goto (tgt := 34) hx hb dX5_resize_30 (by decide) ?_
  refine lv_istore_n (lv' := [(3, .int 1), (0, .ref (ad 11)), (1, .int 0), (2, .int 0)]) hx hb dX5_resize_34 rfl hl (by decide) rfl (fun ls hl => ?_)
  refine lv_aload_n hx hb dX5_resize_35 rfl (lv_at hl 1 rfl) ?_
  refine lv_iload_n hx hb dX5_resize_36 rfl (lv_at hl 0 rfl) ?_
  refine lv_if_eq (tgt := 44) hx hb dX5_resize_37 (by decide) (fun c_7 => absurd c_7 (by decide)) (fun c_7 => ?_)
  refine lv_iload_n hx hb dX5_resize_40 rfl (lv_at hl 2 rfl) ?_
  refine lv_goto (tgt := 45) hx hb dX5_resize_41 (by decide) ?_
  refine x_put (ci := 5) (C := RX5) (T := TX5) (N := 6) (v := .int 0) (ty := .int) B h hin5 tyX5 tyX5_ok nmX5 11 3 rfl rfl (by decide) (by decide +kernel) rfl rfl rfl rfl (Nat.le_of_ble_eq_true rfl) dX5_resize_45 (fun H locs h => ?_)
  have h : Hp D A s.heap (WX cI cJ cB cZ ad) H locs := h
  refine lv_aload_n hx hb dX5_resize_48 rfl (lv_at hl 1 rfl) ?_
  refine lv_iload_n hx hb dX5_resize_49 rfl (lv_at hl 0 rfl) ?_
  refine lv_if_eq (tgt := 57) hx hb dX5_resize_50 (by decide) (fun c_8 => absurd c_8 (by decide)) (fun c_8 => ?_)
  refine lv_iload_n hx hb dX5_resize_53 rfl (lv_at hl 3 rfl) ?_
  refine lv_goto (tgt := 58) hx hb dX5_resize_54 (by decide) ?_
  refine x_put (ci := 5) (C := RX5) (T := TX5) (N := 6) (v := .int 0) (ty := .int) B h hin5 tyX5 tyX5_ok nmX5 11 4 rfl rfl (by decide) (by decide +kernel) rfl rfl rfl rfl (Nat.le_of_ble_eq_true rfl) dX5_resize_58 (fun H locs h => ?_)
  have h : Hp D A s.heap (WX cI cJ cB cZ ad) H locs := h
  exact x_vret (w1 := (fun _ => (WX cI cJ cB cZ ad))) () B h hr trivial dX5_resize_61
set_option maxHeartbeats 4000000 in
set_option maxRecDepth 100000 in
theorem k90_X0_fill (l : Launch) (D : va_G) (cI cJ cB cZ : ClassId) (ad bd : Nat → Nat) : MetV l yX0_fill wsX0_fill 1 23 0 0 D (TYS cI cJ cB cZ) (WX cI cJ cB cZ ad) [.ref (ad 8), .long 0, .long 0, .int 0] (fun _ : Unit => True) (fun _ => (WX cI cJ cB cZ ad)) := by
  refine x_startV (ty := .int) (cc := cX0_fill) (by decide) rfl (Nat.le_of_ble_eq_true rfl) ?_
  intro p e s m args below meth c A ls B hr hnm h hl
  have hx := B.1.1
  have hb := B.1.2.1
  have hml := B.1.2.2.1
  have hts := B.1.2.2.2.2
  have hown : s.vm.findClass RX0 = some m.cls := B.1.2.2.2.1
  have hin0 : ∀ w ∈ u_ws RX0 TX0 4, w ∈ wsX0_fill := by decide +kernel
  have hin9 : ∀ w ∈ u_ws RX9 TX9 7, w ∈ wsX0_fill := by decide +kernel
  have hl : lv_has ls 8 [(0, .ref (ad 8)), (1, .long 0), (3, .long 0), (5, .int 0)] := hl
  refine lv_aload_n hx hb dX0_fill_0 rfl (lv_at hl 0 rfl) ?_
  refine x_get (ci := 0) (C := RX0) (T := TX0) (N := 4) (v := .ref (ad 11)) B h hin0 8 2 rfl rfl (by decide) (by decide +kernel) rfl dX0_fill_1 ?_
  refine lv_lload_n hx hb dX0_fill_4 rfl (lv_at hl 1 rfl) ?_
  refine x_cSIE (n := 1) (As := [.long 0]) (rest := [.ref (ad 11)]) B h (k65_J13_bitCount_95d88 l D cI cJ cB cZ ad bd) ⟨⟨_, rfl⟩, by decide +kernel, Nat.le_of_ble_eq_true rfl, Nat.le_of_ble_eq_true rfl⟩ gX0_fill_J13_bitCount_95d88 rfl hl.1 rfl (Nat.le_of_ble_eq_true rfl) dX0_fill_5 ⟨Nat.le_of_ble_eq_true rfl, Nat.le_of_ble_eq_true rfl⟩ (fun r_1 u_1 H locs hp_1 h => ?_)
  obtain rfl := hp_1
  have h : Hp D A s.heap (WX cI cJ cB cZ ad) H locs := h
  refine lv_lload_n hx hb dX0_fill_8 rfl (lv_at hl 2 rfl) ?_
  refine x_cSIE (n := 1) (As := [.long 0]) (rest := [.int 0, .ref (ad 11)]) B h (k65_J13_bitCount_95d88 l D cI cJ cB cZ ad bd) ⟨⟨_, rfl⟩, by decide +kernel, Nat.le_of_ble_eq_true rfl, Nat.le_of_ble_eq_true rfl⟩ gX0_fill_J13_bitCount_95d88 rfl hl.1 rfl (Nat.le_of_ble_eq_true rfl) dX0_fill_9 ⟨Nat.le_of_ble_eq_true rfl, Nat.le_of_ble_eq_true rfl⟩ (fun r_2 u_2 H locs hp_2 h => ?_)
  obtain rfl := hp_2
  have h : Hp D A s.heap (WX cI cJ cB cZ ad) H locs := h
  refine x_cVVF (n := 2) (As := [.int 0, .int 0]) (rest := []) B h (k89_X5_resize l D cI cJ cB cZ ad bd) ⟨⟨_, rfl⟩, by decide +kernel, Nat.le_of_ble_eq_true rfl, Nat.le_of_ble_eq_true rfl⟩ gX0_fill_X5_resize (show ((WX cI cJ cB cZ ad) : va_W)[11]? = some (_, .inr (5, _)) from rfl) rfl rfl hl.1 rfl (Nat.le_of_ble_eq_true rfl) dX0_fill_12 ⟨Nat.le_of_ble_eq_true rfl, Nat.le_of_ble_eq_true rfl⟩ (fun u_3 H locs hp_3 h => ?_)
  have h : Hp D A s.heap (WX cI cJ cB cZ ad) H locs := h
  refine lv_iconst (v := 0) hx hb dX0_fill_15 (by decide) ?_
  refine lv_istore (lv' := [(6, .int 0), (0, .ref (ad 8)), (1, .long 0), (3, .long 0), (5, .int 0)]) hx hb dX0_fill_16 hl (by decide) rfl (fun ls hl => ?_)
  refine lv_iconst (v := 0) hx hb dX0_fill_18 (by decide) ?_
  refine lv_istore (lv' := [(7, .int 0), (6, .int 0), (0, .ref (ad 8)), (1, .long 0), (3, .long 0), (5, .int 0)]) hx hb dX0_fill_19 hl (by decide) rfl (fun ls hl => ?_)
  refine lv_iload hx hb dX0_fill_21 (lv_at hl 0 rfl) ?_
  refine lv_aload_n hx hb dX0_fill_23 rfl (lv_at hl 2 rfl) ?_
  refine x_get (ci := 0) (C := RX0) (T := TX0) (N := 4) (v := .ref (ad 3)) B h hin0 8 0 rfl rfl (by decide) (by decide +kernel) rfl dX0_fill_24 ?_
  refine x_get (ci := 9) (C := RX9) (T := TX9) (N := 7) (v := .int 0) B h hin9 3 0 rfl rfl (by decide) (by decide +kernel) rfl dX0_fill_27 ?_
  refine lv_icmp_ge (tgt := 94) hx hb dX0_fill_30 (by decide) (fun c_4 => ?_) (fun c_4 => absurd c_4 (by decide))
  exact x_vret (w1 := (fun _ => (WX cI cJ cB cZ ad))) () B h hr trivial dX0_fill_94
set_option maxHeartbeats 4000000 in
set_option maxRecDepth 100000 in
theorem k91_X5_eliminate (l : Launch) (D : va_G) (cI cJ cB cZ : ClassId) (ad bd : Nat → Nat) : MetI l yX5_eliminate wsX5_eliminate 1 64 0 0 D (TYS cI cJ cB cZ) (WX cI cJ cB cZ ad) [.ref (ad 11)] (fun (r : Int32) (_ : Unit) => r = 0) (fun _ => (WX cI cJ cB cZ ad (Matrix_minor := 1))) := by
  refine x_startI (ty := .int) (cc := cX5_eliminate) (by decide) rfl (Nat.le_of_ble_eq_true rfl) ?_
  intro p e s m args below meth c A ls B hr hnm h hl
  have hx := B.1.1
  have hb := B.1.2.1
  have hml := B.1.2.2.1
  have hts := B.1.2.2.2.2
  have hown : s.vm.findClass RX5 = some m.cls := B.1.2.2.2.1
  have hin5 : ∀ w ∈ u_ws RX5 TX5 6, w ∈ wsX5_eliminate := by decide +kernel
  have hl : lv_has ls 6 [(0, .ref (ad 11))] := hl
  refine lv_aload_n hx hb dX5_eliminate_0 rfl (lv_at hl 0 rfl) ?_
  refine x_get (ci := 5) (C := RX5) (T := TX5) (N := 6) (v := .ref (ad 30)) B h hin5 11 0 rfl rfl (by decide) (by decide +kernel) rfl dX5_eliminate_1 ?_
  refine lv_iconst (v := 0) hx hb dX5_eliminate_4 (by decide) ?_
  refine lv_aload_n hx hb dX5_eliminate_5 rfl (lv_at hl 0 rfl) ?_
  refine x_get (ci := 5) (C := RX5) (T := TX5) (N := 6) (v := .ref (ad 31)) B h hin5 11 1 rfl rfl (by decide) (by decide +kernel) rfl dX5_eliminate_6 ?_
  refine lv_iconst (v := 0) hx hb dX5_eliminate_9 (by decide) ?_
  refine lv_aload_n hx hb dX5_eliminate_10 rfl (lv_at hl 0 rfl) ?_
  refine x_get (ci := 5) (C := RX5) (T := TX5) (N := 6) (v := .int 0) B h hin5 11 3 rfl rfl (by decide) (by decide +kernel) rfl dX5_eliminate_11 ?_
  refine lv_aload_n hx hb dX5_eliminate_14 rfl (lv_at hl 0 rfl) ?_
  refine x_get (ci := 5) (C := RX5) (T := TX5) (N := 6) (v := .int 0) B h hin5 11 4 rfl rfl (by decide) (by decide +kernel) rfl dX5_eliminate_15 ?_
  refine lv_imul hx hb dX5_eliminate_18 ?_
  refine lv_topi (fun v_1 ev_1 => ?_)
  obtain rfl : v_1 = 0 := ev_1.trans (by decide)
  refine va_copyl hx hb (hml.trans hl.1.symm) hown (hts (.methodLink RX5 28 arraycopyName) (by decide +kernel)) (hts (.native arraycopyName) (by decide +kernel)) (hts (.static arraycopyName) (by decide +kernel)) (hts (.initialized "java/lang/System") (by decide +kernel)) B.2.1 h.1 h.2.1 h.2.2.1 30 31 1 1 rfl rfl rfl rfl rfl (by decide) (by decide) (by decide) (by decide) (by decide) (fun i hi => absurd hi (Nat.not_lt_zero _)) (Nat.le_of_ble_eq_true rfl) (by decide) dX5_eliminate_19 (fun H locs hP hD hS => ?_)
  rw [cpy_zero] at hP hD
  have h : Hp D A s.heap (WX cI cJ cB cZ ad) H locs := ⟨hP, hD, hS, h.2.2.2⟩
  refine lv_iconst (v := 0) hx hb dX5_eliminate_22 (by decide) ?_
  refine lv_istore_n (lv' := [(1, .int 0), (0, .ref (ad 11))]) hx hb dX5_eliminate_23 rfl hl (by decide) rfl (fun ls hl => ?_)
  refine lv_lconst (v := 1) hx hb dX5_eliminate_24 (by decide) ?_
  refine lv_lstore_n (lv' := [(2, .long 1), (1, .int 0), (0, .ref (ad 11))]) hx hb dX5_eliminate_25 rfl hl (by decide) rfl (fun ls hl => ?_)
  refine lv_iconst (v := 0) hx hb dX5_eliminate_26 (by decide) ?_
  refine lv_istore (lv' := [(4, .int 0), (2, .long 1), (1, .int 0), (0, .ref (ad 11))]) hx hb dX5_eliminate_27 hl (by decide) rfl (fun ls hl => ?_)
  refine lv_iload hx hb dX5_eliminate_29 (lv_at hl 0 rfl) ?_
  refine lv_aload_n hx hb dX5_eliminate_31 rfl (lv_at hl 3 rfl) ?_
  refine x_get (ci := 5) (C := RX5) (T := TX5) (N := 6) (v := .int 0) B h hin5 11 4 rfl rfl (by decide) (by decide +kernel) rfl dX5_eliminate_32 ?_
  refine lv_icmp_ge (tgt := 111) hx hb dX5_eliminate_35 (by decide) (fun c_3 => ?_) (fun c_3 => absurd c_3 (by decide))
  refine lv_aload_n hx hb dX5_eliminate_111 rfl (lv_at hl 3 rfl) ?_
  refine lv_lload_n hx hb dX5_eliminate_112 rfl (lv_at hl 1 rfl) ?_
  refine x_put (ci := 5) (C := RX5) (T := TX5) (N := 6) (v := .long 1) (ty := .long) B h hin5 tyX5 tyX5_ok nmX5 11 5 rfl rfl (by decide) (by decide +kernel) rfl rfl rfl rfl (Nat.le_of_ble_eq_true rfl) dX5_eliminate_113 (fun H locs h => ?_)
  have h : Hp D A s.heap (WX cI cJ cB cZ ad (Matrix_minor := 1)) H locs := h
  refine lv_iload_n hx hb dX5_eliminate_116 rfl (lv_at hl 2 rfl) ?_
  exact x_iret (w1 := (fun _ => (WX cI cJ cB cZ ad (Matrix_minor := 1)))) () B h hr rfl rfl dX5_eliminate_117
set_option maxHeartbeats 4000000 in
set_option maxRecDepth 100000 in
theorem k92_X0_rankOf (l : Launch) (D : va_G) (cI cJ cB cZ : ClassId) (ad bd : Nat → Nat) : MetI l yX0_rankOf wsX0_rankOf 2 89 0 0 D (TYS cI cJ cB cZ) (WX cI cJ cB cZ ad) [.ref (ad 8), .long 0, .int 1, .int 0] (fun (r : Int32) (_ : Unit) => r = 0) (fun _ => (WX cI cJ cB cZ ad (Matrix_minor := 1))) := by
  refine x_startI (ty := .int) (cc := cX0_rankOf) (by decide) rfl (Nat.le_of_ble_eq_true rfl) ?_
  intro p e s m args below meth c A ls B hr hnm h hl
  have hx := B.1.1
  have hb := B.1.2.1
  have hml := B.1.2.2.1
  have hts := B.1.2.2.2.2
  have hown : s.vm.findClass RX0 = some m.cls := B.1.2.2.2.1
  have hin0 : ∀ w ∈ u_ws RX0 TX0 4, w ∈ wsX0_rankOf := by decide +kernel
  have hin9 : ∀ w ∈ u_ws RX9 TX9 7, w ∈ wsX0_rankOf := by decide +kernel
  have hl : lv_has ls 5 [(0, .ref (ad 8)), (1, .long 0), (3, .int 1), (4, .int 0)] := hl
  refine lv_iload_n hx hb dX0_rankOf_0 rfl (lv_at hl 2 rfl) ?_
  refine lv_iconst (v := 1) hx hb dX0_rankOf_1 (by decide) ?_
  refine lv_icmp_lt (tgt := 10) hx hb dX0_rankOf_2 (by decide) (fun c_1 => absurd c_1 (by decide)) (fun c_1 => ?_)
  refine lv_iload_n hx hb dX0_rankOf_5 rfl (lv_at hl 2 rfl) ?_
  refine lv_iconst (v := 5) hx hb dX0_rankOf_6 (by decide) ?_
  refine lv_icmp_lt (tgt := 12) hx hb dX0_rankOf_7 (by decide) (fun c_2 => ?_) (fun c_2 => absurd c_2 (by decide))
  refine lv_aload_n hx hb dX0_rankOf_12 rfl (lv_at hl 0 rfl) ?_
  refine lv_lload_n hx hb dX0_rankOf_13 rfl (lv_at hl 1 rfl) ?_
  refine lv_aload_n hx hb dX0_rankOf_14 rfl (lv_at hl 0 rfl) ?_
  refine x_get (ci := 0) (C := RX0) (T := TX0) (N := 4) (v := .ref (ad 3)) B h hin0 8 0 rfl rfl (by decide) (by decide +kernel) rfl dX0_rankOf_15 ?_
  refine x_get (ci := 9) (C := RX9) (T := TX9) (N := 7) (v := .ref (ad 19)) B h hin9 3 6 rfl rfl (by decide) (by decide +kernel) rfl dX0_rankOf_18 ?_
  refine lv_iload_n hx hb dX0_rankOf_21 rfl (lv_at hl 2 rfl) ?_
  refine va_lald hx hb B.2.1 h.1 19 1 rfl rfl (vp_in_iff.mpr (by decide)) dX0_rankOf_22 ?_
  refine lv_topl (fun v_3 ev_3 => ?_)
  obtain rfl : v_3 = 0 := ev_3
  refine lv_land hx hb dX0_rankOf_23 ?_
  refine lv_topl (fun v_4 ev_4 => ?_)
  obtain rfl : v_4 = 0 := ev_4.trans (by decide)
  refine lv_lload_n hx hb dX0_rankOf_24 rfl (lv_at hl 1 rfl) ?_
  refine lv_aload_n hx hb dX0_rankOf_25 rfl (lv_at hl 0 rfl) ?_
  refine x_get (ci := 0) (C := RX0) (T := TX0) (N := 4) (v := .ref (ad 3)) B h hin0 8 0 rfl rfl (by decide) (by decide +kernel) rfl dX0_rankOf_26 ?_
  refine x_get (ci := 9) (C := RX9) (T := TX9) (N := 7) (v := .ref (ad 19)) B h hin9 3 6 rfl rfl (by decide) (by decide +kernel) rfl dX0_rankOf_29 ?_
  refine lv_iload_n hx hb dX0_rankOf_32 rfl (lv_at hl 2 rfl) ?_
  refine lv_iconst (v := 1) hx hb dX0_rankOf_33 (by decide) ?_
  refine lv_isub hx hb dX0_rankOf_34 ?_
  refine lv_topi (fun v_5 ev_5 => ?_)
  obtain rfl : v_5 = 0 := ev_5.trans (by decide)
  refine va_lald hx hb B.2.1 h.1 19 1 rfl rfl (vp_in_iff.mpr (by decide)) dX0_rankOf_35 ?_
  refine lv_topl (fun v_6 ev_6 => ?_)
  obtain rfl : v_6 = 0 := ev_6
  refine lv_land hx hb dX0_rankOf_36 ?_
  refine lv_topl (fun v_7 ev_7 => ?_)
  obtain rfl : v_7 = 0 := ev_7.trans (by decide)
  refine lv_iload hx hb dX0_rankOf_37 (lv_at hl 3 rfl) ?_
  refine x_cVVF (n := 3) (As := [.long 0, .long 0, .int 0]) (rest := []) B h (k90_X0_fill l D cI cJ cB cZ ad bd) ⟨⟨_, rfl⟩, by decide +kernel, Nat.le_of_ble_eq_true rfl, Nat.le_of_ble_eq_true rfl⟩ gX0_rankOf_X0_fill (show ((WX cI cJ cB cZ ad) : va_W)[8]? = some (_, .inr (0, _)) from rfl) rfl rfl hl.1 rfl (Nat.le_of_ble_eq_true rfl) dX0_rankOf_39 ⟨Nat.le_of_ble_eq_true rfl, Nat.le_of_ble_eq_true rfl⟩ (fun u_8 H locs hp_8 h => ?_)
  have h : Hp D A s.heap (WX cI cJ cB cZ ad) H locs := h
  refine lv_aload_n hx hb dX0_rankOf_42 rfl (lv_at hl 0 rfl) ?_
  refine x_get (ci := 0) (C := RX0) (T := TX0) (N := 4) (v := .ref (ad 11)) B h hin0 8 2 rfl rfl (by decide) (by decide +kernel) rfl dX0_rankOf_43 ?_
  refine x_cVIF (n := 0) (As := []) (rest := []) B h (k91_X5_eliminate l D cI cJ cB cZ ad bd) ⟨⟨_, rfl⟩, by decide +kernel, Nat.le_of_ble_eq_true rfl, Nat.le_of_ble_eq_true rfl⟩ gX0_rankOf_X5_eliminate (show ((WX cI cJ cB cZ ad) : va_W)[11]? = some (_, .inr (5, _)) from rfl) rfl rfl hl.1 rfl (Nat.le_of_ble_eq_true rfl) dX0_rankOf_46 ⟨Nat.le_of_ble_eq_true rfl, Nat.le_of_ble_eq_true rfl⟩ (fun r_9 u_9 H locs hp_9 h => ?_)
  obtain rfl := hp_9
  have h : Hp D A s.heap (WX cI cJ cB cZ ad (Matrix_minor := 1)) H locs := h
  exact x_iret (w1 := (fun _ => (WX cI cJ cB cZ ad (Matrix_minor := 1)))) () B h hr rfl rfl dX0_rankOf_49
set_option maxHeartbeats 4000000 in
set_option maxRecDepth 100000 in
theorem k93_X0_bettiOf (l : Launch) (D : va_G) (cI cJ cB cZ : ClassId) (ad bd : Nat → Nat) : MetI l yX0_bettiOf wsX0_bettiOf 3 113 0 0 D (TYS cI cJ cB cZ) (WX cI cJ cB cZ ad) [.ref (ad 8), .long 0, .int 0, .int 0] (fun (r : Int32) (_ : Unit) => r = 0) (fun _ => (WX cI cJ cB cZ ad (Matrix_minor := 1))) := by
  refine x_startI (ty := .int) (cc := cX0_bettiOf) (by decide) rfl (Nat.le_of_ble_eq_true rfl) ?_
  intro p e s m args below meth c A ls B hr hnm h hl
  have hx := B.1.1
  have hb := B.1.2.1
  have hml := B.1.2.2.1
  have hts := B.1.2.2.2.2
  have hown : s.vm.findClass RX0 = some m.cls := B.1.2.2.2.1
  have hin0 : ∀ w ∈ u_ws RX0 TX0 4, w ∈ wsX0_bettiOf := by decide +kernel
  have hin9 : ∀ w ∈ u_ws RX9 TX9 7, w ∈ wsX0_bettiOf := by decide +kernel
  have hl : lv_has ls 6 [(0, .ref (ad 8)), (1, .long 0), (3, .int 0), (4, .int 0)] := hl
  refine lv_lload_n hx hb dX0_bettiOf_0 rfl (lv_at hl 1 rfl) ?_
  refine lv_aload_n hx hb dX0_bettiOf_1 rfl (lv_at hl 0 rfl) ?_
  refine x_get (ci := 0) (C := RX0) (T := TX0) (N := 4) (v := .ref (ad 3)) B h hin0 8 0 rfl rfl (by decide) (by decide +kernel) rfl dX0_bettiOf_2 ?_
  refine x_get (ci := 9) (C := RX9) (T := TX9) (N := 7) (v := .ref (ad 19)) B h hin9 3 6 rfl rfl (by decide) (by decide +kernel) rfl dX0_bettiOf_5 ?_
  refine lv_iload_n hx hb dX0_bettiOf_8 rfl (lv_at hl 2 rfl) ?_
  refine va_lald hx hb B.2.1 h.1 19 1 rfl rfl (vp_in_iff.mpr (by decide)) dX0_bettiOf_9 ?_
  refine lv_topl (fun v_1 ev_1 => ?_)
  obtain rfl : v_1 = 0 := ev_1
  refine lv_land hx hb dX0_bettiOf_10 ?_
  refine lv_topl (fun v_2 ev_2 => ?_)
  obtain rfl : v_2 = 0 := ev_2.trans (by decide)
  refine x_cSIE (n := 1) (As := [.long 0]) (rest := []) B h (k65_J13_bitCount_95d88 l D cI cJ cB cZ ad bd) ⟨⟨_, rfl⟩, by decide +kernel, Nat.le_of_ble_eq_true rfl, Nat.le_of_ble_eq_true rfl⟩ gX0_bettiOf_J13_bitCount_95d88 rfl hl.1 rfl (Nat.le_of_ble_eq_true rfl) dX0_bettiOf_11 ⟨Nat.le_of_ble_eq_true rfl, Nat.le_of_ble_eq_true rfl⟩ (fun r_3 u_3 H locs hp_3 h => ?_)
  obtain rfl := hp_3
  have h : Hp D A s.heap (WX cI cJ cB cZ ad) H locs := h
  refine lv_istore (lv' := [(5, .int 0), (0, .ref (ad 8)), (1, .long 0), (3, .int 0), (4, .int 0)]) hx hb dX0_bettiOf_14 hl (by decide) rfl (fun ls hl => ?_)
  refine lv_iload hx hb dX0_bettiOf_16 (lv_at hl 0 rfl) ?_
  refine lv_aload_n hx hb dX0_bettiOf_18 rfl (lv_at hl 1 rfl) ?_
  refine lv_lload_n hx hb dX0_bettiOf_19 rfl (lv_at hl 2 rfl) ?_
  refine lv_iload_n hx hb dX0_bettiOf_20 rfl (lv_at hl 3 rfl) ?_
  refine lv_iload hx hb dX0_bettiOf_21 (lv_at hl 4 rfl) ?_
  refine x_cVIF (n := 3) (As := [.long 0, .int 0, .int 0]) (rest := [.int 0]) B h (k88_X0_rankOf l D cI cJ cB cZ ad bd) ⟨⟨_, rfl⟩, by decide +kernel, Nat.le_of_ble_eq_true rfl, Nat.le_of_ble_eq_true rfl⟩ gX0_bettiOf_X0_rankOf (show ((WX cI cJ cB cZ ad) : va_W)[8]? = some (_, .inr (0, _)) from rfl) rfl rfl hl.1 rfl (Nat.le_of_ble_eq_true rfl) dX0_bettiOf_23 ⟨Nat.le_of_ble_eq_true rfl, Nat.le_of_ble_eq_true rfl⟩ (fun r_4 u_4 H locs hp_4 h => ?_)
  obtain rfl := hp_4
  have h : Hp D A s.heap (WX cI cJ cB cZ ad) H locs := h
  refine lv_isub hx hb dX0_bettiOf_26 ?_
  refine lv_topi (fun v_5 ev_5 => ?_)
  obtain rfl : v_5 = 0 := ev_5.trans (by decide)
  refine lv_aload_n hx hb dX0_bettiOf_27 rfl (lv_at hl 1 rfl) ?_
  refine lv_lload_n hx hb dX0_bettiOf_28 rfl (lv_at hl 2 rfl) ?_
  refine lv_iload_n hx hb dX0_bettiOf_29 rfl (lv_at hl 3 rfl) ?_
  refine lv_iconst (v := 1) hx hb dX0_bettiOf_30 (by decide) ?_
  refine lv_iadd hx hb dX0_bettiOf_31 ?_
  refine lv_topi (fun v_6 ev_6 => ?_)
  obtain rfl : v_6 = 1 := ev_6.trans (by decide)
  refine lv_iload hx hb dX0_bettiOf_32 (lv_at hl 4 rfl) ?_
  refine x_cVIF (n := 3) (As := [.long 0, .int 1, .int 0]) (rest := [.int 0]) B h (k92_X0_rankOf l D cI cJ cB cZ ad bd) ⟨⟨_, rfl⟩, by decide +kernel, Nat.le_of_ble_eq_true rfl, Nat.le_of_ble_eq_true rfl⟩ gX0_bettiOf_X0_rankOf (show ((WX cI cJ cB cZ ad) : va_W)[8]? = some (_, .inr (0, _)) from rfl) rfl rfl hl.1 rfl (Nat.le_of_ble_eq_true rfl) dX0_bettiOf_34 ⟨Nat.le_of_ble_eq_true rfl, Nat.le_of_ble_eq_true rfl⟩ (fun r_7 u_7 H locs hp_7 h => ?_)
  obtain rfl := hp_7
  have h : Hp D A s.heap (WX cI cJ cB cZ ad (Matrix_minor := 1)) H locs := h
  refine lv_isub hx hb dX0_bettiOf_37 ?_
  refine lv_topi (fun v_8 ev_8 => ?_)
  obtain rfl : v_8 = 0 := ev_8.trans (by decide)
  exact x_iret (w1 := (fun _ => (WX cI cJ cB cZ ad (Matrix_minor := 1)))) () B h hr rfl rfl dX0_bettiOf_38
set_option maxHeartbeats 4000000 in
set_option maxRecDepth 100000 in
theorem k94_X5_resize (l : Launch) (D : va_G) (cI cJ cB cZ : ClassId) (ad bd : Nat → Nat) : MetV l yX5_resize wsX5_resize 0 0 0 0 D (TYS cI cJ cB cZ) (WX cI cJ cB cZ ad (Matrix_minor := 1)) [.ref (ad 11), .int 0, .int 0] (fun _ : Unit => True) (fun _ => (WX cI cJ cB cZ ad (Matrix_minor := 1))) := by
  refine x_startV (ty := .int) (cc := cX5_resize) (by decide) rfl (Nat.le_of_ble_eq_true rfl) ?_
  intro p e s m args below meth c A ls B hr hnm h hl
  have hx := B.1.1
  have hb := B.1.2.1
  have hml := B.1.2.2.1
  have hts := B.1.2.2.2.2
  have hown : s.vm.findClass RX5 = some m.cls := B.1.2.2.2.1
  have hin5 : ∀ w ∈ u_ws RX5 TX5 6, w ∈ wsX5_resize := by decide +kernel
  have hl : lv_has ls 4 [(0, .ref (ad 11)), (1, .int 0), (2, .int 0)] := hl
  refine lv_iload_n hx hb dX5_resize_0 rfl (lv_at hl 1 rfl) ?_
  refine lv_if_lt (tgt := 33) hx hb dX5_resize_1 (by decide) (fun c_1 => absurd c_1 (by decide)) (fun c_1 => ?_)
  refine lv_iload_n hx hb dX5_resize_4 rfl (lv_at hl 2 rfl) ?_
  refine lv_if_lt (tgt := 33) hx hb dX5_resize_5 (by decide) (fun c_2 => absurd c_2 (by decide)) (fun c_2 => ?_)
  refine lv_iload_n hx hb dX5_resize_8 rfl (lv_at hl 1 rfl) ?_
  refine lv_bipush (v := 64) hx hb dX5_resize_9 (by decide) ?_
  refine lv_icmp_ge (tgt := 33) hx hb dX5_resize_11 (by decide) (fun c_3 => absurd c_3 (by decide)) (fun c_3 => ?_)
  refine lv_iload_n hx hb dX5_resize_14 rfl (lv_at hl 2 rfl) ?_
  refine lv_bipush (v := 64) hx hb dX5_resize_15 (by decide) ?_
  refine lv_icmp_ge (tgt := 33) hx hb dX5_resize_17 (by decide) (fun c_4 => absurd c_4 (by decide)) (fun c_4 => ?_)
  refine lv_iload_n hx hb dX5_resize_20 rfl (lv_at hl 1 rfl) ?_
  refine lv_iload_n hx hb dX5_resize_21 rfl (lv_at hl 2 rfl) ?_
  refine lv_imul hx hb dX5_resize_22 ?_
  refine lv_topi (fun v_5 ev_5 => ?_)
  obtain rfl : v_5 = 0 := ev_5.trans (by decide)
  refine lv_sipush (v := 900) hx hb dX5_resize_23 (by decide) ?_
  refine lv_icmp_gt (tgt := 33) hx hb dX5_resize_26 (by decide) (fun c_6 => absurd c_6 (by decide)) (fun c_6 => ?_)
  refine lv_iconst (v := 1) hx hb dX5_resize_29 (by decide) ?_
  refine lv_goto (tgt := 34) hx hb dX5_resize_30 (by decide) ?_
  refine lv_istore_n (lv' := [(3, .int 1), (0, .ref (ad 11)), (1, .int 0), (2, .int 0)]) hx hb dX5_resize_34 rfl hl (by decide) rfl (fun ls hl => ?_)
  refine lv_aload_n hx hb dX5_resize_35 rfl (lv_at hl 1 rfl) ?_
  refine lv_iload_n hx hb dX5_resize_36 rfl (lv_at hl 0 rfl) ?_
  refine lv_if_eq (tgt := 44) hx hb dX5_resize_37 (by decide) (fun c_7 => absurd c_7 (by decide)) (fun c_7 => ?_)
  refine lv_iload_n hx hb dX5_resize_40 rfl (lv_at hl 2 rfl) ?_
  refine lv_goto (tgt := 45) hx hb dX5_resize_41 (by decide) ?_
  refine x_put (ci := 5) (C := RX5) (T := TX5) (N := 6) (v := .int 0) (ty := .int) B h hin5 tyX5 tyX5_ok nmX5 11 3 rfl rfl (by decide) (by decide +kernel) rfl rfl rfl rfl (Nat.le_of_ble_eq_true rfl) dX5_resize_45 (fun H locs h => ?_)
  have h : Hp D A s.heap (WX cI cJ cB cZ ad (Matrix_minor := 1)) H locs := h
  refine lv_aload_n hx hb dX5_resize_48 rfl (lv_at hl 1 rfl) ?_
  refine lv_iload_n hx hb dX5_resize_49 rfl (lv_at hl 0 rfl) ?_
  refine lv_if_eq (tgt := 57) hx hb dX5_resize_50 (by decide) (fun c_8 => absurd c_8 (by decide)) (fun c_8 => ?_)
  refine lv_iload_n hx hb dX5_resize_53 rfl (lv_at hl 3 rfl) ?_
  refine lv_goto (tgt := 58) hx hb dX5_resize_54 (by decide) ?_
  refine x_put (ci := 5) (C := RX5) (T := TX5) (N := 6) (v := .int 0) (ty := .int) B h hin5 tyX5 tyX5_ok nmX5 11 4 rfl rfl (by decide) (by decide +kernel) rfl rfl rfl rfl (Nat.le_of_ble_eq_true rfl) dX5_resize_58 (fun H locs h => ?_)
  have h : Hp D A s.heap (WX cI cJ cB cZ ad (Matrix_minor := 1)) H locs := h
  exact x_vret (w1 := (fun _ => (WX cI cJ cB cZ ad (Matrix_minor := 1)))) () B h hr trivial dX5_resize_61
set_option maxHeartbeats 4000000 in
set_option maxRecDepth 100000 in
theorem k95_X0_fill (l : Launch) (D : va_G) (cI cJ cB cZ : ClassId) (ad bd : Nat → Nat) : MetV l yX0_fill wsX0_fill 1 23 0 0 D (TYS cI cJ cB cZ) (WX cI cJ cB cZ ad (Matrix_minor := 1)) [.ref (ad 8), .long 0, .long 0, .int 0] (fun _ : Unit => True) (fun _ => (WX cI cJ cB cZ ad (Matrix_minor := 1))) := by
  refine x_startV (ty := .int) (cc := cX0_fill) (by decide) rfl (Nat.le_of_ble_eq_true rfl) ?_
  intro p e s m args below meth c A ls B hr hnm h hl
  have hx := B.1.1
  have hb := B.1.2.1
  have hml := B.1.2.2.1
  have hts := B.1.2.2.2.2
  have hown : s.vm.findClass RX0 = some m.cls := B.1.2.2.2.1
  have hin0 : ∀ w ∈ u_ws RX0 TX0 4, w ∈ wsX0_fill := by decide +kernel
  have hin9 : ∀ w ∈ u_ws RX9 TX9 7, w ∈ wsX0_fill := by decide +kernel
  have hl : lv_has ls 8 [(0, .ref (ad 8)), (1, .long 0), (3, .long 0), (5, .int 0)] := hl
  refine lv_aload_n hx hb dX0_fill_0 rfl (lv_at hl 0 rfl) ?_
  refine x_get (ci := 0) (C := RX0) (T := TX0) (N := 4) (v := .ref (ad 11)) B h hin0 8 2 rfl rfl (by decide) (by decide +kernel) rfl dX0_fill_1 ?_
  refine lv_lload_n hx hb dX0_fill_4 rfl (lv_at hl 1 rfl) ?_
  refine x_cSIE (n := 1) (As := [.long 0]) (rest := [.ref (ad 11)]) B h (k65_J13_bitCount_95d88 l D cI cJ cB cZ ad bd) ⟨⟨_, rfl⟩, by decide +kernel, Nat.le_of_ble_eq_true rfl, Nat.le_of_ble_eq_true rfl⟩ gX0_fill_J13_bitCount_95d88 rfl hl.1 rfl (Nat.le_of_ble_eq_true rfl) dX0_fill_5 ⟨Nat.le_of_ble_eq_true rfl, Nat.le_of_ble_eq_true rfl⟩ (fun r_1 u_1 H locs hp_1 h => ?_)
  obtain rfl := hp_1
  have h : Hp D A s.heap (WX cI cJ cB cZ ad (Matrix_minor := 1)) H locs := h
  refine lv_lload_n hx hb dX0_fill_8 rfl (lv_at hl 2 rfl) ?_
  refine x_cSIE (n := 1) (As := [.long 0]) (rest := [.int 0, .ref (ad 11)]) B h (k65_J13_bitCount_95d88 l D cI cJ cB cZ ad bd) ⟨⟨_, rfl⟩, by decide +kernel, Nat.le_of_ble_eq_true rfl, Nat.le_of_ble_eq_true rfl⟩ gX0_fill_J13_bitCount_95d88 rfl hl.1 rfl (Nat.le_of_ble_eq_true rfl) dX0_fill_9 ⟨Nat.le_of_ble_eq_true rfl, Nat.le_of_ble_eq_true rfl⟩ (fun r_2 u_2 H locs hp_2 h => ?_)
  obtain rfl := hp_2
  have h : Hp D A s.heap (WX cI cJ cB cZ ad (Matrix_minor := 1)) H locs := h
  refine x_cVVF (n := 2) (As := [.int 0, .int 0]) (rest := []) B h (k94_X5_resize l D cI cJ cB cZ ad bd) ⟨⟨_, rfl⟩, by decide +kernel, Nat.le_of_ble_eq_true rfl, Nat.le_of_ble_eq_true rfl⟩ gX0_fill_X5_resize (show ((WX cI cJ cB cZ ad (Matrix_minor := 1)) : va_W)[11]? = some (_, .inr (5, _)) from rfl) rfl rfl hl.1 rfl (Nat.le_of_ble_eq_true rfl) dX0_fill_12 ⟨Nat.le_of_ble_eq_true rfl, Nat.le_of_ble_eq_true rfl⟩ (fun u_3 H locs hp_3 h => ?_)
  have h : Hp D A s.heap (WX cI cJ cB cZ ad (Matrix_minor := 1)) H locs := h
  refine lv_iconst (v := 0) hx hb dX0_fill_15 (by decide) ?_
  refine lv_istore (lv' := [(6, .int 0), (0, .ref (ad 8)), (1, .long 0), (3, .long 0), (5, .int 0)]) hx hb dX0_fill_16 hl (by decide) rfl (fun ls hl => ?_)
  refine lv_iconst (v := 0) hx hb dX0_fill_18 (by decide) ?_
  refine lv_istore (lv' := [(7, .int 0), (6, .int 0), (0, .ref (ad 8)), (1, .long 0), (3, .long 0), (5, .int 0)]) hx hb dX0_fill_19 hl (by decide) rfl (fun ls hl => ?_)
  refine lv_iload hx hb dX0_fill_21 (lv_at hl 0 rfl) ?_
  refine lv_aload_n hx hb dX0_fill_23 rfl (lv_at hl 2 rfl) ?_
  refine x_get (ci := 0) (C := RX0) (T := TX0) (N := 4) (v := .ref (ad 3)) B h hin0 8 0 rfl rfl (by decide) (by decide +kernel) rfl dX0_fill_24 ?_
  refine x_get (ci := 9) (C := RX9) (T := TX9) (N := 7) (v := .int 0) B h hin9 3 0 rfl rfl (by decide) (by decide +kernel) rfl dX0_fill_27 ?_
  refine lv_icmp_ge (tgt := 94) hx hb dX0_fill_30 (by decide) (fun c_4 => ?_) (fun c_4 => absurd c_4 (by decide))
  exact x_vret (w1 := (fun _ => (WX cI cJ cB cZ ad (Matrix_minor := 1)))) () B h hr trivial dX0_fill_94
set_option maxHeartbeats 4000000 in
set_option maxRecDepth 100000 in
theorem k96_X5_eliminate (l : Launch) (D : va_G) (cI cJ cB cZ : ClassId) (ad bd : Nat → Nat) : MetI l yX5_eliminate wsX5_eliminate 1 64 0 0 D (TYS cI cJ cB cZ) (WX cI cJ cB cZ ad (Matrix_minor := 1)) [.ref (ad 11)] (fun (r : Int32) (_ : Unit) => r = 0) (fun _ => (WX cI cJ cB cZ ad (Matrix_minor := 1))) := by
  refine x_startI (ty := .int) (cc := cX5_eliminate) (by decide) rfl (Nat.le_of_ble_eq_true rfl) ?_
  intro p e s m args below meth c A ls B hr hnm h hl
  have hx := B.1.1
  have hb := B.1.2.1
  have hml := B.1.2.2.1
  have hts := B.1.2.2.2.2
  have hown : s.vm.findClass RX5 = some m.cls := B.1.2.2.2.1
  have hin5 : ∀ w ∈ u_ws RX5 TX5 6, w ∈ wsX5_eliminate := by decide +kernel
  have hl : lv_has ls 6 [(0, .ref (ad 11))] := hl
  refine lv_aload_n hx hb dX5_eliminate_0 rfl (lv_at hl 0 rfl) ?_
  refine x_get (ci := 5) (C := RX5) (T := TX5) (N := 6) (v := .ref (ad 30)) B h hin5 11 0 rfl rfl (by decide) (by decide +kernel) rfl dX5_eliminate_1 ?_
  refine lv_iconst (v := 0) hx hb dX5_eliminate_4 (by decide) ?_
  refine lv_aload_n hx hb dX5_eliminate_5 rfl (lv_at hl 0 rfl) ?_
  refine x_get (ci := 5) (C := RX5) (T := TX5) (N := 6) (v := .ref (ad 31)) B h hin5 11 1 rfl rfl (by decide) (by decide +kernel) rfl dX5_eliminate_6 ?_
  refine lv_iconst (v := 0) hx hb dX5_eliminate_9 (by decide) ?_
  refine lv_aload_n hx hb dX5_eliminate_10 rfl (lv_at hl 0 rfl) ?_
  refine x_get (ci := 5) (C := RX5) (T := TX5) (N := 6) (v := .int 0) B h hin5 11 3 rfl rfl (by decide) (by decide +kernel) rfl dX5_eliminate_11 ?_
  refine lv_aload_n hx hb dX5_eliminate_14 rfl (lv_at hl 0 rfl) ?_
  refine x_get (ci := 5) (C := RX5) (T := TX5) (N := 6) (v := .int 0) B h hin5 11 4 rfl rfl (by decide) (by decide +kernel) rfl dX5_eliminate_15 ?_
  refine lv_imul hx hb dX5_eliminate_18 ?_
  refine lv_topi (fun v_1 ev_1 => ?_)
  obtain rfl : v_1 = 0 := ev_1.trans (by decide)
  refine va_copyl hx hb (hml.trans hl.1.symm) hown (hts (.methodLink RX5 28 arraycopyName) (by decide +kernel)) (hts (.native arraycopyName) (by decide +kernel)) (hts (.static arraycopyName) (by decide +kernel)) (hts (.initialized "java/lang/System") (by decide +kernel)) B.2.1 h.1 h.2.1 h.2.2.1 30 31 1 1 rfl rfl rfl rfl rfl (by decide) (by decide) (by decide) (by decide) (by decide) (fun i hi => absurd hi (Nat.not_lt_zero _)) (Nat.le_of_ble_eq_true rfl) (by decide) dX5_eliminate_19 (fun H locs hP hD hS => ?_)
  rw [cpy_zero] at hP hD
  have h : Hp D A s.heap (WX cI cJ cB cZ ad (Matrix_minor := 1)) H locs := ⟨hP, hD, hS, h.2.2.2⟩
  refine lv_iconst (v := 0) hx hb dX5_eliminate_22 (by decide) ?_
  refine lv_istore_n (lv' := [(1, .int 0), (0, .ref (ad 11))]) hx hb dX5_eliminate_23 rfl hl (by decide) rfl (fun ls hl => ?_)
  refine lv_lconst (v := 1) hx hb dX5_eliminate_24 (by decide) ?_
  refine lv_lstore_n (lv' := [(2, .long 1), (1, .int 0), (0, .ref (ad 11))]) hx hb dX5_eliminate_25 rfl hl (by decide) rfl (fun ls hl => ?_)
  refine lv_iconst (v := 0) hx hb dX5_eliminate_26 (by decide) ?_
  refine lv_istore (lv' := [(4, .int 0), (2, .long 1), (1, .int 0), (0, .ref (ad 11))]) hx hb dX5_eliminate_27 hl (by decide) rfl (fun ls hl => ?_)
  refine lv_iload hx hb dX5_eliminate_29 (lv_at hl 0 rfl) ?_
  refine lv_aload_n hx hb dX5_eliminate_31 rfl (lv_at hl 3 rfl) ?_
  refine x_get (ci := 5) (C := RX5) (T := TX5) (N := 6) (v := .int 0) B h hin5 11 4 rfl rfl (by decide) (by decide +kernel) rfl dX5_eliminate_32 ?_
  refine lv_icmp_ge (tgt := 111) hx hb dX5_eliminate_35 (by decide) (fun c_3 => ?_) (fun c_3 => absurd c_3 (by decide))
  refine lv_aload_n hx hb dX5_eliminate_111 rfl (lv_at hl 3 rfl) ?_
  refine lv_lload_n hx hb dX5_eliminate_112 rfl (lv_at hl 1 rfl) ?_
  refine x_put (ci := 5) (C := RX5) (T := TX5) (N := 6) (v := .long 1) (ty := .long) B h hin5 tyX5 tyX5_ok nmX5 11 5 rfl rfl (by decide) (by decide +kernel) rfl rfl rfl rfl (Nat.le_of_ble_eq_true rfl) dX5_eliminate_113 (fun H locs h => ?_)
  have h : Hp D A s.heap (WX cI cJ cB cZ ad (Matrix_minor := 1)) H locs := h
  refine lv_iload_n hx hb dX5_eliminate_116 rfl (lv_at hl 2 rfl) ?_
  exact x_iret (w1 := (fun _ => (WX cI cJ cB cZ ad (Matrix_minor := 1)))) () B h hr rfl rfl dX5_eliminate_117
set_option maxHeartbeats 4000000 in
set_option maxRecDepth 100000 in
theorem k97_X0_rankOf (l : Launch) (D : va_G) (cI cJ cB cZ : ClassId) (ad bd : Nat → Nat) : MetI l yX0_rankOf wsX0_rankOf 2 89 0 0 D (TYS cI cJ cB cZ) (WX cI cJ cB cZ ad (Matrix_minor := 1)) [.ref (ad 8), .long 0, .int 2, .int 0] (fun (r : Int32) (_ : Unit) => r = 0) (fun _ => (WX cI cJ cB cZ ad (Matrix_minor := 1))) := by
  refine x_startI (ty := .int) (cc := cX0_rankOf) (by decide) rfl (Nat.le_of_ble_eq_true rfl) ?_
  intro p e s m args below meth c A ls B hr hnm h hl
  have hx := B.1.1
  have hb := B.1.2.1
  have hml := B.1.2.2.1
  have hts := B.1.2.2.2.2
  have hown : s.vm.findClass RX0 = some m.cls := B.1.2.2.2.1
  have hin0 : ∀ w ∈ u_ws RX0 TX0 4, w ∈ wsX0_rankOf := by decide +kernel
  have hin9 : ∀ w ∈ u_ws RX9 TX9 7, w ∈ wsX0_rankOf := by decide +kernel
  have hl : lv_has ls 5 [(0, .ref (ad 8)), (1, .long 0), (3, .int 2), (4, .int 0)] := hl
  refine lv_iload_n hx hb dX0_rankOf_0 rfl (lv_at hl 2 rfl) ?_
  refine lv_iconst (v := 1) hx hb dX0_rankOf_1 (by decide) ?_
  refine lv_icmp_lt (tgt := 10) hx hb dX0_rankOf_2 (by decide) (fun c_1 => absurd c_1 (by decide)) (fun c_1 => ?_)
  refine lv_iload_n hx hb dX0_rankOf_5 rfl (lv_at hl 2 rfl) ?_
  refine lv_iconst (v := 5) hx hb dX0_rankOf_6 (by decide) ?_
  refine lv_icmp_lt (tgt := 12) hx hb dX0_rankOf_7 (by decide) (fun c_2 => ?_) (fun c_2 => absurd c_2 (by decide))
  refine lv_aload_n hx hb dX0_rankOf_12 rfl (lv_at hl 0 rfl) ?_
  refine lv_lload_n hx hb dX0_rankOf_13 rfl (lv_at hl 1 rfl) ?_
  refine lv_aload_n hx hb dX0_rankOf_14 rfl (lv_at hl 0 rfl) ?_
  refine x_get (ci := 0) (C := RX0) (T := TX0) (N := 4) (v := .ref (ad 3)) B h hin0 8 0 rfl rfl (by decide) (by decide +kernel) rfl dX0_rankOf_15 ?_
  refine x_get (ci := 9) (C := RX9) (T := TX9) (N := 7) (v := .ref (ad 19)) B h hin9 3 6 rfl rfl (by decide) (by decide +kernel) rfl dX0_rankOf_18 ?_
  refine lv_iload_n hx hb dX0_rankOf_21 rfl (lv_at hl 2 rfl) ?_
  refine va_lald hx hb B.2.1 h.1 19 1 rfl rfl (vp_in_iff.mpr (by decide)) dX0_rankOf_22 ?_
  refine lv_topl (fun v_3 ev_3 => ?_)
  obtain rfl : v_3 = 0 := ev_3
  refine lv_land hx hb dX0_rankOf_23 ?_
  refine lv_topl (fun v_4 ev_4 => ?_)
  obtain rfl : v_4 = 0 := ev_4.trans (by decide)
  refine lv_lload_n hx hb dX0_rankOf_24 rfl (lv_at hl 1 rfl) ?_
  refine lv_aload_n hx hb dX0_rankOf_25 rfl (lv_at hl 0 rfl) ?_
  refine x_get (ci := 0) (C := RX0) (T := TX0) (N := 4) (v := .ref (ad 3)) B h hin0 8 0 rfl rfl (by decide) (by decide +kernel) rfl dX0_rankOf_26 ?_
  refine x_get (ci := 9) (C := RX9) (T := TX9) (N := 7) (v := .ref (ad 19)) B h hin9 3 6 rfl rfl (by decide) (by decide +kernel) rfl dX0_rankOf_29 ?_
  refine lv_iload_n hx hb dX0_rankOf_32 rfl (lv_at hl 2 rfl) ?_
  refine lv_iconst (v := 1) hx hb dX0_rankOf_33 (by decide) ?_
  refine lv_isub hx hb dX0_rankOf_34 ?_
  refine lv_topi (fun v_5 ev_5 => ?_)
  obtain rfl : v_5 = 1 := ev_5.trans (by decide)
  refine va_lald hx hb B.2.1 h.1 19 1 rfl rfl (vp_in_iff.mpr (by decide)) dX0_rankOf_35 ?_
  refine lv_topl (fun v_6 ev_6 => ?_)
  obtain rfl : v_6 = 0 := ev_6
  refine lv_land hx hb dX0_rankOf_36 ?_
  refine lv_topl (fun v_7 ev_7 => ?_)
  obtain rfl : v_7 = 0 := ev_7.trans (by decide)
  refine lv_iload hx hb dX0_rankOf_37 (lv_at hl 3 rfl) ?_
  refine x_cVVF (n := 3) (As := [.long 0, .long 0, .int 0]) (rest := []) B h (k95_X0_fill l D cI cJ cB cZ ad bd) ⟨⟨_, rfl⟩, by decide +kernel, Nat.le_of_ble_eq_true rfl, Nat.le_of_ble_eq_true rfl⟩ gX0_rankOf_X0_fill (show ((WX cI cJ cB cZ ad (Matrix_minor := 1)) : va_W)[8]? = some (_, .inr (0, _)) from rfl) rfl rfl hl.1 rfl (Nat.le_of_ble_eq_true rfl) dX0_rankOf_39 ⟨Nat.le_of_ble_eq_true rfl, Nat.le_of_ble_eq_true rfl⟩ (fun u_8 H locs hp_8 h => ?_)
  have h : Hp D A s.heap (WX cI cJ cB cZ ad (Matrix_minor := 1)) H locs := h
  refine lv_aload_n hx hb dX0_rankOf_42 rfl (lv_at hl 0 rfl) ?_
  refine x_get (ci := 0) (C := RX0) (T := TX0) (N := 4) (v := .ref (ad 11)) B h hin0 8 2 rfl rfl (by decide) (by decide +kernel) rfl dX0_rankOf_43 ?_
  refine x_cVIF (n := 0) (As := []) (rest := []) B h (k96_X5_eliminate l D cI cJ cB cZ ad bd) ⟨⟨_, rfl⟩, by decide +kernel, Nat.le_of_ble_eq_true rfl, Nat.le_of_ble_eq_true rfl⟩ gX0_rankOf_X5_eliminate (show ((WX cI cJ cB cZ ad (Matrix_minor := 1)) : va_W)[11]? = some (_, .inr (5, _)) from rfl) rfl rfl hl.1 rfl (Nat.le_of_ble_eq_true rfl) dX0_rankOf_46 ⟨Nat.le_of_ble_eq_true rfl, Nat.le_of_ble_eq_true rfl⟩ (fun r_9 u_9 H locs hp_9 h => ?_)
  obtain rfl := hp_9
  have h : Hp D A s.heap (WX cI cJ cB cZ ad (Matrix_minor := 1)) H locs := h
  exact x_iret (w1 := (fun _ => (WX cI cJ cB cZ ad (Matrix_minor := 1)))) () B h hr rfl rfl dX0_rankOf_49
set_option maxHeartbeats 4000000 in
set_option maxRecDepth 100000 in
theorem k98_X0_bettiOf (l : Launch) (D : va_G) (cI cJ cB cZ : ClassId) (ad bd : Nat → Nat) : MetI l yX0_bettiOf wsX0_bettiOf 3 113 0 0 D (TYS cI cJ cB cZ) (WX cI cJ cB cZ ad) [.ref (ad 8), .long 0, .int 1, .int 0] (fun (r : Int32) (_ : Unit) => r = 0) (fun _ => (WX cI cJ cB cZ ad (Matrix_minor := 1))) := by
  refine x_startI (ty := .int) (cc := cX0_bettiOf) (by decide) rfl (Nat.le_of_ble_eq_true rfl) ?_
  intro p e s m args below meth c A ls B hr hnm h hl
  have hx := B.1.1
  have hb := B.1.2.1
  have hml := B.1.2.2.1
  have hts := B.1.2.2.2.2
  have hown : s.vm.findClass RX0 = some m.cls := B.1.2.2.2.1
  have hin0 : ∀ w ∈ u_ws RX0 TX0 4, w ∈ wsX0_bettiOf := by decide +kernel
  have hin9 : ∀ w ∈ u_ws RX9 TX9 7, w ∈ wsX0_bettiOf := by decide +kernel
  have hl : lv_has ls 6 [(0, .ref (ad 8)), (1, .long 0), (3, .int 1), (4, .int 0)] := hl
  refine lv_lload_n hx hb dX0_bettiOf_0 rfl (lv_at hl 1 rfl) ?_
  refine lv_aload_n hx hb dX0_bettiOf_1 rfl (lv_at hl 0 rfl) ?_
  refine x_get (ci := 0) (C := RX0) (T := TX0) (N := 4) (v := .ref (ad 3)) B h hin0 8 0 rfl rfl (by decide) (by decide +kernel) rfl dX0_bettiOf_2 ?_
  refine x_get (ci := 9) (C := RX9) (T := TX9) (N := 7) (v := .ref (ad 19)) B h hin9 3 6 rfl rfl (by decide) (by decide +kernel) rfl dX0_bettiOf_5 ?_
  refine lv_iload_n hx hb dX0_bettiOf_8 rfl (lv_at hl 2 rfl) ?_
  refine va_lald hx hb B.2.1 h.1 19 1 rfl rfl (vp_in_iff.mpr (by decide)) dX0_bettiOf_9 ?_
  refine lv_topl (fun v_1 ev_1 => ?_)
  obtain rfl : v_1 = 0 := ev_1
  refine lv_land hx hb dX0_bettiOf_10 ?_
  refine lv_topl (fun v_2 ev_2 => ?_)
  obtain rfl : v_2 = 0 := ev_2.trans (by decide)
  refine x_cSIE (n := 1) (As := [.long 0]) (rest := []) B h (k65_J13_bitCount_95d88 l D cI cJ cB cZ ad bd) ⟨⟨_, rfl⟩, by decide +kernel, Nat.le_of_ble_eq_true rfl, Nat.le_of_ble_eq_true rfl⟩ gX0_bettiOf_J13_bitCount_95d88 rfl hl.1 rfl (Nat.le_of_ble_eq_true rfl) dX0_bettiOf_11 ⟨Nat.le_of_ble_eq_true rfl, Nat.le_of_ble_eq_true rfl⟩ (fun r_3 u_3 H locs hp_3 h => ?_)
  obtain rfl := hp_3
  have h : Hp D A s.heap (WX cI cJ cB cZ ad) H locs := h
  refine lv_istore (lv' := [(5, .int 0), (0, .ref (ad 8)), (1, .long 0), (3, .int 1), (4, .int 0)]) hx hb dX0_bettiOf_14 hl (by decide) rfl (fun ls hl => ?_)
  refine lv_iload hx hb dX0_bettiOf_16 (lv_at hl 0 rfl) ?_
  refine lv_aload_n hx hb dX0_bettiOf_18 rfl (lv_at hl 1 rfl) ?_
  refine lv_lload_n hx hb dX0_bettiOf_19 rfl (lv_at hl 2 rfl) ?_
  refine lv_iload_n hx hb dX0_bettiOf_20 rfl (lv_at hl 3 rfl) ?_
  refine lv_iload hx hb dX0_bettiOf_21 (lv_at hl 4 rfl) ?_
  refine x_cVIF (n := 3) (As := [.long 0, .int 1, .int 0]) (rest := [.int 0]) B h (k92_X0_rankOf l D cI cJ cB cZ ad bd) ⟨⟨_, rfl⟩, by decide +kernel, Nat.le_of_ble_eq_true rfl, Nat.le_of_ble_eq_true rfl⟩ gX0_bettiOf_X0_rankOf (show ((WX cI cJ cB cZ ad) : va_W)[8]? = some (_, .inr (0, _)) from rfl) rfl rfl hl.1 rfl (Nat.le_of_ble_eq_true rfl) dX0_bettiOf_23 ⟨Nat.le_of_ble_eq_true rfl, Nat.le_of_ble_eq_true rfl⟩ (fun r_4 u_4 H locs hp_4 h => ?_)
  obtain rfl := hp_4
  have h : Hp D A s.heap (WX cI cJ cB cZ ad (Matrix_minor := 1)) H locs := h
  refine lv_isub hx hb dX0_bettiOf_26 ?_
  refine lv_topi (fun v_5 ev_5 => ?_)
  obtain rfl : v_5 = 0 := ev_5.trans (by decide)
  refine lv_aload_n hx hb dX0_bettiOf_27 rfl (lv_at hl 1 rfl) ?_
  refine lv_lload_n hx hb dX0_bettiOf_28 rfl (lv_at hl 2 rfl) ?_
  refine lv_iload_n hx hb dX0_bettiOf_29 rfl (lv_at hl 3 rfl) ?_
  refine lv_iconst (v := 1) hx hb dX0_bettiOf_30 (by decide) ?_
  refine lv_iadd hx hb dX0_bettiOf_31 ?_
  refine lv_topi (fun v_6 ev_6 => ?_)
  obtain rfl : v_6 = 2 := ev_6.trans (by decide)
  refine lv_iload hx hb dX0_bettiOf_32 (lv_at hl 4 rfl) ?_
  refine x_cVIF (n := 3) (As := [.long 0, .int 2, .int 0]) (rest := [.int 0]) B h (k97_X0_rankOf l D cI cJ cB cZ ad bd) ⟨⟨_, rfl⟩, by decide +kernel, Nat.le_of_ble_eq_true rfl, Nat.le_of_ble_eq_true rfl⟩ gX0_bettiOf_X0_rankOf (show ((WX cI cJ cB cZ ad (Matrix_minor := 1)) : va_W)[8]? = some (_, .inr (0, _)) from rfl) rfl rfl hl.1 rfl (Nat.le_of_ble_eq_true rfl) dX0_bettiOf_34 ⟨Nat.le_of_ble_eq_true rfl, Nat.le_of_ble_eq_true rfl⟩ (fun r_7 u_7 H locs hp_7 h => ?_)
  obtain rfl := hp_7
  have h : Hp D A s.heap (WX cI cJ cB cZ ad (Matrix_minor := 1)) H locs := h
  refine lv_isub hx hb dX0_bettiOf_37 ?_
  refine lv_topi (fun v_8 ev_8 => ?_)
  obtain rfl : v_8 = 0 := ev_8.trans (by decide)
  exact x_iret (w1 := (fun _ => (WX cI cJ cB cZ ad (Matrix_minor := 1)))) () B h hr rfl rfl dX0_bettiOf_38
set_option maxHeartbeats 4000000 in
set_option maxRecDepth 100000 in
theorem k99_X0_rankOf (l : Launch) (D : va_G) (cI cJ cB cZ : ClassId) (ad bd : Nat → Nat) : MetI l yX0_rankOf wsX0_rankOf 2 89 0 0 D (TYS cI cJ cB cZ) (WX cI cJ cB cZ ad) [.ref (ad 8), .long 0, .int 2, .int 0] (fun (r : Int32) (_ : Unit) => r = 0) (fun _ => (WX cI cJ cB cZ ad (Matrix_minor := 1))) := by
  refine x_startI (ty := .int) (cc := cX0_rankOf) (by decide) rfl (Nat.le_of_ble_eq_true rfl) ?_
  intro p e s m args below meth c A ls B hr hnm h hl
  have hx := B.1.1
  have hb := B.1.2.1
  have hml := B.1.2.2.1
  have hts := B.1.2.2.2.2
  have hown : s.vm.findClass RX0 = some m.cls := B.1.2.2.2.1
  have hin0 : ∀ w ∈ u_ws RX0 TX0 4, w ∈ wsX0_rankOf := by decide +kernel
  have hin9 : ∀ w ∈ u_ws RX9 TX9 7, w ∈ wsX0_rankOf := by decide +kernel
  have hl : lv_has ls 5 [(0, .ref (ad 8)), (1, .long 0), (3, .int 2), (4, .int 0)] := hl
  refine lv_iload_n hx hb dX0_rankOf_0 rfl (lv_at hl 2 rfl) ?_
  refine lv_iconst (v := 1) hx hb dX0_rankOf_1 (by decide) ?_
  refine lv_icmp_lt (tgt := 10) hx hb dX0_rankOf_2 (by decide) (fun c_1 => absurd c_1 (by decide)) (fun c_1 => ?_)
  refine lv_iload_n hx hb dX0_rankOf_5 rfl (lv_at hl 2 rfl) ?_
  refine lv_iconst (v := 5) hx hb dX0_rankOf_6 (by decide) ?_
  refine lv_icmp_lt (tgt := 12) hx hb dX0_rankOf_7 (by decide) (fun c_2 => ?_) (fun c_2 => absurd c_2 (by decide))
  refine lv_aload_n hx hb dX0_rankOf_12 rfl (lv_at hl 0 rfl) ?_
  refine lv_lload_n hx hb dX0_rankOf_13 rfl (lv_at hl 1 rfl) ?_
  refine lv_aload_n hx hb dX0_rankOf_14 rfl (lv_at hl 0 rfl) ?_
  refine x_get (ci := 0) (C := RX0) (T := TX0) (N := 4) (v := .ref (ad 3)) B h hin0 8 0 rfl rfl (by decide) (by decide +kernel) rfl dX0_rankOf_15 ?_
  refine x_get (ci := 9) (C := RX9) (T := TX9) (N := 7) (v := .ref (ad 19)) B h hin9 3 6 rfl rfl (by decide) (by decide +kernel) rfl dX0_rankOf_18 ?_
  refine lv_iload_n hx hb dX0_rankOf_21 rfl (lv_at hl 2 rfl) ?_
  refine va_lald hx hb B.2.1 h.1 19 1 rfl rfl (vp_in_iff.mpr (by decide)) dX0_rankOf_22 ?_
  refine lv_topl (fun v_3 ev_3 => ?_)
  obtain rfl : v_3 = 0 := ev_3
  refine lv_land hx hb dX0_rankOf_23 ?_
  refine lv_topl (fun v_4 ev_4 => ?_)
  obtain rfl : v_4 = 0 := ev_4.trans (by decide)
  refine lv_lload_n hx hb dX0_rankOf_24 rfl (lv_at hl 1 rfl) ?_
  refine lv_aload_n hx hb dX0_rankOf_25 rfl (lv_at hl 0 rfl) ?_
  refine x_get (ci := 0) (C := RX0) (T := TX0) (N := 4) (v := .ref (ad 3)) B h hin0 8 0 rfl rfl (by decide) (by decide +kernel) rfl dX0_rankOf_26 ?_
  refine x_get (ci := 9) (C := RX9) (T := TX9) (N := 7) (v := .ref (ad 19)) B h hin9 3 6 rfl rfl (by decide) (by decide +kernel) rfl dX0_rankOf_29 ?_
  refine lv_iload_n hx hb dX0_rankOf_32 rfl (lv_at hl 2 rfl) ?_
  refine lv_iconst (v := 1) hx hb dX0_rankOf_33 (by decide) ?_
  refine lv_isub hx hb dX0_rankOf_34 ?_
  refine lv_topi (fun v_5 ev_5 => ?_)
  obtain rfl : v_5 = 1 := ev_5.trans (by decide)
  refine va_lald hx hb B.2.1 h.1 19 1 rfl rfl (vp_in_iff.mpr (by decide)) dX0_rankOf_35 ?_
  refine lv_topl (fun v_6 ev_6 => ?_)
  obtain rfl : v_6 = 0 := ev_6
  refine lv_land hx hb dX0_rankOf_36 ?_
  refine lv_topl (fun v_7 ev_7 => ?_)
  obtain rfl : v_7 = 0 := ev_7.trans (by decide)
  refine lv_iload hx hb dX0_rankOf_37 (lv_at hl 3 rfl) ?_
  refine x_cVVF (n := 3) (As := [.long 0, .long 0, .int 0]) (rest := []) B h (k90_X0_fill l D cI cJ cB cZ ad bd) ⟨⟨_, rfl⟩, by decide +kernel, Nat.le_of_ble_eq_true rfl, Nat.le_of_ble_eq_true rfl⟩ gX0_rankOf_X0_fill (show ((WX cI cJ cB cZ ad) : va_W)[8]? = some (_, .inr (0, _)) from rfl) rfl rfl hl.1 rfl (Nat.le_of_ble_eq_true rfl) dX0_rankOf_39 ⟨Nat.le_of_ble_eq_true rfl, Nat.le_of_ble_eq_true rfl⟩ (fun u_8 H locs hp_8 h => ?_)
  have h : Hp D A s.heap (WX cI cJ cB cZ ad) H locs := h
  refine lv_aload_n hx hb dX0_rankOf_42 rfl (lv_at hl 0 rfl) ?_
  refine x_get (ci := 0) (C := RX0) (T := TX0) (N := 4) (v := .ref (ad 11)) B h hin0 8 2 rfl rfl (by decide) (by decide +kernel) rfl dX0_rankOf_43 ?_
  refine x_cVIF (n := 0) (As := []) (rest := []) B h (k91_X5_eliminate l D cI cJ cB cZ ad bd) ⟨⟨_, rfl⟩, by decide +kernel, Nat.le_of_ble_eq_true rfl, Nat.le_of_ble_eq_true rfl⟩ gX0_rankOf_X5_eliminate (show ((WX cI cJ cB cZ ad) : va_W)[11]? = some (_, .inr (5, _)) from rfl) rfl rfl hl.1 rfl (Nat.le_of_ble_eq_true rfl) dX0_rankOf_46 ⟨Nat.le_of_ble_eq_true rfl, Nat.le_of_ble_eq_true rfl⟩ (fun r_9 u_9 H locs hp_9 h => ?_)
  obtain rfl := hp_9
  have h : Hp D A s.heap (WX cI cJ cB cZ ad (Matrix_minor := 1)) H locs := h
  exact x_iret (w1 := (fun _ => (WX cI cJ cB cZ ad (Matrix_minor := 1)))) () B h hr rfl rfl dX0_rankOf_49
set_option maxHeartbeats 4000000 in
set_option maxRecDepth 100000 in
theorem k100_X0_rankOf (l : Launch) (D : va_G) (cI cJ cB cZ : ClassId) (ad bd : Nat → Nat) : MetI l yX0_rankOf wsX0_rankOf 2 89 0 0 D (TYS cI cJ cB cZ) (WX cI cJ cB cZ ad (Matrix_minor := 1)) [.ref (ad 8), .long 0, .int 3, .int 0] (fun (r : Int32) (_ : Unit) => r = 0) (fun _ => (WX cI cJ cB cZ ad (Matrix_minor := 1))) := by
  refine x_startI (ty := .int) (cc := cX0_rankOf) (by decide) rfl (Nat.le_of_ble_eq_true rfl) ?_
  intro p e s m args below meth c A ls B hr hnm h hl
  have hx := B.1.1
  have hb := B.1.2.1
  have hml := B.1.2.2.1
  have hts := B.1.2.2.2.2
  have hown : s.vm.findClass RX0 = some m.cls := B.1.2.2.2.1
  have hin0 : ∀ w ∈ u_ws RX0 TX0 4, w ∈ wsX0_rankOf := by decide +kernel
  have hin9 : ∀ w ∈ u_ws RX9 TX9 7, w ∈ wsX0_rankOf := by decide +kernel
  have hl : lv_has ls 5 [(0, .ref (ad 8)), (1, .long 0), (3, .int 3), (4, .int 0)] := hl
  refine lv_iload_n hx hb dX0_rankOf_0 rfl (lv_at hl 2 rfl) ?_
  refine lv_iconst (v := 1) hx hb dX0_rankOf_1 (by decide) ?_
  refine lv_icmp_lt (tgt := 10) hx hb dX0_rankOf_2 (by decide) (fun c_1 => absurd c_1 (by decide)) (fun c_1 => ?_)
  refine lv_iload_n hx hb dX0_rankOf_5 rfl (lv_at hl 2 rfl) ?_
  refine lv_iconst (v := 5) hx hb dX0_rankOf_6 (by decide) ?_
  refine lv_icmp_lt (tgt := 12) hx hb dX0_rankOf_7 (by decide) (fun c_2 => ?_) (fun c_2 => absurd c_2 (by decide))
  refine lv_aload_n hx hb dX0_rankOf_12 rfl (lv_at hl 0 rfl) ?_
  refine lv_lload_n hx hb dX0_rankOf_13 rfl (lv_at hl 1 rfl) ?_
  refine lv_aload_n hx hb dX0_rankOf_14 rfl (lv_at hl 0 rfl) ?_
  refine x_get (ci := 0) (C := RX0) (T := TX0) (N := 4) (v := .ref (ad 3)) B h hin0 8 0 rfl rfl (by decide) (by decide +kernel) rfl dX0_rankOf_15 ?_
  refine x_get (ci := 9) (C := RX9) (T := TX9) (N := 7) (v := .ref (ad 19)) B h hin9 3 6 rfl rfl (by decide) (by decide +kernel) rfl dX0_rankOf_18 ?_
  refine lv_iload_n hx hb dX0_rankOf_21 rfl (lv_at hl 2 rfl) ?_
  refine va_lald hx hb B.2.1 h.1 19 1 rfl rfl (vp_in_iff.mpr (by decide)) dX0_rankOf_22 ?_
  refine lv_topl (fun v_3 ev_3 => ?_)
  obtain rfl : v_3 = 0 := ev_3
  refine lv_land hx hb dX0_rankOf_23 ?_
  refine lv_topl (fun v_4 ev_4 => ?_)
  obtain rfl : v_4 = 0 := ev_4.trans (by decide)
  refine lv_lload_n hx hb dX0_rankOf_24 rfl (lv_at hl 1 rfl) ?_
  refine lv_aload_n hx hb dX0_rankOf_25 rfl (lv_at hl 0 rfl) ?_
  refine x_get (ci := 0) (C := RX0) (T := TX0) (N := 4) (v := .ref (ad 3)) B h hin0 8 0 rfl rfl (by decide) (by decide +kernel) rfl dX0_rankOf_26 ?_
  refine x_get (ci := 9) (C := RX9) (T := TX9) (N := 7) (v := .ref (ad 19)) B h hin9 3 6 rfl rfl (by decide) (by decide +kernel) rfl dX0_rankOf_29 ?_
  refine lv_iload_n hx hb dX0_rankOf_32 rfl (lv_at hl 2 rfl) ?_
  refine lv_iconst (v := 1) hx hb dX0_rankOf_33 (by decide) ?_
  refine lv_isub hx hb dX0_rankOf_34 ?_
  refine lv_topi (fun v_5 ev_5 => ?_)
  obtain rfl : v_5 = 2 := ev_5.trans (by decide)
  refine va_lald hx hb B.2.1 h.1 19 1 rfl rfl (vp_in_iff.mpr (by decide)) dX0_rankOf_35 ?_
  refine lv_topl (fun v_6 ev_6 => ?_)
  obtain rfl : v_6 = 0 := ev_6
  refine lv_land hx hb dX0_rankOf_36 ?_
  refine lv_topl (fun v_7 ev_7 => ?_)
  obtain rfl : v_7 = 0 := ev_7.trans (by decide)
  refine lv_iload hx hb dX0_rankOf_37 (lv_at hl 3 rfl) ?_
  refine x_cVVF (n := 3) (As := [.long 0, .long 0, .int 0]) (rest := []) B h (k95_X0_fill l D cI cJ cB cZ ad bd) ⟨⟨_, rfl⟩, by decide +kernel, Nat.le_of_ble_eq_true rfl, Nat.le_of_ble_eq_true rfl⟩ gX0_rankOf_X0_fill (show ((WX cI cJ cB cZ ad (Matrix_minor := 1)) : va_W)[8]? = some (_, .inr (0, _)) from rfl) rfl rfl hl.1 rfl (Nat.le_of_ble_eq_true rfl) dX0_rankOf_39 ⟨Nat.le_of_ble_eq_true rfl, Nat.le_of_ble_eq_true rfl⟩ (fun u_8 H locs hp_8 h => ?_)
  have h : Hp D A s.heap (WX cI cJ cB cZ ad (Matrix_minor := 1)) H locs := h
  refine lv_aload_n hx hb dX0_rankOf_42 rfl (lv_at hl 0 rfl) ?_
  refine x_get (ci := 0) (C := RX0) (T := TX0) (N := 4) (v := .ref (ad 11)) B h hin0 8 2 rfl rfl (by decide) (by decide +kernel) rfl dX0_rankOf_43 ?_
  refine x_cVIF (n := 0) (As := []) (rest := []) B h (k96_X5_eliminate l D cI cJ cB cZ ad bd) ⟨⟨_, rfl⟩, by decide +kernel, Nat.le_of_ble_eq_true rfl, Nat.le_of_ble_eq_true rfl⟩ gX0_rankOf_X5_eliminate (show ((WX cI cJ cB cZ ad (Matrix_minor := 1)) : va_W)[11]? = some (_, .inr (5, _)) from rfl) rfl rfl hl.1 rfl (Nat.le_of_ble_eq_true rfl) dX0_rankOf_46 ⟨Nat.le_of_ble_eq_true rfl, Nat.le_of_ble_eq_true rfl⟩ (fun r_9 u_9 H locs hp_9 h => ?_)
  obtain rfl := hp_9
  have h : Hp D A s.heap (WX cI cJ cB cZ ad (Matrix_minor := 1)) H locs := h
  exact x_iret (w1 := (fun _ => (WX cI cJ cB cZ ad (Matrix_minor := 1)))) () B h hr rfl rfl dX0_rankOf_49
set_option maxHeartbeats 4000000 in
set_option maxRecDepth 100000 in
theorem k101_X0_bettiOf (l : Launch) (D : va_G) (cI cJ cB cZ : ClassId) (ad bd : Nat → Nat) : MetI l yX0_bettiOf wsX0_bettiOf 3 113 0 0 D (TYS cI cJ cB cZ) (WX cI cJ cB cZ ad) [.ref (ad 8), .long 0, .int 2, .int 0] (fun (r : Int32) (_ : Unit) => r = 0) (fun _ => (WX cI cJ cB cZ ad (Matrix_minor := 1))) := by
  refine x_startI (ty := .int) (cc := cX0_bettiOf) (by decide) rfl (Nat.le_of_ble_eq_true rfl) ?_
  intro p e s m args below meth c A ls B hr hnm h hl
  have hx := B.1.1
  have hb := B.1.2.1
  have hml := B.1.2.2.1
  have hts := B.1.2.2.2.2
  have hown : s.vm.findClass RX0 = some m.cls := B.1.2.2.2.1
  have hin0 : ∀ w ∈ u_ws RX0 TX0 4, w ∈ wsX0_bettiOf := by decide +kernel
  have hin9 : ∀ w ∈ u_ws RX9 TX9 7, w ∈ wsX0_bettiOf := by decide +kernel
  have hl : lv_has ls 6 [(0, .ref (ad 8)), (1, .long 0), (3, .int 2), (4, .int 0)] := hl
  refine lv_lload_n hx hb dX0_bettiOf_0 rfl (lv_at hl 1 rfl) ?_
  refine lv_aload_n hx hb dX0_bettiOf_1 rfl (lv_at hl 0 rfl) ?_
  refine x_get (ci := 0) (C := RX0) (T := TX0) (N := 4) (v := .ref (ad 3)) B h hin0 8 0 rfl rfl (by decide) (by decide +kernel) rfl dX0_bettiOf_2 ?_
  refine x_get (ci := 9) (C := RX9) (T := TX9) (N := 7) (v := .ref (ad 19)) B h hin9 3 6 rfl rfl (by decide) (by decide +kernel) rfl dX0_bettiOf_5 ?_
  refine lv_iload_n hx hb dX0_bettiOf_8 rfl (lv_at hl 2 rfl) ?_
  refine va_lald hx hb B.2.1 h.1 19 1 rfl rfl (vp_in_iff.mpr (by decide)) dX0_bettiOf_9 ?_
  refine lv_topl (fun v_1 ev_1 => ?_)
  obtain rfl : v_1 = 0 := ev_1
  refine lv_land hx hb dX0_bettiOf_10 ?_
  refine lv_topl (fun v_2 ev_2 => ?_)
  obtain rfl : v_2 = 0 := ev_2.trans (by decide)
  refine x_cSIE (n := 1) (As := [.long 0]) (rest := []) B h (k65_J13_bitCount_95d88 l D cI cJ cB cZ ad bd) ⟨⟨_, rfl⟩, by decide +kernel, Nat.le_of_ble_eq_true rfl, Nat.le_of_ble_eq_true rfl⟩ gX0_bettiOf_J13_bitCount_95d88 rfl hl.1 rfl (Nat.le_of_ble_eq_true rfl) dX0_bettiOf_11 ⟨Nat.le_of_ble_eq_true rfl, Nat.le_of_ble_eq_true rfl⟩ (fun r_3 u_3 H locs hp_3 h => ?_)
  obtain rfl := hp_3
  have h : Hp D A s.heap (WX cI cJ cB cZ ad) H locs := h
  refine lv_istore (lv' := [(5, .int 0), (0, .ref (ad 8)), (1, .long 0), (3, .int 2), (4, .int 0)]) hx hb dX0_bettiOf_14 hl (by decide) rfl (fun ls hl => ?_)
  refine lv_iload hx hb dX0_bettiOf_16 (lv_at hl 0 rfl) ?_
  refine lv_aload_n hx hb dX0_bettiOf_18 rfl (lv_at hl 1 rfl) ?_
  refine lv_lload_n hx hb dX0_bettiOf_19 rfl (lv_at hl 2 rfl) ?_
  refine lv_iload_n hx hb dX0_bettiOf_20 rfl (lv_at hl 3 rfl) ?_
  refine lv_iload hx hb dX0_bettiOf_21 (lv_at hl 4 rfl) ?_
  refine x_cVIF (n := 3) (As := [.long 0, .int 2, .int 0]) (rest := [.int 0]) B h (k99_X0_rankOf l D cI cJ cB cZ ad bd) ⟨⟨_, rfl⟩, by decide +kernel, Nat.le_of_ble_eq_true rfl, Nat.le_of_ble_eq_true rfl⟩ gX0_bettiOf_X0_rankOf (show ((WX cI cJ cB cZ ad) : va_W)[8]? = some (_, .inr (0, _)) from rfl) rfl rfl hl.1 rfl (Nat.le_of_ble_eq_true rfl) dX0_bettiOf_23 ⟨Nat.le_of_ble_eq_true rfl, Nat.le_of_ble_eq_true rfl⟩ (fun r_4 u_4 H locs hp_4 h => ?_)
  obtain rfl := hp_4
  have h : Hp D A s.heap (WX cI cJ cB cZ ad (Matrix_minor := 1)) H locs := h
  refine lv_isub hx hb dX0_bettiOf_26 ?_
  refine lv_topi (fun v_5 ev_5 => ?_)
  obtain rfl : v_5 = 0 := ev_5.trans (by decide)
  refine lv_aload_n hx hb dX0_bettiOf_27 rfl (lv_at hl 1 rfl) ?_
  refine lv_lload_n hx hb dX0_bettiOf_28 rfl (lv_at hl 2 rfl) ?_
  refine lv_iload_n hx hb dX0_bettiOf_29 rfl (lv_at hl 3 rfl) ?_
  refine lv_iconst (v := 1) hx hb dX0_bettiOf_30 (by decide) ?_
  refine lv_iadd hx hb dX0_bettiOf_31 ?_
  refine lv_topi (fun v_6 ev_6 => ?_)
  obtain rfl : v_6 = 3 := ev_6.trans (by decide)
  refine lv_iload hx hb dX0_bettiOf_32 (lv_at hl 4 rfl) ?_
  refine x_cVIF (n := 3) (As := [.long 0, .int 3, .int 0]) (rest := [.int 0]) B h (k100_X0_rankOf l D cI cJ cB cZ ad bd) ⟨⟨_, rfl⟩, by decide +kernel, Nat.le_of_ble_eq_true rfl, Nat.le_of_ble_eq_true rfl⟩ gX0_bettiOf_X0_rankOf (show ((WX cI cJ cB cZ ad (Matrix_minor := 1)) : va_W)[8]? = some (_, .inr (0, _)) from rfl) rfl rfl hl.1 rfl (Nat.le_of_ble_eq_true rfl) dX0_bettiOf_34 ⟨Nat.le_of_ble_eq_true rfl, Nat.le_of_ble_eq_true rfl⟩ (fun r_7 u_7 H locs hp_7 h => ?_)
  obtain rfl := hp_7
  have h : Hp D A s.heap (WX cI cJ cB cZ ad (Matrix_minor := 1)) H locs := h
  refine lv_isub hx hb dX0_bettiOf_37 ?_
  refine lv_topi (fun v_8 ev_8 => ?_)
  obtain rfl : v_8 = 0 := ev_8.trans (by decide)
  exact x_iret (w1 := (fun _ => (WX cI cJ cB cZ ad (Matrix_minor := 1)))) () B h hr rfl rfl dX0_bettiOf_38
set_option maxHeartbeats 4000000 in
set_option maxRecDepth 100000 in
theorem k102_X0_rankOf (l : Launch) (D : va_G) (cI cJ cB cZ : ClassId) (ad bd : Nat → Nat) : MetI l yX0_rankOf wsX0_rankOf 2 89 0 0 D (TYS cI cJ cB cZ) (WX cI cJ cB cZ ad) [.ref (ad 8), .long 0, .int 3, .int 0] (fun (r : Int32) (_ : Unit) => r = 0) (fun _ => (WX cI cJ cB cZ ad (Matrix_minor := 1))) := by
  refine x_startI (ty := .int) (cc := cX0_rankOf) (by decide) rfl (Nat.le_of_ble_eq_true rfl) ?_
  intro p e s m args below meth c A ls B hr hnm h hl
  have hx := B.1.1
  have hb := B.1.2.1
  have hml := B.1.2.2.1
  have hts := B.1.2.2.2.2
  have hown : s.vm.findClass RX0 = some m.cls := B.1.2.2.2.1
  have hin0 : ∀ w ∈ u_ws RX0 TX0 4, w ∈ wsX0_rankOf := by decide +kernel
  have hin9 : ∀ w ∈ u_ws RX9 TX9 7, w ∈ wsX0_rankOf := by decide +kernel
  have hl : lv_has ls 5 [(0, .ref (ad 8)), (1, .long 0), (3, .int 3), (4, .int 0)] := hl
  refine lv_iload_n hx hb dX0_rankOf_0 rfl (lv_at hl 2 rfl) ?_
  refine lv_iconst (v := 1) hx hb dX0_rankOf_1 (by decide) ?_
  refine lv_icmp_lt (tgt := 10) hx hb dX0_rankOf_2 (by decide) (fun c_1 => absurd c_1 (by decide)) (fun c_1 => ?_)
  refine lv_iload_n hx hb dX0_rankOf_5 rfl (lv_at hl 2 rfl) ?_
  refine lv_iconst (v := 5) hx hb dX0_rankOf_6 (by decide) ?_
  refine lv_icmp_lt (tgt := 12) hx hb dX0_rankOf_7 (by decide) (fun c_2 => ?_) (fun c_2 => absurd c_2 (by decide))
  refine lv_aload_n hx hb dX0_rankOf_12 rfl (lv_at hl 0 rfl) ?_
  refine lv_lload_n hx hb dX0_rankOf_13 rfl (lv_at hl 1 rfl) ?_
  refine lv_aload_n hx hb dX0_rankOf_14 rfl (lv_at hl 0 rfl) ?_
  refine x_get (ci := 0) (C := RX0) (T := TX0) (N := 4) (v := .ref (ad 3)) B h hin0 8 0 rfl rfl (by decide) (by decide +kernel) rfl dX0_rankOf_15 ?_
  refine x_get (ci := 9) (C := RX9) (T := TX9) (N := 7) (v := .ref (ad 19)) B h hin9 3 6 rfl rfl (by decide) (by decide +kernel) rfl dX0_rankOf_18 ?_
  refine lv_iload_n hx hb dX0_rankOf_21 rfl (lv_at hl 2 rfl) ?_
  refine va_lald hx hb B.2.1 h.1 19 1 rfl rfl (vp_in_iff.mpr (by decide)) dX0_rankOf_22 ?_
  refine lv_topl (fun v_3 ev_3 => ?_)
  obtain rfl : v_3 = 0 := ev_3
  refine lv_land hx hb dX0_rankOf_23 ?_
  refine lv_topl (fun v_4 ev_4 => ?_)
  obtain rfl : v_4 = 0 := ev_4.trans (by decide)
  refine lv_lload_n hx hb dX0_rankOf_24 rfl (lv_at hl 1 rfl) ?_
  refine lv_aload_n hx hb dX0_rankOf_25 rfl (lv_at hl 0 rfl) ?_
  refine x_get (ci := 0) (C := RX0) (T := TX0) (N := 4) (v := .ref (ad 3)) B h hin0 8 0 rfl rfl (by decide) (by decide +kernel) rfl dX0_rankOf_26 ?_
  refine x_get (ci := 9) (C := RX9) (T := TX9) (N := 7) (v := .ref (ad 19)) B h hin9 3 6 rfl rfl (by decide) (by decide +kernel) rfl dX0_rankOf_29 ?_
  refine lv_iload_n hx hb dX0_rankOf_32 rfl (lv_at hl 2 rfl) ?_
  refine lv_iconst (v := 1) hx hb dX0_rankOf_33 (by decide) ?_
  refine lv_isub hx hb dX0_rankOf_34 ?_
  refine lv_topi (fun v_5 ev_5 => ?_)
  obtain rfl : v_5 = 2 := ev_5.trans (by decide)
  refine va_lald hx hb B.2.1 h.1 19 1 rfl rfl (vp_in_iff.mpr (by decide)) dX0_rankOf_35 ?_
  refine lv_topl (fun v_6 ev_6 => ?_)
  obtain rfl : v_6 = 0 := ev_6
  refine lv_land hx hb dX0_rankOf_36 ?_
  refine lv_topl (fun v_7 ev_7 => ?_)
  obtain rfl : v_7 = 0 := ev_7.trans (by decide)
  refine lv_iload hx hb dX0_rankOf_37 (lv_at hl 3 rfl) ?_
  refine x_cVVF (n := 3) (As := [.long 0, .long 0, .int 0]) (rest := []) B h (k90_X0_fill l D cI cJ cB cZ ad bd) ⟨⟨_, rfl⟩, by decide +kernel, Nat.le_of_ble_eq_true rfl, Nat.le_of_ble_eq_true rfl⟩ gX0_rankOf_X0_fill (show ((WX cI cJ cB cZ ad) : va_W)[8]? = some (_, .inr (0, _)) from rfl) rfl rfl hl.1 rfl (Nat.le_of_ble_eq_true rfl) dX0_rankOf_39 ⟨Nat.le_of_ble_eq_true rfl, Nat.le_of_ble_eq_true rfl⟩ (fun u_8 H locs hp_8 h => ?_)
  have h : Hp D A s.heap (WX cI cJ cB cZ ad) H locs := h
  refine lv_aload_n hx hb dX0_rankOf_42 rfl (lv_at hl 0 rfl) ?_
  refine x_get (ci := 0) (C := RX0) (T := TX0) (N := 4) (v := .ref (ad 11)) B h hin0 8 2 rfl rfl (by decide) (by decide +kernel) rfl dX0_rankOf_43 ?_
  refine x_cVIF (n := 0) (As := []) (rest := []) B h (k91_X5_eliminate l D cI cJ cB cZ ad bd) ⟨⟨_, rfl⟩, by decide +kernel, Nat.le_of_ble_eq_true rfl, Nat.le_of_ble_eq_true rfl⟩ gX0_rankOf_X5_eliminate (show ((WX cI cJ cB cZ ad) : va_W)[11]? = some (_, .inr (5, _)) from rfl) rfl rfl hl.1 rfl (Nat.le_of_ble_eq_true rfl) dX0_rankOf_46 ⟨Nat.le_of_ble_eq_true rfl, Nat.le_of_ble_eq_true rfl⟩ (fun r_9 u_9 H locs hp_9 h => ?_)
  obtain rfl := hp_9
  have h : Hp D A s.heap (WX cI cJ cB cZ ad (Matrix_minor := 1)) H locs := h
  exact x_iret (w1 := (fun _ => (WX cI cJ cB cZ ad (Matrix_minor := 1)))) () B h hr rfl rfl dX0_rankOf_49
set_option maxHeartbeats 4000000 in
set_option maxRecDepth 100000 in
theorem k103_X0_rankOf (l : Launch) (D : va_G) (cI cJ cB cZ : ClassId) (ad bd : Nat → Nat) : MetI l yX0_rankOf wsX0_rankOf 2 89 0 0 D (TYS cI cJ cB cZ) (WX cI cJ cB cZ ad (Matrix_minor := 1)) [.ref (ad 8), .long 0, .int 4, .int 0] (fun (r : Int32) (_ : Unit) => r = 0) (fun _ => (WX cI cJ cB cZ ad (Matrix_minor := 1))) := by
  refine x_startI (ty := .int) (cc := cX0_rankOf) (by decide) rfl (Nat.le_of_ble_eq_true rfl) ?_
  intro p e s m args below meth c A ls B hr hnm h hl
  have hx := B.1.1
  have hb := B.1.2.1
  have hml := B.1.2.2.1
  have hts := B.1.2.2.2.2
  have hown : s.vm.findClass RX0 = some m.cls := B.1.2.2.2.1
  have hin0 : ∀ w ∈ u_ws RX0 TX0 4, w ∈ wsX0_rankOf := by decide +kernel
  have hin9 : ∀ w ∈ u_ws RX9 TX9 7, w ∈ wsX0_rankOf := by decide +kernel
  have hl : lv_has ls 5 [(0, .ref (ad 8)), (1, .long 0), (3, .int 4), (4, .int 0)] := hl
  refine lv_iload_n hx hb dX0_rankOf_0 rfl (lv_at hl 2 rfl) ?_
  refine lv_iconst (v := 1) hx hb dX0_rankOf_1 (by decide) ?_
  refine lv_icmp_lt (tgt := 10) hx hb dX0_rankOf_2 (by decide) (fun c_1 => absurd c_1 (by decide)) (fun c_1 => ?_)
  refine lv_iload_n hx hb dX0_rankOf_5 rfl (lv_at hl 2 rfl) ?_
  refine lv_iconst (v := 5) hx hb dX0_rankOf_6 (by decide) ?_
  refine lv_icmp_lt (tgt := 12) hx hb dX0_rankOf_7 (by decide) (fun c_2 => ?_) (fun c_2 => absurd c_2 (by decide))
  refine lv_aload_n hx hb dX0_rankOf_12 rfl (lv_at hl 0 rfl) ?_
  refine lv_lload_n hx hb dX0_rankOf_13 rfl (lv_at hl 1 rfl) ?_
  refine lv_aload_n hx hb dX0_rankOf_14 rfl (lv_at hl 0 rfl) ?_
  refine x_get (ci := 0) (C := RX0) (T := TX0) (N := 4) (v := .ref (ad 3)) B h hin0 8 0 rfl rfl (by decide) (by decide +kernel) rfl dX0_rankOf_15 ?_
  refine x_get (ci := 9) (C := RX9) (T := TX9) (N := 7) (v := .ref (ad 19)) B h hin9 3 6 rfl rfl (by decide) (by decide +kernel) rfl dX0_rankOf_18 ?_
  refine lv_iload_n hx hb dX0_rankOf_21 rfl (lv_at hl 2 rfl) ?_
  refine va_lald hx hb B.2.1 h.1 19 1 rfl rfl (vp_in_iff.mpr (by decide)) dX0_rankOf_22 ?_
  refine lv_topl (fun v_3 ev_3 => ?_)
  obtain rfl : v_3 = 0 := ev_3
  refine lv_land hx hb dX0_rankOf_23 ?_
  refine lv_topl (fun v_4 ev_4 => ?_)
  obtain rfl : v_4 = 0 := ev_4.trans (by decide)
  refine lv_lload_n hx hb dX0_rankOf_24 rfl (lv_at hl 1 rfl) ?_
  refine lv_aload_n hx hb dX0_rankOf_25 rfl (lv_at hl 0 rfl) ?_
  refine x_get (ci := 0) (C := RX0) (T := TX0) (N := 4) (v := .ref (ad 3)) B h hin0 8 0 rfl rfl (by decide) (by decide +kernel) rfl dX0_rankOf_26 ?_
  refine x_get (ci := 9) (C := RX9) (T := TX9) (N := 7) (v := .ref (ad 19)) B h hin9 3 6 rfl rfl (by decide) (by decide +kernel) rfl dX0_rankOf_29 ?_
  refine lv_iload_n hx hb dX0_rankOf_32 rfl (lv_at hl 2 rfl) ?_
  refine lv_iconst (v := 1) hx hb dX0_rankOf_33 (by decide) ?_
  refine lv_isub hx hb dX0_rankOf_34 ?_
  refine lv_topi (fun v_5 ev_5 => ?_)
  obtain rfl : v_5 = 3 := ev_5.trans (by decide)
  refine va_lald hx hb B.2.1 h.1 19 1 rfl rfl (vp_in_iff.mpr (by decide)) dX0_rankOf_35 ?_
  refine lv_topl (fun v_6 ev_6 => ?_)
  obtain rfl : v_6 = 0 := ev_6
  refine lv_land hx hb dX0_rankOf_36 ?_
  refine lv_topl (fun v_7 ev_7 => ?_)
  obtain rfl : v_7 = 0 := ev_7.trans (by decide)
  refine lv_iload hx hb dX0_rankOf_37 (lv_at hl 3 rfl) ?_
  refine x_cVVF (n := 3) (As := [.long 0, .long 0, .int 0]) (rest := []) B h (k95_X0_fill l D cI cJ cB cZ ad bd) ⟨⟨_, rfl⟩, by decide +kernel, Nat.le_of_ble_eq_true rfl, Nat.le_of_ble_eq_true rfl⟩ gX0_rankOf_X0_fill (show ((WX cI cJ cB cZ ad (Matrix_minor := 1)) : va_W)[8]? = some (_, .inr (0, _)) from rfl) rfl rfl hl.1 rfl (Nat.le_of_ble_eq_true rfl) dX0_rankOf_39 ⟨Nat.le_of_ble_eq_true rfl, Nat.le_of_ble_eq_true rfl⟩ (fun u_8 H locs hp_8 h => ?_)
  have h : Hp D A s.heap (WX cI cJ cB cZ ad (Matrix_minor := 1)) H locs := h
  refine lv_aload_n hx hb dX0_rankOf_42 rfl (lv_at hl 0 rfl) ?_
  refine x_get (ci := 0) (C := RX0) (T := TX0) (N := 4) (v := .ref (ad 11)) B h hin0 8 2 rfl rfl (by decide) (by decide +kernel) rfl dX0_rankOf_43 ?_
  refine x_cVIF (n := 0) (As := []) (rest := []) B h (k96_X5_eliminate l D cI cJ cB cZ ad bd) ⟨⟨_, rfl⟩, by decide +kernel, Nat.le_of_ble_eq_true rfl, Nat.le_of_ble_eq_true rfl⟩ gX0_rankOf_X5_eliminate (show ((WX cI cJ cB cZ ad (Matrix_minor := 1)) : va_W)[11]? = some (_, .inr (5, _)) from rfl) rfl rfl hl.1 rfl (Nat.le_of_ble_eq_true rfl) dX0_rankOf_46 ⟨Nat.le_of_ble_eq_true rfl, Nat.le_of_ble_eq_true rfl⟩ (fun r_9 u_9 H locs hp_9 h => ?_)
  obtain rfl := hp_9
  have h : Hp D A s.heap (WX cI cJ cB cZ ad (Matrix_minor := 1)) H locs := h
  exact x_iret (w1 := (fun _ => (WX cI cJ cB cZ ad (Matrix_minor := 1)))) () B h hr rfl rfl dX0_rankOf_49
set_option maxHeartbeats 4000000 in
set_option maxRecDepth 100000 in
theorem k104_X0_bettiOf (l : Launch) (D : va_G) (cI cJ cB cZ : ClassId) (ad bd : Nat → Nat) : MetI l yX0_bettiOf wsX0_bettiOf 3 113 0 0 D (TYS cI cJ cB cZ) (WX cI cJ cB cZ ad) [.ref (ad 8), .long 0, .int 3, .int 0] (fun (r : Int32) (_ : Unit) => r = 0) (fun _ => (WX cI cJ cB cZ ad (Matrix_minor := 1))) := by
  refine x_startI (ty := .int) (cc := cX0_bettiOf) (by decide) rfl (Nat.le_of_ble_eq_true rfl) ?_
  intro p e s m args below meth c A ls B hr hnm h hl
  have hx := B.1.1
  have hb := B.1.2.1
  have hml := B.1.2.2.1
  have hts := B.1.2.2.2.2
  have hown : s.vm.findClass RX0 = some m.cls := B.1.2.2.2.1
  have hin0 : ∀ w ∈ u_ws RX0 TX0 4, w ∈ wsX0_bettiOf := by decide +kernel
  have hin9 : ∀ w ∈ u_ws RX9 TX9 7, w ∈ wsX0_bettiOf := by decide +kernel
  have hl : lv_has ls 6 [(0, .ref (ad 8)), (1, .long 0), (3, .int 3), (4, .int 0)] := hl
  refine lv_lload_n hx hb dX0_bettiOf_0 rfl (lv_at hl 1 rfl) ?_
  refine lv_aload_n hx hb dX0_bettiOf_1 rfl (lv_at hl 0 rfl) ?_
  refine x_get (ci := 0) (C := RX0) (T := TX0) (N := 4) (v := .ref (ad 3)) B h hin0 8 0 rfl rfl (by decide) (by decide +kernel) rfl dX0_bettiOf_2 ?_
  refine x_get (ci := 9) (C := RX9) (T := TX9) (N := 7) (v := .ref (ad 19)) B h hin9 3 6 rfl rfl (by decide) (by decide +kernel) rfl dX0_bettiOf_5 ?_
  refine lv_iload_n hx hb dX0_bettiOf_8 rfl (lv_at hl 2 rfl) ?_
  refine va_lald hx hb B.2.1 h.1 19 1 rfl rfl (vp_in_iff.mpr (by decide)) dX0_bettiOf_9 ?_
  refine lv_topl (fun v_1 ev_1 => ?_)
  obtain rfl : v_1 = 0 := ev_1
  refine lv_land hx hb dX0_bettiOf_10 ?_
  refine lv_topl (fun v_2 ev_2 => ?_)
  obtain rfl : v_2 = 0 := ev_2.trans (by decide)
  refine x_cSIE (n := 1) (As := [.long 0]) (rest := []) B h (k65_J13_bitCount_95d88 l D cI cJ cB cZ ad bd) ⟨⟨_, rfl⟩, by decide +kernel, Nat.le_of_ble_eq_true rfl, Nat.le_of_ble_eq_true rfl⟩ gX0_bettiOf_J13_bitCount_95d88 rfl hl.1 rfl (Nat.le_of_ble_eq_true rfl) dX0_bettiOf_11 ⟨Nat.le_of_ble_eq_true rfl, Nat.le_of_ble_eq_true rfl⟩ (fun r_3 u_3 H locs hp_3 h => ?_)
  obtain rfl := hp_3
  have h : Hp D A s.heap (WX cI cJ cB cZ ad) H locs := h
  refine lv_istore (lv' := [(5, .int 0), (0, .ref (ad 8)), (1, .long 0), (3, .int 3), (4, .int 0)]) hx hb dX0_bettiOf_14 hl (by decide) rfl (fun ls hl => ?_)
  refine lv_iload hx hb dX0_bettiOf_16 (lv_at hl 0 rfl) ?_
  refine lv_aload_n hx hb dX0_bettiOf_18 rfl (lv_at hl 1 rfl) ?_
  refine lv_lload_n hx hb dX0_bettiOf_19 rfl (lv_at hl 2 rfl) ?_
  refine lv_iload_n hx hb dX0_bettiOf_20 rfl (lv_at hl 3 rfl) ?_
  refine lv_iload hx hb dX0_bettiOf_21 (lv_at hl 4 rfl) ?_
  refine x_cVIF (n := 3) (As := [.long 0, .int 3, .int 0]) (rest := [.int 0]) B h (k102_X0_rankOf l D cI cJ cB cZ ad bd) ⟨⟨_, rfl⟩, by decide +kernel, Nat.le_of_ble_eq_true rfl, Nat.le_of_ble_eq_true rfl⟩ gX0_bettiOf_X0_rankOf (show ((WX cI cJ cB cZ ad) : va_W)[8]? = some (_, .inr (0, _)) from rfl) rfl rfl hl.1 rfl (Nat.le_of_ble_eq_true rfl) dX0_bettiOf_23 ⟨Nat.le_of_ble_eq_true rfl, Nat.le_of_ble_eq_true rfl⟩ (fun r_4 u_4 H locs hp_4 h => ?_)
  obtain rfl := hp_4
  have h : Hp D A s.heap (WX cI cJ cB cZ ad (Matrix_minor := 1)) H locs := h
  refine lv_isub hx hb dX0_bettiOf_26 ?_
  refine lv_topi (fun v_5 ev_5 => ?_)
  obtain rfl : v_5 = 0 := ev_5.trans (by decide)
  refine lv_aload_n hx hb dX0_bettiOf_27 rfl (lv_at hl 1 rfl) ?_
  refine lv_lload_n hx hb dX0_bettiOf_28 rfl (lv_at hl 2 rfl) ?_
  refine lv_iload_n hx hb dX0_bettiOf_29 rfl (lv_at hl 3 rfl) ?_
  refine lv_iconst (v := 1) hx hb dX0_bettiOf_30 (by decide) ?_
  refine lv_iadd hx hb dX0_bettiOf_31 ?_
  refine lv_topi (fun v_6 ev_6 => ?_)
  obtain rfl : v_6 = 4 := ev_6.trans (by decide)
  refine lv_iload hx hb dX0_bettiOf_32 (lv_at hl 4 rfl) ?_
  refine x_cVIF (n := 3) (As := [.long 0, .int 4, .int 0]) (rest := [.int 0]) B h (k103_X0_rankOf l D cI cJ cB cZ ad bd) ⟨⟨_, rfl⟩, by decide +kernel, Nat.le_of_ble_eq_true rfl, Nat.le_of_ble_eq_true rfl⟩ gX0_bettiOf_X0_rankOf (show ((WX cI cJ cB cZ ad (Matrix_minor := 1)) : va_W)[8]? = some (_, .inr (0, _)) from rfl) rfl rfl hl.1 rfl (Nat.le_of_ble_eq_true rfl) dX0_bettiOf_34 ⟨Nat.le_of_ble_eq_true rfl, Nat.le_of_ble_eq_true rfl⟩ (fun r_7 u_7 H locs hp_7 h => ?_)
  obtain rfl := hp_7
  have h : Hp D A s.heap (WX cI cJ cB cZ ad (Matrix_minor := 1)) H locs := h
  refine lv_isub hx hb dX0_bettiOf_37 ?_
  refine lv_topi (fun v_8 ev_8 => ?_)
  obtain rfl : v_8 = 0 := ev_8.trans (by decide)
  exact x_iret (w1 := (fun _ => (WX cI cJ cB cZ ad (Matrix_minor := 1)))) () B h hr rfl rfl dX0_bettiOf_38
