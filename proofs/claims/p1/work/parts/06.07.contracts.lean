set_option maxHeartbeats 4000000 in
set_option maxRecDepth 100000 in
theorem k185_X12_in (l : Launch) (D : va_G) (cI cJ cB cZ : ClassId) (ad bd : Nat → Nat) (p0 : Int32) : MetI l yX12_in wsX12_in 0 0 0 0 D (TYS cI cJ cB cZ) [] [.int p0, .int 1, .int 4] (fun (r : Int32) (u : Nat) => (u = 0 ∧ (p0 < 1) ∧ r = 0) ∨ (u = 1 ∧ (¬ p0 < 1) ∧ (4 < p0) ∧ r = 0) ∨ (u = 2 ∧ (¬ p0 < 1) ∧ (¬ 4 < p0) ∧ r = 1)) (fun _ => []) := by
  refine x_startI (ty := .boolean) (cc := cX12_in) (by decide) rfl (Nat.le_of_ble_eq_true rfl) ?_
  intro p e s m args below meth c A ls B hr hnm h hl
  have hx := B.1.1
  have hb := B.1.2.1
  have hml := B.1.2.2.1
  have hts := B.1.2.2.2.2
  have hown : s.vm.findClass RX12 = some m.cls := B.1.2.2.2.1
  have hl : lv_has ls 3 [(0, .int p0), (1, .int 1), (2, .int 4)] := hl
  refine lv_iload_n hx hb dX12_in_0 rfl (lv_at hl 0 rfl) ?_
  refine lv_iload_n hx hb dX12_in_1 rfl (lv_at hl 1 rfl) ?_
  refine lv_icmp_lt (tgt := 14) hx hb dX12_in_2 (by decide) (fun c_1 => ?_) (fun c_1 => ?_)
  · skip
    refine lv_iconst (v := 0) hx hb dX12_in_14 (by decide) ?_
    exact x_iret (w1 := (fun _ => [])) 0 B h hr rfl (Or.inl ⟨rfl, c_1, rfl⟩) dX12_in_15
  · skip
    refine lv_iload_n hx hb dX12_in_5 rfl (lv_at hl 0 rfl) ?_
    refine lv_iload_n hx hb dX12_in_6 rfl (lv_at hl 2 rfl) ?_
    refine lv_icmp_gt (tgt := 14) hx hb dX12_in_7 (by decide) (fun c_2 => ?_) (fun c_2 => ?_)
    · skip
      refine lv_iconst (v := 0) hx hb dX12_in_14 (by decide) ?_
      exact x_iret (w1 := (fun _ => [])) 1 B h hr rfl (Or.inr (Or.inl ⟨rfl, c_1, c_2, rfl⟩)) dX12_in_15
    · skip
      refine lv_iconst (v := 1) hx hb dX12_in_10 (by decide) ?_
      refine lv_goto (tgt := 15) hx hb dX12_in_11 (by decide) ?_
      exact x_iret (w1 := (fun _ => [])) 2 B h hr rfl (Or.inr (Or.inr (⟨rfl, c_1, c_2, rfl⟩))) dX12_in_15
set_option maxHeartbeats 4000000 in
set_option maxRecDepth 100000 in
theorem k186_X12_rankOf (l : Launch) (D : va_G) (cI cJ cB cZ : ClassId) (ad bd : Nat → Nat) (p1 : Int32) : MetI l yX12_rankOf wsX12_rankOf 2 49 0 0 D (TYS cI cJ cB cZ) (WM cI cJ cB cZ bd) [.ref (bd 0), .int p1, .int 0] (fun (r : Int32) (_ : Unit) => r = 0) (fun _ => (WM cI cJ cB cZ bd)) := by
  refine x_startI (ty := .int) (cc := cX12_rankOf) (by decide) rfl (Nat.le_of_ble_eq_true rfl) ?_
  intro p e s m args below meth c A ls B hr hnm h hl
  have hx := B.1.1
  have hb := B.1.2.1
  have hml := B.1.2.2.1
  have hts := B.1.2.2.2.2
  have hown : s.vm.findClass RX12 = some m.cls := B.1.2.2.2.1
  have hl : lv_has ls 3 [(0, .ref (bd 0)), (1, .int p1), (2, .int 0)] := hl
  refine lv_iload_n hx hb dX12_rankOf_0 rfl (lv_at hl 1 rfl) ?_
  refine lv_iconst (v := 1) hx hb dX12_rankOf_1 (by decide) ?_
  refine lv_iconst (v := 4) hx hb dX12_rankOf_2 (by decide) ?_
  refine x_cSIE (n := 3) (As := [.int p1, .int 1, .int 4]) (rest := []) B h (k185_X12_in l D cI cJ cB cZ ad bd p1) ⟨⟨_, rfl⟩, by decide +kernel, Nat.le_of_ble_eq_true rfl, Nat.le_of_ble_eq_true rfl⟩ gX12_rankOf_X12_in rfl hl.1 rfl (Nat.le_of_ble_eq_true rfl) dX12_rankOf_3 ⟨Nat.le_of_ble_eq_true rfl, Nat.le_of_ble_eq_true rfl⟩ (fun r_1 u_1 H locs hp_1 h => ?_)
  rcases hp_1 with ⟨rfl, k_1_0, rfl⟩ | ⟨rfl, k_1_0, k_1_1, rfl⟩ | ⟨rfl, k_1_0, k_1_1, rfl⟩
  · skip
    have h : Hp D A s.heap (WM cI cJ cB cZ bd) H locs := h
    refine lv_if_ne (tgt := 11) hx hb dX12_rankOf_6 (by decide) (fun c_2 => absurd c_2 (by decide)) (fun c_2 => ?_)
    refine lv_iconst (v := 0) hx hb dX12_rankOf_9 (by decide) ?_
    exact x_iret (w1 := (fun _ => (WM cI cJ cB cZ bd))) () B h hr rfl rfl dX12_rankOf_10
  · skip
    have h : Hp D A s.heap (WM cI cJ cB cZ bd) H locs := h
    refine lv_if_ne (tgt := 11) hx hb dX12_rankOf_6 (by decide) (fun c_3 => absurd c_3 (by decide)) (fun c_3 => ?_)
    refine lv_iconst (v := 0) hx hb dX12_rankOf_9 (by decide) ?_
    exact x_iret (w1 := (fun _ => (WM cI cJ cB cZ bd))) () B h hr rfl rfl dX12_rankOf_10
  · skip
    have h : Hp D A s.heap (WM cI cJ cB cZ bd) H locs := h
    refine lv_if_ne (tgt := 11) hx hb dX12_rankOf_6 (by decide) (fun c_4 => ?_) (fun c_4 => absurd c_4 (by decide))
    refine lv_aload_n hx hb dX12_rankOf_11 rfl (lv_at hl 0 rfl) ?_
    refine lv_iload_n hx hb dX12_rankOf_12 rfl (lv_at hl 1 rfl) ?_
    refine lv_iload_n hx hb dX12_rankOf_13 rfl (lv_at hl 2 rfl) ?_
    have k_5 : p1 = 1 ∨ p1 = 2 ∨ p1 = 3 ∨ p1 = 4 := by simp only [Int32.lt_iff_toInt_lt, Int32.le_iff_toInt_le, ← Int32.toInt_inj, show ((1 : Int32)).toInt = 1 from by decide, show ((2 : Int32)).toInt = 2 from by decide, show ((3 : Int32)).toInt = 3 from by decide, show ((4 : Int32)).toInt = 4 from by decide] at k_1_0 k_1_1 ⊢; omega
    rcases k_5 with e_5 | e_5 | e_5 | e_5
    · skip
      obtain rfl : p1 = 1 := e_5.trans (by decide)
      refine x_cVVF (n := 2) (As := [.int 1, .int 0]) (rest := []) B h (k133_X12_laysTable l D cI cJ cB cZ ad bd) ⟨⟨_, rfl⟩, by decide +kernel, Nat.le_of_ble_eq_true rfl, Nat.le_of_ble_eq_true rfl⟩ gX12_rankOf_X12_laysTable (show ((WM cI cJ cB cZ bd) : va_W)[0]? = some (_, .inr (12, _)) from rfl) rfl rfl hl.1 rfl (Nat.le_of_ble_eq_true rfl) dX12_rankOf_14 ⟨Nat.le_of_ble_eq_true rfl, Nat.le_of_ble_eq_true rfl⟩ (fun u_6 H locs hp_6 h => ?_)
      have h : Hp D A s.heap (WM cI cJ cB cZ bd) H locs := h
      refine lv_aload_n hx hb dX12_rankOf_17 rfl (lv_at hl 0 rfl) ?_
      refine x_cVIF (n := 0) (As := []) (rest := []) B h (k134_X12_laysSteps l D cI cJ cB cZ ad bd) ⟨⟨_, rfl⟩, by decide +kernel, Nat.le_of_ble_eq_true rfl, Nat.le_of_ble_eq_true rfl⟩ gX12_rankOf_X12_laysSteps (show ((WM cI cJ cB cZ bd) : va_W)[0]? = some (_, .inr (12, _)) from rfl) rfl rfl hl.1 rfl (Nat.le_of_ble_eq_true rfl) dX12_rankOf_18 ⟨Nat.le_of_ble_eq_true rfl, Nat.le_of_ble_eq_true rfl⟩ (fun r_7 u_7 H locs hp_7 h => ?_)
      obtain rfl := hp_7
      have h : Hp D A s.heap (WM cI cJ cB cZ bd) H locs := h
      exact x_iret (w1 := (fun _ => (WM cI cJ cB cZ bd))) () B h hr rfl rfl dX12_rankOf_21
    · skip
      obtain rfl : p1 = 2 := e_5.trans (by decide)
      refine x_cVVF (n := 2) (As := [.int 2, .int 0]) (rest := []) B h (k139_X12_laysTable l D cI cJ cB cZ ad bd) ⟨⟨_, rfl⟩, by decide +kernel, Nat.le_of_ble_eq_true rfl, Nat.le_of_ble_eq_true rfl⟩ gX12_rankOf_X12_laysTable (show ((WM cI cJ cB cZ bd) : va_W)[0]? = some (_, .inr (12, _)) from rfl) rfl rfl hl.1 rfl (Nat.le_of_ble_eq_true rfl) dX12_rankOf_14 ⟨Nat.le_of_ble_eq_true rfl, Nat.le_of_ble_eq_true rfl⟩ (fun u_8 H locs hp_8 h => ?_)
      have h : Hp D A s.heap (WM cI cJ cB cZ bd) H locs := h
      refine lv_aload_n hx hb dX12_rankOf_17 rfl (lv_at hl 0 rfl) ?_
      refine x_cVIF (n := 0) (As := []) (rest := []) B h (k134_X12_laysSteps l D cI cJ cB cZ ad bd) ⟨⟨_, rfl⟩, by decide +kernel, Nat.le_of_ble_eq_true rfl, Nat.le_of_ble_eq_true rfl⟩ gX12_rankOf_X12_laysSteps (show ((WM cI cJ cB cZ bd) : va_W)[0]? = some (_, .inr (12, _)) from rfl) rfl rfl hl.1 rfl (Nat.le_of_ble_eq_true rfl) dX12_rankOf_18 ⟨Nat.le_of_ble_eq_true rfl, Nat.le_of_ble_eq_true rfl⟩ (fun r_9 u_9 H locs hp_9 h => ?_)
      obtain rfl := hp_9
      have h : Hp D A s.heap (WM cI cJ cB cZ bd) H locs := h
      exact x_iret (w1 := (fun _ => (WM cI cJ cB cZ bd))) () B h hr rfl rfl dX12_rankOf_21
    · skip
      obtain rfl : p1 = 3 := e_5.trans (by decide)
      refine x_cVVF (n := 2) (As := [.int 3, .int 0]) (rest := []) B h (k144_X12_laysTable l D cI cJ cB cZ ad bd) ⟨⟨_, rfl⟩, by decide +kernel, Nat.le_of_ble_eq_true rfl, Nat.le_of_ble_eq_true rfl⟩ gX12_rankOf_X12_laysTable (show ((WM cI cJ cB cZ bd) : va_W)[0]? = some (_, .inr (12, _)) from rfl) rfl rfl hl.1 rfl (Nat.le_of_ble_eq_true rfl) dX12_rankOf_14 ⟨Nat.le_of_ble_eq_true rfl, Nat.le_of_ble_eq_true rfl⟩ (fun u_10 H locs hp_10 h => ?_)
      have h : Hp D A s.heap (WM cI cJ cB cZ bd) H locs := h
      refine lv_aload_n hx hb dX12_rankOf_17 rfl (lv_at hl 0 rfl) ?_
      refine x_cVIF (n := 0) (As := []) (rest := []) B h (k134_X12_laysSteps l D cI cJ cB cZ ad bd) ⟨⟨_, rfl⟩, by decide +kernel, Nat.le_of_ble_eq_true rfl, Nat.le_of_ble_eq_true rfl⟩ gX12_rankOf_X12_laysSteps (show ((WM cI cJ cB cZ bd) : va_W)[0]? = some (_, .inr (12, _)) from rfl) rfl rfl hl.1 rfl (Nat.le_of_ble_eq_true rfl) dX12_rankOf_18 ⟨Nat.le_of_ble_eq_true rfl, Nat.le_of_ble_eq_true rfl⟩ (fun r_11 u_11 H locs hp_11 h => ?_)
      obtain rfl := hp_11
      have h : Hp D A s.heap (WM cI cJ cB cZ bd) H locs := h
      exact x_iret (w1 := (fun _ => (WM cI cJ cB cZ bd))) () B h hr rfl rfl dX12_rankOf_21
    · skip
      obtain rfl : p1 = 4 := e_5.trans (by decide)
      refine x_cVVF (n := 2) (As := [.int 4, .int 0]) (rest := []) B h (k149_X12_laysTable l D cI cJ cB cZ ad bd) ⟨⟨_, rfl⟩, by decide +kernel, Nat.le_of_ble_eq_true rfl, Nat.le_of_ble_eq_true rfl⟩ gX12_rankOf_X12_laysTable (show ((WM cI cJ cB cZ bd) : va_W)[0]? = some (_, .inr (12, _)) from rfl) rfl rfl hl.1 rfl (Nat.le_of_ble_eq_true rfl) dX12_rankOf_14 ⟨Nat.le_of_ble_eq_true rfl, Nat.le_of_ble_eq_true rfl⟩ (fun u_12 H locs hp_12 h => ?_)
      have h : Hp D A s.heap (WM cI cJ cB cZ bd) H locs := h
      refine lv_aload_n hx hb dX12_rankOf_17 rfl (lv_at hl 0 rfl) ?_
      refine x_cVIF (n := 0) (As := []) (rest := []) B h (k134_X12_laysSteps l D cI cJ cB cZ ad bd) ⟨⟨_, rfl⟩, by decide +kernel, Nat.le_of_ble_eq_true rfl, Nat.le_of_ble_eq_true rfl⟩ gX12_rankOf_X12_laysSteps (show ((WM cI cJ cB cZ bd) : va_W)[0]? = some (_, .inr (12, _)) from rfl) rfl rfl hl.1 rfl (Nat.le_of_ble_eq_true rfl) dX12_rankOf_18 ⟨Nat.le_of_ble_eq_true rfl, Nat.le_of_ble_eq_true rfl⟩ (fun r_13 u_13 H locs hp_13 h => ?_)
      obtain rfl := hp_13
      have h : Hp D A s.heap (WM cI cJ cB cZ bd) H locs := h
      exact x_iret (w1 := (fun _ => (WM cI cJ cB cZ bd))) () B h hr rfl rfl dX12_rankOf_21
set_option maxHeartbeats 4000000 in
set_option maxRecDepth 100000 in
theorem k187_X12_rankOf (l : Launch) (D : va_G) (cI cJ cB cZ : ClassId) (ad bd : Nat → Nat) (p1 : Int32) : MetI l yX12_rankOf wsX12_rankOf 2 49 0 0 D (TYS cI cJ cB cZ) (WM cI cJ cB cZ bd) [.ref (bd 0), .int p1, .int 1] (fun (r : Int32) (_ : Unit) => r = 0) (fun _ => (WM cI cJ cB cZ bd)) := by
  refine x_startI (ty := .int) (cc := cX12_rankOf) (by decide) rfl (Nat.le_of_ble_eq_true rfl) ?_
  intro p e s m args below meth c A ls B hr hnm h hl
  have hx := B.1.1
  have hb := B.1.2.1
  have hml := B.1.2.2.1
  have hts := B.1.2.2.2.2
  have hown : s.vm.findClass RX12 = some m.cls := B.1.2.2.2.1
  have hl : lv_has ls 3 [(0, .ref (bd 0)), (1, .int p1), (2, .int 1)] := hl
  refine lv_iload_n hx hb dX12_rankOf_0 rfl (lv_at hl 1 rfl) ?_
  refine lv_iconst (v := 1) hx hb dX12_rankOf_1 (by decide) ?_
  refine lv_iconst (v := 4) hx hb dX12_rankOf_2 (by decide) ?_
  refine x_cSIE (n := 3) (As := [.int p1, .int 1, .int 4]) (rest := []) B h (k185_X12_in l D cI cJ cB cZ ad bd p1) ⟨⟨_, rfl⟩, by decide +kernel, Nat.le_of_ble_eq_true rfl, Nat.le_of_ble_eq_true rfl⟩ gX12_rankOf_X12_in rfl hl.1 rfl (Nat.le_of_ble_eq_true rfl) dX12_rankOf_3 ⟨Nat.le_of_ble_eq_true rfl, Nat.le_of_ble_eq_true rfl⟩ (fun r_1 u_1 H locs hp_1 h => ?_)
  rcases hp_1 with ⟨rfl, k_1_0, rfl⟩ | ⟨rfl, k_1_0, k_1_1, rfl⟩ | ⟨rfl, k_1_0, k_1_1, rfl⟩
  · skip
    have h : Hp D A s.heap (WM cI cJ cB cZ bd) H locs := h
    refine lv_if_ne (tgt := 11) hx hb dX12_rankOf_6 (by decide) (fun c_2 => absurd c_2 (by decide)) (fun c_2 => ?_)
    refine lv_iconst (v := 0) hx hb dX12_rankOf_9 (by decide) ?_
    exact x_iret (w1 := (fun _ => (WM cI cJ cB cZ bd))) () B h hr rfl rfl dX12_rankOf_10
  · skip
    have h : Hp D A s.heap (WM cI cJ cB cZ bd) H locs := h
    refine lv_if_ne (tgt := 11) hx hb dX12_rankOf_6 (by decide) (fun c_3 => absurd c_3 (by decide)) (fun c_3 => ?_)
    refine lv_iconst (v := 0) hx hb dX12_rankOf_9 (by decide) ?_
    exact x_iret (w1 := (fun _ => (WM cI cJ cB cZ bd))) () B h hr rfl rfl dX12_rankOf_10
  · skip
    have h : Hp D A s.heap (WM cI cJ cB cZ bd) H locs := h
    refine lv_if_ne (tgt := 11) hx hb dX12_rankOf_6 (by decide) (fun c_4 => ?_) (fun c_4 => absurd c_4 (by decide))
    refine lv_aload_n hx hb dX12_rankOf_11 rfl (lv_at hl 0 rfl) ?_
    refine lv_iload_n hx hb dX12_rankOf_12 rfl (lv_at hl 1 rfl) ?_
    refine lv_iload_n hx hb dX12_rankOf_13 rfl (lv_at hl 2 rfl) ?_
    have k_5 : p1 = 1 ∨ p1 = 2 ∨ p1 = 3 ∨ p1 = 4 := by simp only [Int32.lt_iff_toInt_lt, Int32.le_iff_toInt_le, ← Int32.toInt_inj, show ((1 : Int32)).toInt = 1 from by decide, show ((2 : Int32)).toInt = 2 from by decide, show ((3 : Int32)).toInt = 3 from by decide, show ((4 : Int32)).toInt = 4 from by decide] at k_1_0 k_1_1 ⊢; omega
    rcases k_5 with e_5 | e_5 | e_5 | e_5
    · skip
      obtain rfl : p1 = 1 := e_5.trans (by decide)
      refine x_cVVF (n := 2) (As := [.int 1, .int 1]) (rest := []) B h (k157_X12_laysTable l D cI cJ cB cZ ad bd) ⟨⟨_, rfl⟩, by decide +kernel, Nat.le_of_ble_eq_true rfl, Nat.le_of_ble_eq_true rfl⟩ gX12_rankOf_X12_laysTable (show ((WM cI cJ cB cZ bd) : va_W)[0]? = some (_, .inr (12, _)) from rfl) rfl rfl hl.1 rfl (Nat.le_of_ble_eq_true rfl) dX12_rankOf_14 ⟨Nat.le_of_ble_eq_true rfl, Nat.le_of_ble_eq_true rfl⟩ (fun u_6 H locs hp_6 h => ?_)
      have h : Hp D A s.heap (WM cI cJ cB cZ bd) H locs := h
      refine lv_aload_n hx hb dX12_rankOf_17 rfl (lv_at hl 0 rfl) ?_
      refine x_cVIF (n := 0) (As := []) (rest := []) B h (k134_X12_laysSteps l D cI cJ cB cZ ad bd) ⟨⟨_, rfl⟩, by decide +kernel, Nat.le_of_ble_eq_true rfl, Nat.le_of_ble_eq_true rfl⟩ gX12_rankOf_X12_laysSteps (show ((WM cI cJ cB cZ bd) : va_W)[0]? = some (_, .inr (12, _)) from rfl) rfl rfl hl.1 rfl (Nat.le_of_ble_eq_true rfl) dX12_rankOf_18 ⟨Nat.le_of_ble_eq_true rfl, Nat.le_of_ble_eq_true rfl⟩ (fun r_7 u_7 H locs hp_7 h => ?_)
      obtain rfl := hp_7
      have h : Hp D A s.heap (WM cI cJ cB cZ bd) H locs := h
      exact x_iret (w1 := (fun _ => (WM cI cJ cB cZ bd))) () B h hr rfl rfl dX12_rankOf_21
    · skip
      obtain rfl : p1 = 2 := e_5.trans (by decide)
      refine x_cVVF (n := 2) (As := [.int 2, .int 1]) (rest := []) B h (k160_X12_laysTable l D cI cJ cB cZ ad bd) ⟨⟨_, rfl⟩, by decide +kernel, Nat.le_of_ble_eq_true rfl, Nat.le_of_ble_eq_true rfl⟩ gX12_rankOf_X12_laysTable (show ((WM cI cJ cB cZ bd) : va_W)[0]? = some (_, .inr (12, _)) from rfl) rfl rfl hl.1 rfl (Nat.le_of_ble_eq_true rfl) dX12_rankOf_14 ⟨Nat.le_of_ble_eq_true rfl, Nat.le_of_ble_eq_true rfl⟩ (fun u_8 H locs hp_8 h => ?_)
      have h : Hp D A s.heap (WM cI cJ cB cZ bd) H locs := h
      refine lv_aload_n hx hb dX12_rankOf_17 rfl (lv_at hl 0 rfl) ?_
      refine x_cVIF (n := 0) (As := []) (rest := []) B h (k134_X12_laysSteps l D cI cJ cB cZ ad bd) ⟨⟨_, rfl⟩, by decide +kernel, Nat.le_of_ble_eq_true rfl, Nat.le_of_ble_eq_true rfl⟩ gX12_rankOf_X12_laysSteps (show ((WM cI cJ cB cZ bd) : va_W)[0]? = some (_, .inr (12, _)) from rfl) rfl rfl hl.1 rfl (Nat.le_of_ble_eq_true rfl) dX12_rankOf_18 ⟨Nat.le_of_ble_eq_true rfl, Nat.le_of_ble_eq_true rfl⟩ (fun r_9 u_9 H locs hp_9 h => ?_)
      obtain rfl := hp_9
      have h : Hp D A s.heap (WM cI cJ cB cZ bd) H locs := h
      exact x_iret (w1 := (fun _ => (WM cI cJ cB cZ bd))) () B h hr rfl rfl dX12_rankOf_21
    · skip
      obtain rfl : p1 = 3 := e_5.trans (by decide)
      refine x_cVVF (n := 2) (As := [.int 3, .int 1]) (rest := []) B h (k163_X12_laysTable l D cI cJ cB cZ ad bd) ⟨⟨_, rfl⟩, by decide +kernel, Nat.le_of_ble_eq_true rfl, Nat.le_of_ble_eq_true rfl⟩ gX12_rankOf_X12_laysTable (show ((WM cI cJ cB cZ bd) : va_W)[0]? = some (_, .inr (12, _)) from rfl) rfl rfl hl.1 rfl (Nat.le_of_ble_eq_true rfl) dX12_rankOf_14 ⟨Nat.le_of_ble_eq_true rfl, Nat.le_of_ble_eq_true rfl⟩ (fun u_10 H locs hp_10 h => ?_)
      have h : Hp D A s.heap (WM cI cJ cB cZ bd) H locs := h
      refine lv_aload_n hx hb dX12_rankOf_17 rfl (lv_at hl 0 rfl) ?_
      refine x_cVIF (n := 0) (As := []) (rest := []) B h (k134_X12_laysSteps l D cI cJ cB cZ ad bd) ⟨⟨_, rfl⟩, by decide +kernel, Nat.le_of_ble_eq_true rfl, Nat.le_of_ble_eq_true rfl⟩ gX12_rankOf_X12_laysSteps (show ((WM cI cJ cB cZ bd) : va_W)[0]? = some (_, .inr (12, _)) from rfl) rfl rfl hl.1 rfl (Nat.le_of_ble_eq_true rfl) dX12_rankOf_18 ⟨Nat.le_of_ble_eq_true rfl, Nat.le_of_ble_eq_true rfl⟩ (fun r_11 u_11 H locs hp_11 h => ?_)
      obtain rfl := hp_11
      have h : Hp D A s.heap (WM cI cJ cB cZ bd) H locs := h
      exact x_iret (w1 := (fun _ => (WM cI cJ cB cZ bd))) () B h hr rfl rfl dX12_rankOf_21
    · skip
      obtain rfl : p1 = 4 := e_5.trans (by decide)
      refine x_cVVF (n := 2) (As := [.int 4, .int 1]) (rest := []) B h (k166_X12_laysTable l D cI cJ cB cZ ad bd) ⟨⟨_, rfl⟩, by decide +kernel, Nat.le_of_ble_eq_true rfl, Nat.le_of_ble_eq_true rfl⟩ gX12_rankOf_X12_laysTable (show ((WM cI cJ cB cZ bd) : va_W)[0]? = some (_, .inr (12, _)) from rfl) rfl rfl hl.1 rfl (Nat.le_of_ble_eq_true rfl) dX12_rankOf_14 ⟨Nat.le_of_ble_eq_true rfl, Nat.le_of_ble_eq_true rfl⟩ (fun u_12 H locs hp_12 h => ?_)
      have h : Hp D A s.heap (WM cI cJ cB cZ bd) H locs := h
      refine lv_aload_n hx hb dX12_rankOf_17 rfl (lv_at hl 0 rfl) ?_
      refine x_cVIF (n := 0) (As := []) (rest := []) B h (k134_X12_laysSteps l D cI cJ cB cZ ad bd) ⟨⟨_, rfl⟩, by decide +kernel, Nat.le_of_ble_eq_true rfl, Nat.le_of_ble_eq_true rfl⟩ gX12_rankOf_X12_laysSteps (show ((WM cI cJ cB cZ bd) : va_W)[0]? = some (_, .inr (12, _)) from rfl) rfl rfl hl.1 rfl (Nat.le_of_ble_eq_true rfl) dX12_rankOf_18 ⟨Nat.le_of_ble_eq_true rfl, Nat.le_of_ble_eq_true rfl⟩ (fun r_13 u_13 H locs hp_13 h => ?_)
      obtain rfl := hp_13
      have h : Hp D A s.heap (WM cI cJ cB cZ bd) H locs := h
      exact x_iret (w1 := (fun _ => (WM cI cJ cB cZ bd))) () B h hr rfl rfl dX12_rankOf_21
set_option maxHeartbeats 4000000 in
set_option maxRecDepth 100000 in
theorem k188_X12_torsion (l : Launch) (D : va_G) (cI cJ cB cZ : ClassId) (ad bd : Nat → Nat) (p1 : Int32) (p2 : Int32) (p3 : Int32) : MetL l yX12_torsion wsX12_torsion 3 71 0 0 D (TYS cI cJ cB cZ) (WM cI cJ cB cZ bd) [.ref (bd 0), .int p1, .int p2, .int p3] (fun (r : Int64) (u : Nat) => (u = 0 ∧ (p1 < 0) ∧ r = (-1)) ∨ (u = 1 ∧ (¬ p1 < 0) ∧ (4 < p1) ∧ r = (-1)) ∨ (u = 2 ∧ (¬ p1 < 0) ∧ (¬ 4 < p1) ∧ (p3 < 0) ∧ r = (-1)) ∨ (u = 3 ∧ (¬ p1 < 0) ∧ (¬ 4 < p1) ∧ (¬ p3 < 0) ∧ (1 < p3) ∧ r = (-1)) ∨ (u = 4 ∧ (¬ p1 < 0) ∧ (¬ 4 < p1) ∧ ((-1) ≤ p2) ∧ p3 = 0 ∧ (¬ p2 = (-1)) ∧ r = (-2)) ∨ (u = 5 ∧ (¬ p1 < 0) ∧ (¬ 4 < p1) ∧ ((-1) ≤ p2) ∧ p3 = 0 ∧ (p2 = (-1)) ∧ r = 0) ∨ (u = 6 ∧ (¬ p1 < 0) ∧ (¬ 4 < p1) ∧ ((-1) ≤ p2) ∧ p3 = 1 ∧ (¬ p2 = (-1)) ∧ r = (-2)) ∨ (u = 7 ∧ (¬ p1 < 0) ∧ (¬ 4 < p1) ∧ ((-1) ≤ p2) ∧ p3 = 1 ∧ (p2 = (-1)) ∧ r = 0) ∨ (u = 8 ∧ (¬ p1 < 0) ∧ (¬ 4 < p1) ∧ (¬ p3 < 0) ∧ (¬ 1 < p3) ∧ (¬ (-1) ≤ p2) ∧ r = (-1))) (fun _ => (WM cI cJ cB cZ bd)) := by
  refine x_startL (ty := .long) (cc := cX12_torsion) (by decide) rfl (Nat.le_of_ble_eq_true rfl) ?_
  intro p e s m args below meth c A ls B hr hnm h hl
  have hx := B.1.1
  have hb := B.1.2.1
  have hml := B.1.2.2.1
  have hts := B.1.2.2.2.2
  have hown : s.vm.findClass RX12 = some m.cls := B.1.2.2.2.1
  have hl : lv_has ls 7 [(0, .ref (bd 0)), (1, .int p1), (2, .int p2), (3, .int p3)] := hl
  refine lv_iload_n hx hb dX12_torsion_0 rfl (lv_at hl 1 rfl) ?_
  refine lv_iconst (v := 0) hx hb dX12_torsion_1 (by decide) ?_
  refine lv_iconst (v := 4) hx hb dX12_torsion_2 (by decide) ?_
  refine x_cSIE (n := 3) (As := [.int p1, .int 0, .int 4]) (rest := []) B h (k71_X12_in l D cI cJ cB cZ ad bd p1) ⟨⟨_, rfl⟩, by decide +kernel, Nat.le_of_ble_eq_true rfl, Nat.le_of_ble_eq_true rfl⟩ gX12_torsion_X12_in rfl hl.1 rfl (Nat.le_of_ble_eq_true rfl) dX12_torsion_3 ⟨Nat.le_of_ble_eq_true rfl, Nat.le_of_ble_eq_true rfl⟩ (fun r_1 u_1 H locs hp_1 h => ?_)
  rcases hp_1 with ⟨rfl, k_1_0, rfl⟩ | ⟨rfl, k_1_0, k_1_1, rfl⟩ | ⟨rfl, k_1_0, k_1_1, rfl⟩
  · skip
    have h : Hp D A s.heap (WM cI cJ cB cZ bd) H locs := h
    refine lv_if_eq (tgt := 23) hx hb dX12_torsion_6 (by decide) (fun c_2 => ?_) (fun c_2 => absurd c_2 (by decide))
    refine lv_ldc2 (v := (-1)) hx hb hown (hts (.constantLong RX12 236 (-1)) (by decide +kernel)) dX12_torsion_23 ?_
    exact x_lret (w1 := (fun _ => (WM cI cJ cB cZ bd))) 0 B h hr (Or.inl ⟨rfl, k_1_0, rfl⟩) dX12_torsion_26
  · skip
    have h : Hp D A s.heap (WM cI cJ cB cZ bd) H locs := h
    refine lv_if_eq (tgt := 23) hx hb dX12_torsion_6 (by decide) (fun c_3 => ?_) (fun c_3 => absurd c_3 (by decide))
    refine lv_ldc2 (v := (-1)) hx hb hown (hts (.constantLong RX12 236 (-1)) (by decide +kernel)) dX12_torsion_23 ?_
    exact x_lret (w1 := (fun _ => (WM cI cJ cB cZ bd))) 1 B h hr (Or.inr (Or.inl ⟨rfl, k_1_0, k_1_1, rfl⟩)) dX12_torsion_26
  · skip
    have h : Hp D A s.heap (WM cI cJ cB cZ bd) H locs := h
    refine lv_if_eq (tgt := 23) hx hb dX12_torsion_6 (by decide) (fun c_4 => absurd c_4 (by decide)) (fun c_4 => ?_)
    refine lv_iload_n hx hb dX12_torsion_9 rfl (lv_at hl 3 rfl) ?_
    refine lv_iconst (v := 0) hx hb dX12_torsion_10 (by decide) ?_
    refine lv_iconst (v := 1) hx hb dX12_torsion_11 (by decide) ?_
    refine x_cSIE (n := 3) (As := [.int p3, .int 0, .int 1]) (rest := []) B h (k126_X12_in l D cI cJ cB cZ ad bd p3) ⟨⟨_, rfl⟩, by decide +kernel, Nat.le_of_ble_eq_true rfl, Nat.le_of_ble_eq_true rfl⟩ gX12_torsion_X12_in rfl hl.1 rfl (Nat.le_of_ble_eq_true rfl) dX12_torsion_12 ⟨Nat.le_of_ble_eq_true rfl, Nat.le_of_ble_eq_true rfl⟩ (fun r_5 u_5 H locs hp_5 h => ?_)
    rcases hp_5 with ⟨rfl, k_5_0, rfl⟩ | ⟨rfl, k_5_0, k_5_1, rfl⟩ | ⟨rfl, k_5_0, k_5_1, rfl⟩
    · skip
      have h : Hp D A s.heap (WM cI cJ cB cZ bd) H locs := h
      refine lv_if_eq (tgt := 23) hx hb dX12_torsion_15 (by decide) (fun c_6 => ?_) (fun c_6 => absurd c_6 (by decide))
      refine lv_ldc2 (v := (-1)) hx hb hown (hts (.constantLong RX12 236 (-1)) (by decide +kernel)) dX12_torsion_23 ?_
      exact x_lret (w1 := (fun _ => (WM cI cJ cB cZ bd))) 2 B h hr (Or.inr (Or.inr (Or.inl ⟨rfl, k_1_0, k_1_1, k_5_0, rfl⟩))) dX12_torsion_26
    · skip
      have h : Hp D A s.heap (WM cI cJ cB cZ bd) H locs := h
      refine lv_if_eq (tgt := 23) hx hb dX12_torsion_15 (by decide) (fun c_7 => ?_) (fun c_7 => absurd c_7 (by decide))
      refine lv_ldc2 (v := (-1)) hx hb hown (hts (.constantLong RX12 236 (-1)) (by decide +kernel)) dX12_torsion_23 ?_
      exact x_lret (w1 := (fun _ => (WM cI cJ cB cZ bd))) 3 B h hr (Or.inr (Or.inr (Or.inr (Or.inl ⟨rfl, k_1_0, k_1_1, k_5_0, k_5_1, rfl⟩)))) dX12_torsion_26
    · skip
      have h : Hp D A s.heap (WM cI cJ cB cZ bd) H locs := h
      refine lv_if_eq (tgt := 23) hx hb dX12_torsion_15 (by decide) (fun c_8 => absurd c_8 (by decide)) (fun c_8 => ?_)
      refine lv_iload_n hx hb dX12_torsion_18 rfl (lv_at hl 2 rfl) ?_
      refine lv_iconst (v := (-1)) hx hb dX12_torsion_19 (by decide) ?_
      refine lv_icmp_ge (tgt := 27) hx hb dX12_torsion_20 (by decide) (fun c_9 => ?_) (fun c_9 => ?_)
      · skip
        refine lv_aload_n hx hb dX12_torsion_27 rfl (lv_at hl 0 rfl) ?_
        refine lv_iload_n hx hb dX12_torsion_28 rfl (lv_at hl 3 rfl) ?_
        have k_10 : p3 = 0 ∨ p3 = 1 := by simp only [Int32.lt_iff_toInt_lt, Int32.le_iff_toInt_le, ← Int32.toInt_inj, show ((-1 : Int32)).toInt = -1 from by decide, show ((0 : Int32)).toInt = 0 from by decide, show ((1 : Int32)).toInt = 1 from by decide, show ((4 : Int32)).toInt = 4 from by decide] at k_1_0 k_1_1 k_5_0 k_5_1 c_9 ⊢; omega
        rcases k_10 with e_10 | e_10
        · skip
          obtain rfl : p3 = 0 := e_10.trans (by decide)
          refine x_cVVF (n := 1) (As := [.int 0]) (rest := []) B h (k127_X12_takes l D cI cJ cB cZ ad bd) ⟨⟨_, rfl⟩, by decide +kernel, Nat.le_of_ble_eq_true rfl, Nat.le_of_ble_eq_true rfl⟩ gX12_torsion_X12_takes (show ((WM cI cJ cB cZ bd) : va_W)[0]? = some (_, .inr (12, _)) from rfl) rfl rfl hl.1 rfl (Nat.le_of_ble_eq_true rfl) dX12_torsion_29 ⟨Nat.le_of_ble_eq_true rfl, Nat.le_of_ble_eq_true rfl⟩ (fun u_11 H locs hp_11 h => ?_)
          have h : Hp D A s.heap (WM cI cJ cB cZ bd) H locs := h
          refine lv_aload_n hx hb dX12_torsion_32 rfl (lv_at hl 0 rfl) ?_
          refine lv_iload_n hx hb dX12_torsion_33 rfl (lv_at hl 1 rfl) ?_
          refine lv_iconst (v := 1) hx hb dX12_torsion_34 (by decide) ?_
          refine lv_iadd hx hb dX12_torsion_35 ?_
          refine lv_iload_n hx hb dX12_torsion_36 rfl (lv_at hl 3 rfl) ?_
          refine x_cVIF (n := 2) (As := [.int (p1 + 1), .int 0]) (rest := []) B h (k186_X12_rankOf l D cI cJ cB cZ ad bd ((p1 + 1))) ⟨⟨_, rfl⟩, by decide +kernel, Nat.le_of_ble_eq_true rfl, Nat.le_of_ble_eq_true rfl⟩ gX12_torsion_X12_rankOf (show ((WM cI cJ cB cZ bd) : va_W)[0]? = some (_, .inr (12, _)) from rfl) rfl rfl hl.1 rfl (Nat.le_of_ble_eq_true rfl) dX12_torsion_37 ⟨Nat.le_of_ble_eq_true rfl, Nat.le_of_ble_eq_true rfl⟩ (fun r_12 u_12 H locs hp_12 h => ?_)
          obtain rfl := hp_12
          have h : Hp D A s.heap (WM cI cJ cB cZ bd) H locs := h
          refine lv_istore (lv' := [(4, .int 0), (0, .ref (bd 0)), (1, .int p1), (2, .int p2), (3, .int 0)]) hx hb dX12_torsion_40 hl (by decide) rfl (fun ls hl => ?_)
          refine lv_iconst (v := 0) hx hb dX12_torsion_42 (by decide) ?_
          refine lv_istore (lv' := [(5, .int 0), (4, .int 0), (0, .ref (bd 0)), (1, .int p1), (2, .int p2), (3, .int 0)]) hx hb dX12_torsion_43 hl (by decide) rfl (fun ls hl => ?_)
          refine lv_iconst (v := 0) hx hb dX12_torsion_45 (by decide) ?_
          refine lv_istore (lv' := [(6, .int 0), (5, .int 0), (4, .int 0), (0, .ref (bd 0)), (1, .int p1), (2, .int p2), (3, .int 0)]) hx hb dX12_torsion_46 hl (by decide) rfl (fun ls hl => ?_)
          refine lv_iload hx hb dX12_torsion_48 (lv_at hl 0 rfl) ?_
          refine lv_iload hx hb dX12_torsion_50 (lv_at hl 2 rfl) ?_
          refine lv_icmp_ge (tgt := 90) hx hb dX12_torsion_52 (by decide) (fun c_13 => ?_) (fun c_13 => absurd c_13 (by decide))
          refine lv_iload_n hx hb dX12_torsion_90 rfl (lv_at hl 5 rfl) ?_
          refine lv_iconst (v := (-1)) hx hb dX12_torsion_91 (by decide) ?_
          refine lv_icmp_ne (tgt := 101) hx hb dX12_torsion_92 (by decide) (fun c_14 => ?_) (fun c_14 => ?_)
          · skip
            refine lv_ldc2 (v := (-2)) hx hb hown (hts (.constantLong RX12 326 (-2)) (by decide +kernel)) dX12_torsion_101 ?_
            exact x_lret (w1 := (fun _ => (WM cI cJ cB cZ bd))) 4 B h hr (Or.inr (Or.inr (Or.inr (Or.inr (Or.inl ⟨rfl, k_1_0, k_1_1, c_9, rfl, c_14, rfl⟩))))) dX12_torsion_104
          · skip
            refine lv_iload hx hb dX12_torsion_95 (lv_at hl 1 rfl) ?_
            refine lv_i2l (v := 0) hx hb dX12_torsion_97 (by decide) ?_
            refine lv_goto (tgt := 104) hx hb dX12_torsion_98 (by decide) ?_
            exact x_lret (w1 := (fun _ => (WM cI cJ cB cZ bd))) 5 B h hr (Or.inr (Or.inr (Or.inr (Or.inr (Or.inr (Or.inl ⟨rfl, k_1_0, k_1_1, c_9, rfl, c_14, rfl⟩)))))) dX12_torsion_104
        · skip
          obtain rfl : p3 = 1 := e_10.trans (by decide)
          refine x_cVVF (n := 1) (As := [.int 1]) (rest := []) B h (k155_X12_takes l D cI cJ cB cZ ad bd) ⟨⟨_, rfl⟩, by decide +kernel, Nat.le_of_ble_eq_true rfl, Nat.le_of_ble_eq_true rfl⟩ gX12_torsion_X12_takes (show ((WM cI cJ cB cZ bd) : va_W)[0]? = some (_, .inr (12, _)) from rfl) rfl rfl hl.1 rfl (Nat.le_of_ble_eq_true rfl) dX12_torsion_29 ⟨Nat.le_of_ble_eq_true rfl, Nat.le_of_ble_eq_true rfl⟩ (fun u_15 H locs hp_15 h => ?_)
          have h : Hp D A s.heap (WM cI cJ cB cZ bd) H locs := h
          refine lv_aload_n hx hb dX12_torsion_32 rfl (lv_at hl 0 rfl) ?_
          refine lv_iload_n hx hb dX12_torsion_33 rfl (lv_at hl 1 rfl) ?_
          refine lv_iconst (v := 1) hx hb dX12_torsion_34 (by decide) ?_
          refine lv_iadd hx hb dX12_torsion_35 ?_
          refine lv_iload_n hx hb dX12_torsion_36 rfl (lv_at hl 3 rfl) ?_
          refine x_cVIF (n := 2) (As := [.int (p1 + 1), .int 1]) (rest := []) B h (k187_X12_rankOf l D cI cJ cB cZ ad bd ((p1 + 1))) ⟨⟨_, rfl⟩, by decide +kernel, Nat.le_of_ble_eq_true rfl, Nat.le_of_ble_eq_true rfl⟩ gX12_torsion_X12_rankOf (show ((WM cI cJ cB cZ bd) : va_W)[0]? = some (_, .inr (12, _)) from rfl) rfl rfl hl.1 rfl (Nat.le_of_ble_eq_true rfl) dX12_torsion_37 ⟨Nat.le_of_ble_eq_true rfl, Nat.le_of_ble_eq_true rfl⟩ (fun r_16 u_16 H locs hp_16 h => ?_)
          obtain rfl := hp_16
          have h : Hp D A s.heap (WM cI cJ cB cZ bd) H locs := h
          refine lv_istore (lv' := [(4, .int 0), (0, .ref (bd 0)), (1, .int p1), (2, .int p2), (3, .int 1)]) hx hb dX12_torsion_40 hl (by decide) rfl (fun ls hl => ?_)
          refine lv_iconst (v := 0) hx hb dX12_torsion_42 (by decide) ?_
          refine lv_istore (lv' := [(5, .int 0), (4, .int 0), (0, .ref (bd 0)), (1, .int p1), (2, .int p2), (3, .int 1)]) hx hb dX12_torsion_43 hl (by decide) rfl (fun ls hl => ?_)
          refine lv_iconst (v := 0) hx hb dX12_torsion_45 (by decide) ?_
          refine lv_istore (lv' := [(6, .int 0), (5, .int 0), (4, .int 0), (0, .ref (bd 0)), (1, .int p1), (2, .int p2), (3, .int 1)]) hx hb dX12_torsion_46 hl (by decide) rfl (fun ls hl => ?_)
          refine lv_iload hx hb dX12_torsion_48 (lv_at hl 0 rfl) ?_
          refine lv_iload hx hb dX12_torsion_50 (lv_at hl 2 rfl) ?_
          refine lv_icmp_ge (tgt := 90) hx hb dX12_torsion_52 (by decide) (fun c_17 => ?_) (fun c_17 => absurd c_17 (by decide))
          refine lv_iload_n hx hb dX12_torsion_90 rfl (lv_at hl 5 rfl) ?_
          refine lv_iconst (v := (-1)) hx hb dX12_torsion_91 (by decide) ?_
          refine lv_icmp_ne (tgt := 101) hx hb dX12_torsion_92 (by decide) (fun c_18 => ?_) (fun c_18 => ?_)
          · skip
            refine lv_ldc2 (v := (-2)) hx hb hown (hts (.constantLong RX12 326 (-2)) (by decide +kernel)) dX12_torsion_101 ?_
            exact x_lret (w1 := (fun _ => (WM cI cJ cB cZ bd))) 6 B h hr (Or.inr (Or.inr (Or.inr (Or.inr (Or.inr (Or.inr (Or.inl ⟨rfl, k_1_0, k_1_1, c_9, rfl, c_18, rfl⟩))))))) dX12_torsion_104
          · skip
            refine lv_iload hx hb dX12_torsion_95 (lv_at hl 1 rfl) ?_
            refine lv_i2l (v := 0) hx hb dX12_torsion_97 (by decide) ?_
            refine lv_goto (tgt := 104) hx hb dX12_torsion_98 (by decide) ?_
            exact x_lret (w1 := (fun _ => (WM cI cJ cB cZ bd))) 7 B h hr (Or.inr (Or.inr (Or.inr (Or.inr (Or.inr (Or.inr (Or.inr (Or.inl ⟨rfl, k_1_0, k_1_1, c_9, rfl, c_18, rfl⟩)))))))) dX12_torsion_104
      · skip
        refine lv_ldc2 (v := (-1)) hx hb hown (hts (.constantLong RX12 236 (-1)) (by decide +kernel)) dX12_torsion_23 ?_
        exact x_lret (w1 := (fun _ => (WM cI cJ cB cZ bd))) 8 B h hr (Or.inr (Or.inr (Or.inr (Or.inr (Or.inr (Or.inr (Or.inr (Or.inr (⟨rfl, k_1_0, k_1_1, k_5_0, k_5_1, c_9, rfl⟩))))))))) dX12_torsion_26
set_option maxHeartbeats 4000000 in
set_option maxRecDepth 100000 in
theorem k189_X6_unpaired (l : Launch) (D : va_G) (cI cJ cB cZ : ClassId) (ad bd : Nat → Nat) : MetL l yX6_unpaired wsX6_unpaired 0 0 0 0 D (TYS cI cJ cB cZ) (WX cI cJ cB cZ ad (Matrix_minor := 1)) [.ref (ad 4)] (fun (r : Int64) (_ : Unit) => r = 0) (fun _ => (WX cI cJ cB cZ ad (Matrix_minor := 1))) := by
  refine x_startL (ty := .long) (cc := cX6_unpaired) (by decide) rfl (Nat.le_of_ble_eq_true rfl) ?_
  intro p e s m args below meth c A ls B hr hnm h hl
  have hx := B.1.1
  have hb := B.1.2.1
  have hml := B.1.2.2.1
  have hts := B.1.2.2.2.2
  have hown : s.vm.findClass RX6 = some m.cls := B.1.2.2.2.1
  have hin6 : ∀ w ∈ u_ws RX6 TX6 6, w ∈ wsX6_unpaired := by decide +kernel
  have hl : lv_has ls 1 [(0, .ref (ad 4))] := hl
  refine lv_aload_n hx hb dX6_unpaired_0 rfl (lv_at hl 0 rfl) ?_
  refine x_get (ci := 6) (C := RX6) (T := TX6) (N := 6) (v := .long 0) B h hin6 4 2 rfl rfl (by decide) (by decide +kernel) rfl dX6_unpaired_1 ?_
  refine lv_aload_n hx hb dX6_unpaired_4 rfl (lv_at hl 0 rfl) ?_
  refine x_get (ci := 6) (C := RX6) (T := TX6) (N := 6) (v := .long 0) B h hin6 4 3 rfl rfl (by decide) (by decide +kernel) rfl dX6_unpaired_5 ?_
  refine lv_aload_n hx hb dX6_unpaired_8 rfl (lv_at hl 0 rfl) ?_
  refine x_get (ci := 6) (C := RX6) (T := TX6) (N := 6) (v := .long 0) B h hin6 4 4 rfl rfl (by decide) (by decide +kernel) rfl dX6_unpaired_9 ?_
  refine lv_lor hx hb dX6_unpaired_12 ?_
  refine lv_topl (fun v_1 ev_1 => ?_)
  obtain rfl : v_1 = 0 := ev_1.trans (by decide)
  refine lv_ldc2 (v := (-1)) hx hb hown (hts (.constantLong RX6 43 (-1)) (by decide +kernel)) dX6_unpaired_13 ?_
  refine lv_lxor hx hb dX6_unpaired_16 ?_
  refine lv_topl (fun v_2 ev_2 => ?_)
  obtain rfl : v_2 = (-1) := ev_2.trans (by decide)
  refine lv_land hx hb dX6_unpaired_17 ?_
  refine lv_topl (fun v_3 ev_3 => ?_)
  obtain rfl : v_3 = 0 := ev_3.trans (by decide)
  exact x_lret (w1 := (fun _ => (WX cI cJ cB cZ ad (Matrix_minor := 1)))) () B h hr rfl dX6_unpaired_18
set_option maxHeartbeats 4000000 in
set_option maxRecDepth 100000 in
theorem k190_X0_rankOf (l : Launch) (D : va_G) (cI cJ cB cZ : ClassId) (ad bd : Nat → Nat) : MetI l yX0_rankOf wsX0_rankOf 2 89 0 0 D (TYS cI cJ cB cZ) (WX cI cJ cB cZ ad (Matrix_minor := 1)) [.ref (ad 8), .long 0, .int 1, .int 0] (fun (r : Int32) (_ : Unit) => r = 0) (fun _ => (WX cI cJ cB cZ ad (Matrix_minor := 1))) := by
  refine x_startI (ty := .int) (cc := cX0_rankOf) (by decide) rfl (Nat.le_of_ble_eq_true rfl) ?_
  intro p e s m args below meth c A ls B hr hnm h hl
  have hx := B.1.1
  have hb := B.1.2.1
  have hml := B.1.2.2.1
  have hts := B.1.2.2.2.2
  have hown : s.vm.findClass RX0 = some m.cls := B.1.2.2.2.1
  have hin0 : ∀ w ∈ u_ws RX0 TX0 4, w ∈ wsX0_rankOf := by decide +kernel
  have hin9 : ∀ w ∈ u_ws RX9 TX9 7, w ∈ wsX0_rankOf := by decide +kernel
  have hl : lv_has ls 5 [(0, .ref (ad 8)), (1, .long 0), (3, .int 1), (4, .int 0)] := hl
  refine lv_iload_n hx hb dX0_rankOf_0 rfl (lv_at hl 2 rfl) ?_
  refine lv_iconst (v := 1) hx hb dX0_rankOf_1 (by decide) ?_
  refine lv_icmp_lt (tgt := 10) hx hb dX0_rankOf_2 (by decide) (fun c_1 => absurd c_1 (by decide)) (fun c_1 => ?_)
  refine lv_iload_n hx hb dX0_rankOf_5 rfl (lv_at hl 2 rfl) ?_
  refine lv_iconst (v := 5) hx hb dX0_rankOf_6 (by decide) ?_
  refine lv_icmp_lt (tgt := 12) hx hb dX0_rankOf_7 (by decide) (fun c_2 => ?_) (fun c_2 => absurd c_2 (by decide))
  refine lv_aload_n hx hb dX0_rankOf_12 rfl (lv_at hl 0 rfl) ?_
  refine lv_lload_n hx hb dX0_rankOf_13 rfl (lv_at hl 1 rfl) ?_
  refine lv_aload_n hx hb dX0_rankOf_14 rfl (lv_at hl 0 rfl) ?_
  refine x_get (ci := 0) (C := RX0) (T := TX0) (N := 4) (v := .ref (ad 3)) B h hin0 8 0 rfl rfl (by decide) (by decide +kernel) rfl dX0_rankOf_15 ?_
  refine x_get (ci := 9) (C := RX9) (T := TX9) (N := 7) (v := .ref (ad 19)) B h hin9 3 6 rfl rfl (by decide) (by decide +kernel) rfl dX0_rankOf_18 ?_
  refine lv_iload_n hx hb dX0_rankOf_21 rfl (lv_at hl 2 rfl) ?_
  refine va_lald hx hb B.2.1 h.1 19 1 rfl rfl (vp_in_iff.mpr (by decide)) dX0_rankOf_22 ?_
  refine lv_topl (fun v_3 ev_3 => ?_)
  obtain rfl : v_3 = 0 := ev_3
  refine lv_land hx hb dX0_rankOf_23 ?_
  refine lv_topl (fun v_4 ev_4 => ?_)
  obtain rfl : v_4 = 0 := ev_4.trans (by decide)
  refine lv_lload_n hx hb dX0_rankOf_24 rfl (lv_at hl 1 rfl) ?_
  refine lv_aload_n hx hb dX0_rankOf_25 rfl (lv_at hl 0 rfl) ?_
  refine x_get (ci := 0) (C := RX0) (T := TX0) (N := 4) (v := .ref (ad 3)) B h hin0 8 0 rfl rfl (by decide) (by decide +kernel) rfl dX0_rankOf_26 ?_
  refine x_get (ci := 9) (C := RX9) (T := TX9) (N := 7) (v := .ref (ad 19)) B h hin9 3 6 rfl rfl (by decide) (by decide +kernel) rfl dX0_rankOf_29 ?_
  refine lv_iload_n hx hb dX0_rankOf_32 rfl (lv_at hl 2 rfl) ?_
  refine lv_iconst (v := 1) hx hb dX0_rankOf_33 (by decide) ?_
  refine lv_isub hx hb dX0_rankOf_34 ?_
  refine lv_topi (fun v_5 ev_5 => ?_)
  obtain rfl : v_5 = 0 := ev_5.trans (by decide)
  refine va_lald hx hb B.2.1 h.1 19 1 rfl rfl (vp_in_iff.mpr (by decide)) dX0_rankOf_35 ?_
  refine lv_topl (fun v_6 ev_6 => ?_)
  obtain rfl : v_6 = 0 := ev_6
  refine lv_land hx hb dX0_rankOf_36 ?_
  refine lv_topl (fun v_7 ev_7 => ?_)
  obtain rfl : v_7 = 0 := ev_7.trans (by decide)
  refine lv_iload hx hb dX0_rankOf_37 (lv_at hl 3 rfl) ?_
  refine x_cVVF (n := 3) (As := [.long 0, .long 0, .int 0]) (rest := []) B h (k95_X0_fill l D cI cJ cB cZ ad bd) ⟨⟨_, rfl⟩, by decide +kernel, Nat.le_of_ble_eq_true rfl, Nat.le_of_ble_eq_true rfl⟩ gX0_rankOf_X0_fill (show ((WX cI cJ cB cZ ad (Matrix_minor := 1)) : va_W)[8]? = some (_, .inr (0, _)) from rfl) rfl rfl hl.1 rfl (Nat.le_of_ble_eq_true rfl) dX0_rankOf_39 ⟨Nat.le_of_ble_eq_true rfl, Nat.le_of_ble_eq_true rfl⟩ (fun u_8 H locs hp_8 h => ?_)
  have h : Hp D A s.heap (WX cI cJ cB cZ ad (Matrix_minor := 1)) H locs := h
  refine lv_aload_n hx hb dX0_rankOf_42 rfl (lv_at hl 0 rfl) ?_
  refine x_get (ci := 0) (C := RX0) (T := TX0) (N := 4) (v := .ref (ad 11)) B h hin0 8 2 rfl rfl (by decide) (by decide +kernel) rfl dX0_rankOf_43 ?_
  refine x_cVIF (n := 0) (As := []) (rest := []) B h (k96_X5_eliminate l D cI cJ cB cZ ad bd) ⟨⟨_, rfl⟩, by decide +kernel, Nat.le_of_ble_eq_true rfl, Nat.le_of_ble_eq_true rfl⟩ gX0_rankOf_X5_eliminate (show ((WX cI cJ cB cZ ad (Matrix_minor := 1)) : va_W)[11]? = some (_, .inr (5, _)) from rfl) rfl rfl hl.1 rfl (Nat.le_of_ble_eq_true rfl) dX0_rankOf_46 ⟨Nat.le_of_ble_eq_true rfl, Nat.le_of_ble_eq_true rfl⟩ (fun r_9 u_9 H locs hp_9 h => ?_)
  obtain rfl := hp_9
  have h : Hp D A s.heap (WX cI cJ cB cZ ad (Matrix_minor := 1)) H locs := h
  exact x_iret (w1 := (fun _ => (WX cI cJ cB cZ ad (Matrix_minor := 1)))) () B h hr rfl rfl dX0_rankOf_49
set_option maxHeartbeats 4000000 in
set_option maxRecDepth 100000 in
theorem k191_X0_bettiOf (l : Launch) (D : va_G) (cI cJ cB cZ : ClassId) (ad bd : Nat → Nat) : MetI l yX0_bettiOf wsX0_bettiOf 3 113 0 0 D (TYS cI cJ cB cZ) (WX cI cJ cB cZ ad (Matrix_minor := 1)) [.ref (ad 8), .long 0, .int 1, .int 0] (fun (r : Int32) (_ : Unit) => r = 0) (fun _ => (WX cI cJ cB cZ ad (Matrix_minor := 1))) := by
  refine x_startI (ty := .int) (cc := cX0_bettiOf) (by decide) rfl (Nat.le_of_ble_eq_true rfl) ?_
  intro p e s m args below meth c A ls B hr hnm h hl
  have hx := B.1.1
  have hb := B.1.2.1
  have hml := B.1.2.2.1
  have hts := B.1.2.2.2.2
  have hown : s.vm.findClass RX0 = some m.cls := B.1.2.2.2.1
  have hin0 : ∀ w ∈ u_ws RX0 TX0 4, w ∈ wsX0_bettiOf := by decide +kernel
  have hin9 : ∀ w ∈ u_ws RX9 TX9 7, w ∈ wsX0_bettiOf := by decide +kernel
  have hl : lv_has ls 6 [(0, .ref (ad 8)), (1, .long 0), (3, .int 1), (4, .int 0)] := hl
  refine lv_lload_n hx hb dX0_bettiOf_0 rfl (lv_at hl 1 rfl) ?_
  refine lv_aload_n hx hb dX0_bettiOf_1 rfl (lv_at hl 0 rfl) ?_
  refine x_get (ci := 0) (C := RX0) (T := TX0) (N := 4) (v := .ref (ad 3)) B h hin0 8 0 rfl rfl (by decide) (by decide +kernel) rfl dX0_bettiOf_2 ?_
  refine x_get (ci := 9) (C := RX9) (T := TX9) (N := 7) (v := .ref (ad 19)) B h hin9 3 6 rfl rfl (by decide) (by decide +kernel) rfl dX0_bettiOf_5 ?_
  refine lv_iload_n hx hb dX0_bettiOf_8 rfl (lv_at hl 2 rfl) ?_
  refine va_lald hx hb B.2.1 h.1 19 1 rfl rfl (vp_in_iff.mpr (by decide)) dX0_bettiOf_9 ?_
  refine lv_topl (fun v_1 ev_1 => ?_)
  obtain rfl : v_1 = 0 := ev_1
  refine lv_land hx hb dX0_bettiOf_10 ?_
  refine lv_topl (fun v_2 ev_2 => ?_)
  obtain rfl : v_2 = 0 := ev_2.trans (by decide)
  refine x_cSIE (n := 1) (As := [.long 0]) (rest := []) B h (k65_J13_bitCount_95d88 l D cI cJ cB cZ ad bd) ⟨⟨_, rfl⟩, by decide +kernel, Nat.le_of_ble_eq_true rfl, Nat.le_of_ble_eq_true rfl⟩ gX0_bettiOf_J13_bitCount_95d88 rfl hl.1 rfl (Nat.le_of_ble_eq_true rfl) dX0_bettiOf_11 ⟨Nat.le_of_ble_eq_true rfl, Nat.le_of_ble_eq_true rfl⟩ (fun r_3 u_3 H locs hp_3 h => ?_)
  obtain rfl := hp_3
  have h : Hp D A s.heap (WX cI cJ cB cZ ad (Matrix_minor := 1)) H locs := h
  refine lv_istore (lv' := [(5, .int 0), (0, .ref (ad 8)), (1, .long 0), (3, .int 1), (4, .int 0)]) hx hb dX0_bettiOf_14 hl (by decide) rfl (fun ls hl => ?_)
  refine lv_iload hx hb dX0_bettiOf_16 (lv_at hl 0 rfl) ?_
  refine lv_aload_n hx hb dX0_bettiOf_18 rfl (lv_at hl 1 rfl) ?_
  refine lv_lload_n hx hb dX0_bettiOf_19 rfl (lv_at hl 2 rfl) ?_
  refine lv_iload_n hx hb dX0_bettiOf_20 rfl (lv_at hl 3 rfl) ?_
  refine lv_iload hx hb dX0_bettiOf_21 (lv_at hl 4 rfl) ?_
  refine x_cVIF (n := 3) (As := [.long 0, .int 1, .int 0]) (rest := [.int 0]) B h (k190_X0_rankOf l D cI cJ cB cZ ad bd) ⟨⟨_, rfl⟩, by decide +kernel, Nat.le_of_ble_eq_true rfl, Nat.le_of_ble_eq_true rfl⟩ gX0_bettiOf_X0_rankOf (show ((WX cI cJ cB cZ ad (Matrix_minor := 1)) : va_W)[8]? = some (_, .inr (0, _)) from rfl) rfl rfl hl.1 rfl (Nat.le_of_ble_eq_true rfl) dX0_bettiOf_23 ⟨Nat.le_of_ble_eq_true rfl, Nat.le_of_ble_eq_true rfl⟩ (fun r_4 u_4 H locs hp_4 h => ?_)
  obtain rfl := hp_4
  have h : Hp D A s.heap (WX cI cJ cB cZ ad (Matrix_minor := 1)) H locs := h
  refine lv_isub hx hb dX0_bettiOf_26 ?_
  refine lv_topi (fun v_5 ev_5 => ?_)
  obtain rfl : v_5 = 0 := ev_5.trans (by decide)
  refine lv_aload_n hx hb dX0_bettiOf_27 rfl (lv_at hl 1 rfl) ?_
  refine lv_lload_n hx hb dX0_bettiOf_28 rfl (lv_at hl 2 rfl) ?_
  refine lv_iload_n hx hb dX0_bettiOf_29 rfl (lv_at hl 3 rfl) ?_
  refine lv_iconst (v := 1) hx hb dX0_bettiOf_30 (by decide) ?_
  refine lv_iadd hx hb dX0_bettiOf_31 ?_
  refine lv_topi (fun v_6 ev_6 => ?_)
  obtain rfl : v_6 = 2 := ev_6.trans (by decide)
  refine lv_iload hx hb dX0_bettiOf_32 (lv_at hl 4 rfl) ?_
  refine x_cVIF (n := 3) (As := [.long 0, .int 2, .int 0]) (rest := [.int 0]) B h (k97_X0_rankOf l D cI cJ cB cZ ad bd) ⟨⟨_, rfl⟩, by decide +kernel, Nat.le_of_ble_eq_true rfl, Nat.le_of_ble_eq_true rfl⟩ gX0_bettiOf_X0_rankOf (show ((WX cI cJ cB cZ ad (Matrix_minor := 1)) : va_W)[8]? = some (_, .inr (0, _)) from rfl) rfl rfl hl.1 rfl (Nat.le_of_ble_eq_true rfl) dX0_bettiOf_34 ⟨Nat.le_of_ble_eq_true rfl, Nat.le_of_ble_eq_true rfl⟩ (fun r_7 u_7 H locs hp_7 h => ?_)
  obtain rfl := hp_7
  have h : Hp D A s.heap (WX cI cJ cB cZ ad (Matrix_minor := 1)) H locs := h
  refine lv_isub hx hb dX0_bettiOf_37 ?_
  refine lv_topi (fun v_8 ev_8 => ?_)
  obtain rfl : v_8 = 0 := ev_8.trans (by decide)
  exact x_iret (w1 := (fun _ => (WX cI cJ cB cZ ad (Matrix_minor := 1)))) () B h hr rfl rfl dX0_bettiOf_38
set_option maxHeartbeats 4000000 in
set_option maxRecDepth 100000 in
theorem k192_X0_bettiOf (l : Launch) (D : va_G) (cI cJ cB cZ : ClassId) (ad bd : Nat → Nat) : MetI l yX0_bettiOf wsX0_bettiOf 3 113 0 0 D (TYS cI cJ cB cZ) (WX cI cJ cB cZ ad (Matrix_minor := 1)) [.ref (ad 8), .long 0, .int 2, .int 0] (fun (r : Int32) (_ : Unit) => r = 0) (fun _ => (WX cI cJ cB cZ ad (Matrix_minor := 1))) := by
  refine x_startI (ty := .int) (cc := cX0_bettiOf) (by decide) rfl (Nat.le_of_ble_eq_true rfl) ?_
  intro p e s m args below meth c A ls B hr hnm h hl
  have hx := B.1.1
  have hb := B.1.2.1
  have hml := B.1.2.2.1
  have hts := B.1.2.2.2.2
  have hown : s.vm.findClass RX0 = some m.cls := B.1.2.2.2.1
  have hin0 : ∀ w ∈ u_ws RX0 TX0 4, w ∈ wsX0_bettiOf := by decide +kernel
  have hin9 : ∀ w ∈ u_ws RX9 TX9 7, w ∈ wsX0_bettiOf := by decide +kernel
  have hl : lv_has ls 6 [(0, .ref (ad 8)), (1, .long 0), (3, .int 2), (4, .int 0)] := hl
  refine lv_lload_n hx hb dX0_bettiOf_0 rfl (lv_at hl 1 rfl) ?_
  refine lv_aload_n hx hb dX0_bettiOf_1 rfl (lv_at hl 0 rfl) ?_
  refine x_get (ci := 0) (C := RX0) (T := TX0) (N := 4) (v := .ref (ad 3)) B h hin0 8 0 rfl rfl (by decide) (by decide +kernel) rfl dX0_bettiOf_2 ?_
  refine x_get (ci := 9) (C := RX9) (T := TX9) (N := 7) (v := .ref (ad 19)) B h hin9 3 6 rfl rfl (by decide) (by decide +kernel) rfl dX0_bettiOf_5 ?_
  refine lv_iload_n hx hb dX0_bettiOf_8 rfl (lv_at hl 2 rfl) ?_
  refine va_lald hx hb B.2.1 h.1 19 1 rfl rfl (vp_in_iff.mpr (by decide)) dX0_bettiOf_9 ?_
  refine lv_topl (fun v_1 ev_1 => ?_)
  obtain rfl : v_1 = 0 := ev_1
  refine lv_land hx hb dX0_bettiOf_10 ?_
  refine lv_topl (fun v_2 ev_2 => ?_)
  obtain rfl : v_2 = 0 := ev_2.trans (by decide)
  refine x_cSIE (n := 1) (As := [.long 0]) (rest := []) B h (k65_J13_bitCount_95d88 l D cI cJ cB cZ ad bd) ⟨⟨_, rfl⟩, by decide +kernel, Nat.le_of_ble_eq_true rfl, Nat.le_of_ble_eq_true rfl⟩ gX0_bettiOf_J13_bitCount_95d88 rfl hl.1 rfl (Nat.le_of_ble_eq_true rfl) dX0_bettiOf_11 ⟨Nat.le_of_ble_eq_true rfl, Nat.le_of_ble_eq_true rfl⟩ (fun r_3 u_3 H locs hp_3 h => ?_)
  obtain rfl := hp_3
  have h : Hp D A s.heap (WX cI cJ cB cZ ad (Matrix_minor := 1)) H locs := h
  refine lv_istore (lv' := [(5, .int 0), (0, .ref (ad 8)), (1, .long 0), (3, .int 2), (4, .int 0)]) hx hb dX0_bettiOf_14 hl (by decide) rfl (fun ls hl => ?_)
  refine lv_iload hx hb dX0_bettiOf_16 (lv_at hl 0 rfl) ?_
  refine lv_aload_n hx hb dX0_bettiOf_18 rfl (lv_at hl 1 rfl) ?_
  refine lv_lload_n hx hb dX0_bettiOf_19 rfl (lv_at hl 2 rfl) ?_
  refine lv_iload_n hx hb dX0_bettiOf_20 rfl (lv_at hl 3 rfl) ?_
  refine lv_iload hx hb dX0_bettiOf_21 (lv_at hl 4 rfl) ?_
  refine x_cVIF (n := 3) (As := [.long 0, .int 2, .int 0]) (rest := [.int 0]) B h (k97_X0_rankOf l D cI cJ cB cZ ad bd) ⟨⟨_, rfl⟩, by decide +kernel, Nat.le_of_ble_eq_true rfl, Nat.le_of_ble_eq_true rfl⟩ gX0_bettiOf_X0_rankOf (show ((WX cI cJ cB cZ ad (Matrix_minor := 1)) : va_W)[8]? = some (_, .inr (0, _)) from rfl) rfl rfl hl.1 rfl (Nat.le_of_ble_eq_true rfl) dX0_bettiOf_23 ⟨Nat.le_of_ble_eq_true rfl, Nat.le_of_ble_eq_true rfl⟩ (fun r_4 u_4 H locs hp_4 h => ?_)
  obtain rfl := hp_4
  have h : Hp D A s.heap (WX cI cJ cB cZ ad (Matrix_minor := 1)) H locs := h
  refine lv_isub hx hb dX0_bettiOf_26 ?_
  refine lv_topi (fun v_5 ev_5 => ?_)
  obtain rfl : v_5 = 0 := ev_5.trans (by decide)
  refine lv_aload_n hx hb dX0_bettiOf_27 rfl (lv_at hl 1 rfl) ?_
  refine lv_lload_n hx hb dX0_bettiOf_28 rfl (lv_at hl 2 rfl) ?_
  refine lv_iload_n hx hb dX0_bettiOf_29 rfl (lv_at hl 3 rfl) ?_
  refine lv_iconst (v := 1) hx hb dX0_bettiOf_30 (by decide) ?_
  refine lv_iadd hx hb dX0_bettiOf_31 ?_
  refine lv_topi (fun v_6 ev_6 => ?_)
  obtain rfl : v_6 = 3 := ev_6.trans (by decide)
  refine lv_iload hx hb dX0_bettiOf_32 (lv_at hl 4 rfl) ?_
  refine x_cVIF (n := 3) (As := [.long 0, .int 3, .int 0]) (rest := [.int 0]) B h (k100_X0_rankOf l D cI cJ cB cZ ad bd) ⟨⟨_, rfl⟩, by decide +kernel, Nat.le_of_ble_eq_true rfl, Nat.le_of_ble_eq_true rfl⟩ gX0_bettiOf_X0_rankOf (show ((WX cI cJ cB cZ ad (Matrix_minor := 1)) : va_W)[8]? = some (_, .inr (0, _)) from rfl) rfl rfl hl.1 rfl (Nat.le_of_ble_eq_true rfl) dX0_bettiOf_34 ⟨Nat.le_of_ble_eq_true rfl, Nat.le_of_ble_eq_true rfl⟩ (fun r_7 u_7 H locs hp_7 h => ?_)
  obtain rfl := hp_7
  have h : Hp D A s.heap (WX cI cJ cB cZ ad (Matrix_minor := 1)) H locs := h
  refine lv_isub hx hb dX0_bettiOf_37 ?_
  refine lv_topi (fun v_8 ev_8 => ?_)
  obtain rfl : v_8 = 0 := ev_8.trans (by decide)
  exact x_iret (w1 := (fun _ => (WX cI cJ cB cZ ad (Matrix_minor := 1)))) () B h hr rfl rfl dX0_bettiOf_38
set_option maxHeartbeats 4000000 in
set_option maxRecDepth 100000 in
theorem k193_X0_bettiOf (l : Launch) (D : va_G) (cI cJ cB cZ : ClassId) (ad bd : Nat → Nat) : MetI l yX0_bettiOf wsX0_bettiOf 3 113 0 0 D (TYS cI cJ cB cZ) (WX cI cJ cB cZ ad (Matrix_minor := 1)) [.ref (ad 8), .long 0, .int 3, .int 0] (fun (r : Int32) (_ : Unit) => r = 0) (fun _ => (WX cI cJ cB cZ ad (Matrix_minor := 1))) := by
  refine x_startI (ty := .int) (cc := cX0_bettiOf) (by decide) rfl (Nat.le_of_ble_eq_true rfl) ?_
  intro p e s m args below meth c A ls B hr hnm h hl
  have hx := B.1.1
  have hb := B.1.2.1
  have hml := B.1.2.2.1
  have hts := B.1.2.2.2.2
  have hown : s.vm.findClass RX0 = some m.cls := B.1.2.2.2.1
  have hin0 : ∀ w ∈ u_ws RX0 TX0 4, w ∈ wsX0_bettiOf := by decide +kernel
  have hin9 : ∀ w ∈ u_ws RX9 TX9 7, w ∈ wsX0_bettiOf := by decide +kernel
  have hl : lv_has ls 6 [(0, .ref (ad 8)), (1, .long 0), (3, .int 3), (4, .int 0)] := hl
  refine lv_lload_n hx hb dX0_bettiOf_0 rfl (lv_at hl 1 rfl) ?_
  refine lv_aload_n hx hb dX0_bettiOf_1 rfl (lv_at hl 0 rfl) ?_
  refine x_get (ci := 0) (C := RX0) (T := TX0) (N := 4) (v := .ref (ad 3)) B h hin0 8 0 rfl rfl (by decide) (by decide +kernel) rfl dX0_bettiOf_2 ?_
  refine x_get (ci := 9) (C := RX9) (T := TX9) (N := 7) (v := .ref (ad 19)) B h hin9 3 6 rfl rfl (by decide) (by decide +kernel) rfl dX0_bettiOf_5 ?_
  refine lv_iload_n hx hb dX0_bettiOf_8 rfl (lv_at hl 2 rfl) ?_
  refine va_lald hx hb B.2.1 h.1 19 1 rfl rfl (vp_in_iff.mpr (by decide)) dX0_bettiOf_9 ?_
  refine lv_topl (fun v_1 ev_1 => ?_)
  obtain rfl : v_1 = 0 := ev_1
  refine lv_land hx hb dX0_bettiOf_10 ?_
  refine lv_topl (fun v_2 ev_2 => ?_)
  obtain rfl : v_2 = 0 := ev_2.trans (by decide)
  refine x_cSIE (n := 1) (As := [.long 0]) (rest := []) B h (k65_J13_bitCount_95d88 l D cI cJ cB cZ ad bd) ⟨⟨_, rfl⟩, by decide +kernel, Nat.le_of_ble_eq_true rfl, Nat.le_of_ble_eq_true rfl⟩ gX0_bettiOf_J13_bitCount_95d88 rfl hl.1 rfl (Nat.le_of_ble_eq_true rfl) dX0_bettiOf_11 ⟨Nat.le_of_ble_eq_true rfl, Nat.le_of_ble_eq_true rfl⟩ (fun r_3 u_3 H locs hp_3 h => ?_)
  obtain rfl := hp_3
  have h : Hp D A s.heap (WX cI cJ cB cZ ad (Matrix_minor := 1)) H locs := h
  refine lv_istore (lv' := [(5, .int 0), (0, .ref (ad 8)), (1, .long 0), (3, .int 3), (4, .int 0)]) hx hb dX0_bettiOf_14 hl (by decide) rfl (fun ls hl => ?_)
  refine lv_iload hx hb dX0_bettiOf_16 (lv_at hl 0 rfl) ?_
  refine lv_aload_n hx hb dX0_bettiOf_18 rfl (lv_at hl 1 rfl) ?_
  refine lv_lload_n hx hb dX0_bettiOf_19 rfl (lv_at hl 2 rfl) ?_
  refine lv_iload_n hx hb dX0_bettiOf_20 rfl (lv_at hl 3 rfl) ?_
  refine lv_iload hx hb dX0_bettiOf_21 (lv_at hl 4 rfl) ?_
  refine x_cVIF (n := 3) (As := [.long 0, .int 3, .int 0]) (rest := [.int 0]) B h (k100_X0_rankOf l D cI cJ cB cZ ad bd) ⟨⟨_, rfl⟩, by decide +kernel, Nat.le_of_ble_eq_true rfl, Nat.le_of_ble_eq_true rfl⟩ gX0_bettiOf_X0_rankOf (show ((WX cI cJ cB cZ ad (Matrix_minor := 1)) : va_W)[8]? = some (_, .inr (0, _)) from rfl) rfl rfl hl.1 rfl (Nat.le_of_ble_eq_true rfl) dX0_bettiOf_23 ⟨Nat.le_of_ble_eq_true rfl, Nat.le_of_ble_eq_true rfl⟩ (fun r_4 u_4 H locs hp_4 h => ?_)
  obtain rfl := hp_4
  have h : Hp D A s.heap (WX cI cJ cB cZ ad (Matrix_minor := 1)) H locs := h
  refine lv_isub hx hb dX0_bettiOf_26 ?_
  refine lv_topi (fun v_5 ev_5 => ?_)
  obtain rfl : v_5 = 0 := ev_5.trans (by decide)
  refine lv_aload_n hx hb dX0_bettiOf_27 rfl (lv_at hl 1 rfl) ?_
  refine lv_lload_n hx hb dX0_bettiOf_28 rfl (lv_at hl 2 rfl) ?_
  refine lv_iload_n hx hb dX0_bettiOf_29 rfl (lv_at hl 3 rfl) ?_
  refine lv_iconst (v := 1) hx hb dX0_bettiOf_30 (by decide) ?_
  refine lv_iadd hx hb dX0_bettiOf_31 ?_
  refine lv_topi (fun v_6 ev_6 => ?_)
  obtain rfl : v_6 = 4 := ev_6.trans (by decide)
  refine lv_iload hx hb dX0_bettiOf_32 (lv_at hl 4 rfl) ?_
  refine x_cVIF (n := 3) (As := [.long 0, .int 4, .int 0]) (rest := [.int 0]) B h (k103_X0_rankOf l D cI cJ cB cZ ad bd) ⟨⟨_, rfl⟩, by decide +kernel, Nat.le_of_ble_eq_true rfl, Nat.le_of_ble_eq_true rfl⟩ gX0_bettiOf_X0_rankOf (show ((WX cI cJ cB cZ ad (Matrix_minor := 1)) : va_W)[8]? = some (_, .inr (0, _)) from rfl) rfl rfl hl.1 rfl (Nat.le_of_ble_eq_true rfl) dX0_bettiOf_34 ⟨Nat.le_of_ble_eq_true rfl, Nat.le_of_ble_eq_true rfl⟩ (fun r_7 u_7 H locs hp_7 h => ?_)
  obtain rfl := hp_7
  have h : Hp D A s.heap (WX cI cJ cB cZ ad (Matrix_minor := 1)) H locs := h
  refine lv_isub hx hb dX0_bettiOf_37 ?_
  refine lv_topi (fun v_8 ev_8 => ?_)
  obtain rfl : v_8 = 0 := ev_8.trans (by decide)
  exact x_iret (w1 := (fun _ => (WX cI cJ cB cZ ad (Matrix_minor := 1)))) () B h hr rfl rfl dX0_bettiOf_38
set_option maxHeartbeats 4000000 in
set_option maxRecDepth 100000 in
theorem k194_X0_bettiOf (l : Launch) (D : va_G) (cI cJ cB cZ : ClassId) (ad bd : Nat → Nat) : MetI l yX0_bettiOf wsX0_bettiOf 3 113 0 0 D (TYS cI cJ cB cZ) (WX cI cJ cB cZ ad (Matrix_minor := 1)) [.ref (ad 8), .long 0, .int 4, .int 0] (fun (r : Int32) (_ : Unit) => r = 0) (fun _ => (WX cI cJ cB cZ ad (Matrix_minor := 1))) := by
  refine x_startI (ty := .int) (cc := cX0_bettiOf) (by decide) rfl (Nat.le_of_ble_eq_true rfl) ?_
  intro p e s m args below meth c A ls B hr hnm h hl
  have hx := B.1.1
  have hb := B.1.2.1
  have hml := B.1.2.2.1
  have hts := B.1.2.2.2.2
  have hown : s.vm.findClass RX0 = some m.cls := B.1.2.2.2.1
  have hin0 : ∀ w ∈ u_ws RX0 TX0 4, w ∈ wsX0_bettiOf := by decide +kernel
  have hin9 : ∀ w ∈ u_ws RX9 TX9 7, w ∈ wsX0_bettiOf := by decide +kernel
  have hl : lv_has ls 6 [(0, .ref (ad 8)), (1, .long 0), (3, .int 4), (4, .int 0)] := hl
  refine lv_lload_n hx hb dX0_bettiOf_0 rfl (lv_at hl 1 rfl) ?_
  refine lv_aload_n hx hb dX0_bettiOf_1 rfl (lv_at hl 0 rfl) ?_
  refine x_get (ci := 0) (C := RX0) (T := TX0) (N := 4) (v := .ref (ad 3)) B h hin0 8 0 rfl rfl (by decide) (by decide +kernel) rfl dX0_bettiOf_2 ?_
  refine x_get (ci := 9) (C := RX9) (T := TX9) (N := 7) (v := .ref (ad 19)) B h hin9 3 6 rfl rfl (by decide) (by decide +kernel) rfl dX0_bettiOf_5 ?_
  refine lv_iload_n hx hb dX0_bettiOf_8 rfl (lv_at hl 2 rfl) ?_
  refine va_lald hx hb B.2.1 h.1 19 1 rfl rfl (vp_in_iff.mpr (by decide)) dX0_bettiOf_9 ?_
  refine lv_topl (fun v_1 ev_1 => ?_)
  obtain rfl : v_1 = 0 := ev_1
  refine lv_land hx hb dX0_bettiOf_10 ?_
  refine lv_topl (fun v_2 ev_2 => ?_)
  obtain rfl : v_2 = 0 := ev_2.trans (by decide)
  refine x_cSIE (n := 1) (As := [.long 0]) (rest := []) B h (k65_J13_bitCount_95d88 l D cI cJ cB cZ ad bd) ⟨⟨_, rfl⟩, by decide +kernel, Nat.le_of_ble_eq_true rfl, Nat.le_of_ble_eq_true rfl⟩ gX0_bettiOf_J13_bitCount_95d88 rfl hl.1 rfl (Nat.le_of_ble_eq_true rfl) dX0_bettiOf_11 ⟨Nat.le_of_ble_eq_true rfl, Nat.le_of_ble_eq_true rfl⟩ (fun r_3 u_3 H locs hp_3 h => ?_)
  obtain rfl := hp_3
  have h : Hp D A s.heap (WX cI cJ cB cZ ad (Matrix_minor := 1)) H locs := h
  refine lv_istore (lv' := [(5, .int 0), (0, .ref (ad 8)), (1, .long 0), (3, .int 4), (4, .int 0)]) hx hb dX0_bettiOf_14 hl (by decide) rfl (fun ls hl => ?_)
  refine lv_iload hx hb dX0_bettiOf_16 (lv_at hl 0 rfl) ?_
  refine lv_aload_n hx hb dX0_bettiOf_18 rfl (lv_at hl 1 rfl) ?_
  refine lv_lload_n hx hb dX0_bettiOf_19 rfl (lv_at hl 2 rfl) ?_
  refine lv_iload_n hx hb dX0_bettiOf_20 rfl (lv_at hl 3 rfl) ?_
  refine lv_iload hx hb dX0_bettiOf_21 (lv_at hl 4 rfl) ?_
  refine x_cVIF (n := 3) (As := [.long 0, .int 4, .int 0]) (rest := [.int 0]) B h (k103_X0_rankOf l D cI cJ cB cZ ad bd) ⟨⟨_, rfl⟩, by decide +kernel, Nat.le_of_ble_eq_true rfl, Nat.le_of_ble_eq_true rfl⟩ gX0_bettiOf_X0_rankOf (show ((WX cI cJ cB cZ ad (Matrix_minor := 1)) : va_W)[8]? = some (_, .inr (0, _)) from rfl) rfl rfl hl.1 rfl (Nat.le_of_ble_eq_true rfl) dX0_bettiOf_23 ⟨Nat.le_of_ble_eq_true rfl, Nat.le_of_ble_eq_true rfl⟩ (fun r_4 u_4 H locs hp_4 h => ?_)
  obtain rfl := hp_4
  have h : Hp D A s.heap (WX cI cJ cB cZ ad (Matrix_minor := 1)) H locs := h
  refine lv_isub hx hb dX0_bettiOf_26 ?_
  refine lv_topi (fun v_5 ev_5 => ?_)
  obtain rfl : v_5 = 0 := ev_5.trans (by decide)
  refine lv_aload_n hx hb dX0_bettiOf_27 rfl (lv_at hl 1 rfl) ?_
  refine lv_lload_n hx hb dX0_bettiOf_28 rfl (lv_at hl 2 rfl) ?_
  refine lv_iload_n hx hb dX0_bettiOf_29 rfl (lv_at hl 3 rfl) ?_
  refine lv_iconst (v := 1) hx hb dX0_bettiOf_30 (by decide) ?_
  refine lv_iadd hx hb dX0_bettiOf_31 ?_
  refine lv_topi (fun v_6 ev_6 => ?_)
  obtain rfl : v_6 = 5 := ev_6.trans (by decide)
  refine lv_iload hx hb dX0_bettiOf_32 (lv_at hl 4 rfl) ?_
  refine x_cVIF (n := 3) (As := [.long 0, .int 5, .int 0]) (rest := [.int 0]) B h (k106_X0_rankOf l D cI cJ cB cZ ad bd) ⟨⟨_, rfl⟩, by decide +kernel, Nat.le_of_ble_eq_true rfl, Nat.le_of_ble_eq_true rfl⟩ gX0_bettiOf_X0_rankOf (show ((WX cI cJ cB cZ ad (Matrix_minor := 1)) : va_W)[8]? = some (_, .inr (0, _)) from rfl) rfl rfl hl.1 rfl (Nat.le_of_ble_eq_true rfl) dX0_bettiOf_34 ⟨Nat.le_of_ble_eq_true rfl, Nat.le_of_ble_eq_true rfl⟩ (fun r_7 u_7 H locs hp_7 h => ?_)
  obtain rfl := hp_7
  have h : Hp D A s.heap (WX cI cJ cB cZ ad (Matrix_minor := 1)) H locs := h
  refine lv_isub hx hb dX0_bettiOf_37 ?_
  refine lv_topi (fun v_8 ev_8 => ?_)
  obtain rfl : v_8 = 0 := ev_8.trans (by decide)
  exact x_iret (w1 := (fun _ => (WX cI cJ cB cZ ad (Matrix_minor := 1)))) () B h hr rfl rfl dX0_bettiOf_38
set_option maxHeartbeats 4000000 in
set_option maxRecDepth 100000 in
theorem k195_X11_slack (l : Launch) (D : va_G) (cI cJ cB cZ : ClassId) (ad bd : Nat → Nat) (p1 : Int32) : MetI l yX11_slack wsX11_slack 4 138 0 0 D (TYS cI cJ cB cZ) (WX cI cJ cB cZ ad) [.ref (ad 0), .int p1] (fun (r : Int32) (u : Nat) => (u = 0 ∧ (p1 < 0) ∧ r = (-2147483648)) ∨ (u = 1 ∧ (¬ p1 < 0) ∧ (5 ≤ p1) ∧ r = (-2147483648)) ∨ (u = 2 ∧ (¬ p1 < 0) ∧ (¬ 5 ≤ p1) ∧ (¬ p1 < 0) ∧ (p1 < 1) ∧ r = 0) ∨ (u = 3 ∧ (¬ p1 < 0) ∧ (¬ 5 ≤ p1) ∧ (¬ p1 < 0) ∧ (¬ p1 < 1) ∧ (p1 < 2) ∧ r = 0) ∨ (u = 4 ∧ (¬ p1 < 0) ∧ (¬ 5 ≤ p1) ∧ (¬ p1 < 0) ∧ (¬ p1 < 1) ∧ (¬ p1 < 2) ∧ (p1 < 3) ∧ r = 0) ∨ (u = 5 ∧ (¬ p1 < 0) ∧ (¬ 5 ≤ p1) ∧ (¬ p1 < 0) ∧ (¬ p1 < 1) ∧ (¬ p1 < 2) ∧ (¬ p1 < 3) ∧ (p1 < 4) ∧ r = 0) ∨ (u = 6 ∧ (¬ p1 < 0) ∧ (¬ 5 ≤ p1) ∧ (¬ p1 < 0) ∧ (¬ p1 < 1) ∧ (¬ p1 < 2) ∧ (¬ p1 < 3) ∧ (¬ p1 < 4) ∧ (p1 < 5) ∧ r = 0)) (fun u : Nat => match u with | 0 => (WX cI cJ cB cZ ad) | 1 => (WX cI cJ cB cZ ad) | 2 => (WX cI cJ cB cZ ad (Matrix_minor := 1)) | 3 => (WX cI cJ cB cZ ad (Matrix_minor := 1)) | 4 => (WX cI cJ cB cZ ad (Matrix_minor := 1)) | 5 => (WX cI cJ cB cZ ad (Matrix_minor := 1)) | _ => (WX cI cJ cB cZ ad (Matrix_minor := 1))) := by
  refine x_startI (ty := .int) (cc := cX11_slack) (by decide) rfl (Nat.le_of_ble_eq_true rfl) ?_
  intro p e s m args below meth c A ls B hr hnm h hl
  have hx := B.1.1
  have hb := B.1.2.1
  have hml := B.1.2.2.1
  have hts := B.1.2.2.2.2
  have hown : s.vm.findClass RX11 = some m.cls := B.1.2.2.2.1
  have hin6 : ∀ w ∈ u_ws RX6 TX6 6, w ∈ wsX11_slack := by decide +kernel
  have hin9 : ∀ w ∈ u_ws RX9 TX9 7, w ∈ wsX11_slack := by decide +kernel
  have hin11 : ∀ w ∈ u_ws RX11 TX11 11, w ∈ wsX11_slack := by decide +kernel
  have hl : lv_has ls 5 [(0, .ref (ad 0)), (1, .int p1)] := hl
  refine lv_iload_n hx hb dX11_slack_0 rfl (lv_at hl 1 rfl) ?_
  refine x_cSIE (n := 1) (As := [.int p1]) (rest := []) B h (k63_X11_isDim l D cI cJ cB cZ ad bd p1) ⟨⟨_, rfl⟩, by decide +kernel, Nat.le_of_ble_eq_true rfl, Nat.le_of_ble_eq_true rfl⟩ gX11_slack_X11_isDim rfl hl.1 rfl (Nat.le_of_ble_eq_true rfl) dX11_slack_1 ⟨Nat.le_of_ble_eq_true rfl, Nat.le_of_ble_eq_true rfl⟩ (fun r_1 u_1 H locs hp_1 h => ?_)
  rcases hp_1 with ⟨rfl, k_1_0, rfl⟩ | ⟨rfl, k_1_0, k_1_1, rfl⟩ | ⟨rfl, k_1_0, k_1_1, rfl⟩
  · skip
    have h : Hp D A s.heap (WX cI cJ cB cZ ad) H locs := h
    refine lv_if_ne (tgt := 10) hx hb dX11_slack_4 (by decide) (fun c_2 => absurd c_2 (by decide)) (fun c_2 => ?_)
    refine lv_ldc (v := (-2147483648)) hx hb hown (hts (.constant RX11 160 (-2147483648)) (by decide +kernel)) dX11_slack_7 ?_
    exact x_iret (w1 := (fun u : Nat => match u with | 0 => (WX cI cJ cB cZ ad) | 1 => (WX cI cJ cB cZ ad) | 2 => (WX cI cJ cB cZ ad (Matrix_minor := 1)) | 3 => (WX cI cJ cB cZ ad (Matrix_minor := 1)) | 4 => (WX cI cJ cB cZ ad (Matrix_minor := 1)) | 5 => (WX cI cJ cB cZ ad (Matrix_minor := 1)) | _ => (WX cI cJ cB cZ ad (Matrix_minor := 1)))) 0 B h hr rfl (Or.inl ⟨rfl, k_1_0, rfl⟩) dX11_slack_9
  · skip
    have h : Hp D A s.heap (WX cI cJ cB cZ ad) H locs := h
    refine lv_if_ne (tgt := 10) hx hb dX11_slack_4 (by decide) (fun c_3 => absurd c_3 (by decide)) (fun c_3 => ?_)
    refine lv_ldc (v := (-2147483648)) hx hb hown (hts (.constant RX11 160 (-2147483648)) (by decide +kernel)) dX11_slack_7 ?_
    exact x_iret (w1 := (fun u : Nat => match u with | 0 => (WX cI cJ cB cZ ad) | 1 => (WX cI cJ cB cZ ad) | 2 => (WX cI cJ cB cZ ad (Matrix_minor := 1)) | 3 => (WX cI cJ cB cZ ad (Matrix_minor := 1)) | 4 => (WX cI cJ cB cZ ad (Matrix_minor := 1)) | 5 => (WX cI cJ cB cZ ad (Matrix_minor := 1)) | _ => (WX cI cJ cB cZ ad (Matrix_minor := 1)))) 1 B h hr rfl (Or.inr (Or.inl ⟨rfl, k_1_0, k_1_1, rfl⟩)) dX11_slack_9
  · skip
    have h : Hp D A s.heap (WX cI cJ cB cZ ad) H locs := h
    refine lv_if_ne (tgt := 10) hx hb dX11_slack_4 (by decide) (fun c_4 => ?_) (fun c_4 => absurd c_4 (by decide))
    refine lv_iconst (v := 0) hx hb dX11_slack_10 (by decide) ?_
    refine lv_istore_n (lv' := [(2, .int 0), (0, .ref (ad 0)), (1, .int p1)]) hx hb dX11_slack_11 rfl hl (by decide) rfl (fun ls hl => ?_)
    refine lv_iconst (v := 0) hx hb dX11_slack_12 (by decide) ?_
    refine lv_istore_n (lv' := [(3, .int 0), (2, .int 0), (0, .ref (ad 0)), (1, .int p1)]) hx hb dX11_slack_13 rfl hl (by decide) rfl (fun ls hl => ?_)
    refine lv_iload_n hx hb dX11_slack_14 rfl (lv_at hl 0 rfl) ?_
    refine lv_iload_n hx hb dX11_slack_15 rfl (lv_at hl 3 rfl) ?_
    refine lv_icmp_gt (tgt := 69) hx hb dX11_slack_16 (by decide) (fun c_5 => absurd c_5 (by simp only [Int32.lt_iff_toInt_lt, Int32.le_iff_toInt_le, ← Int32.toInt_inj, show ((0 : Int32)).toInt = 0 from by decide, show ((5 : Int32)).toInt = 5 from by decide] at k_1_0 k_1_1 ⊢; omega)) (fun c_5 => ?_)
    refine lv_aload_n hx hb dX11_slack_19 rfl (lv_at hl 2 rfl) ?_
    refine x_get (ci := 11) (C := RX11) (T := TX11) (N := 11) (v := .ref (ad 4)) B h hin11 0 3 rfl rfl (by decide) (by decide +kernel) rfl dX11_slack_20 ?_
    refine x_cVLF (n := 0) (As := []) (rest := []) B h (k64_X6_unpaired l D cI cJ cB cZ ad bd) ⟨⟨_, rfl⟩, by decide +kernel, Nat.le_of_ble_eq_true rfl, Nat.le_of_ble_eq_true rfl⟩ gX11_slack_X6_unpaired (show ((WX cI cJ cB cZ ad) : va_W)[4]? = some (_, .inr (6, _)) from rfl) rfl rfl hl.1 rfl (Nat.le_of_ble_eq_true rfl) dX11_slack_23 ⟨Nat.le_of_ble_eq_true rfl, Nat.le_of_ble_eq_true rfl⟩ (fun r_6 u_6 H locs hp_6 h => ?_)
    obtain rfl := hp_6
    have h : Hp D A s.heap (WX cI cJ cB cZ ad) H locs := h
    refine lv_aload_n hx hb dX11_slack_26 rfl (lv_at hl 2 rfl) ?_
    refine x_get (ci := 11) (C := RX11) (T := TX11) (N := 11) (v := .ref (ad 3)) B h hin11 0 2 rfl rfl (by decide) (by decide +kernel) rfl dX11_slack_27 ?_
    refine x_get (ci := 9) (C := RX9) (T := TX9) (N := 7) (v := .ref (ad 19)) B h hin9 3 6 rfl rfl (by decide) (by decide +kernel) rfl dX11_slack_30 ?_
    refine lv_iload_n hx hb dX11_slack_33 rfl (lv_at hl 0 rfl) ?_
    refine va_lald hx hb B.2.1 h.1 19 1 rfl rfl (vp_in_iff.mpr (by decide)) dX11_slack_34 ?_
    refine lv_topl (fun v_7 ev_7 => ?_)
    obtain rfl : v_7 = 0 := ev_7
    refine lv_land hx hb dX11_slack_35 ?_
    refine lv_topl (fun v_8 ev_8 => ?_)
    obtain rfl : v_8 = 0 := ev_8.trans (by decide)
    refine x_cSIE (n := 1) (As := [.long 0]) (rest := []) B h (k65_J13_bitCount_95d88 l D cI cJ cB cZ ad bd) ⟨⟨_, rfl⟩, by decide +kernel, Nat.le_of_ble_eq_true rfl, Nat.le_of_ble_eq_true rfl⟩ gX11_slack_J13_bitCount_95d88 rfl hl.1 rfl (Nat.le_of_ble_eq_true rfl) dX11_slack_36 ⟨Nat.le_of_ble_eq_true rfl, Nat.le_of_ble_eq_true rfl⟩ (fun r_9 u_9 H locs hp_9 h => ?_)
    obtain rfl := hp_9
    have h : Hp D A s.heap (WX cI cJ cB cZ ad) H locs := h
    refine lv_istore (lv' := [(4, .int 0), (3, .int 0), (2, .int 0), (0, .ref (ad 0)), (1, .int p1)]) hx hb dX11_slack_39 hl (by decide) rfl (fun ls hl => ?_)
    refine lv_iload hx hb dX11_slack_41 (lv_at hl 0 rfl) ?_
    refine lv_aload_n hx hb dX11_slack_43 rfl (lv_at hl 3 rfl) ?_
    refine x_get (ci := 11) (C := RX11) (T := TX11) (N := 11) (v := .ref (ad 8)) B h hin11 0 7 rfl rfl (by decide) (by decide +kernel) rfl dX11_slack_44 ?_
    refine lv_aload_n hx hb dX11_slack_47 rfl (lv_at hl 3 rfl) ?_
    refine x_get (ci := 11) (C := RX11) (T := TX11) (N := 11) (v := .ref (ad 4)) B h hin11 0 3 rfl rfl (by decide) (by decide +kernel) rfl dX11_slack_48 ?_
    refine x_get (ci := 6) (C := RX6) (T := TX6) (N := 6) (v := .long 0) B h hin6 4 2 rfl rfl (by decide) (by decide +kernel) rfl dX11_slack_51 ?_
    refine lv_iload_n hx hb dX11_slack_54 rfl (lv_at hl 1 rfl) ?_
    refine lv_iconst (v := 0) hx hb dX11_slack_55 (by decide) ?_
    refine x_cVIF (n := 3) (As := [.long 0, .int 0, .int 0]) (rest := [.int 0]) B h (k93_X0_bettiOf l D cI cJ cB cZ ad bd) ⟨⟨_, rfl⟩, by decide +kernel, Nat.le_of_ble_eq_true rfl, Nat.le_of_ble_eq_true rfl⟩ gX11_slack_X0_bettiOf (show ((WX cI cJ cB cZ ad) : va_W)[8]? = some (_, .inr (0, _)) from rfl) rfl rfl hl.1 rfl (Nat.le_of_ble_eq_true rfl) dX11_slack_56 ⟨Nat.le_of_ble_eq_true rfl, Nat.le_of_ble_eq_true rfl⟩ (fun r_10 u_10 H locs hp_10 h => ?_)
    obtain rfl := hp_10
    have h : Hp D A s.heap (WX cI cJ cB cZ ad (Matrix_minor := 1)) H locs := h
    refine lv_isub hx hb dX11_slack_59 ?_
    refine lv_topi (fun v_11 ev_11 => ?_)
    obtain rfl : v_11 = 0 := ev_11.trans (by decide)
    refine lv_iload_n hx hb dX11_slack_60 rfl (lv_at hl 2 rfl) ?_
    refine lv_isub hx hb dX11_slack_61 ?_
    refine lv_topi (fun v_12 ev_12 => ?_)
    obtain rfl : v_12 = 0 := ev_12.trans (by decide)
    refine lv_istore_n (lv' := [(2, .int 0), (4, .int 0), (3, .int 0), (0, .ref (ad 0)), (1, .int p1)]) hx hb dX11_slack_62 rfl hl (by decide) rfl (fun ls hl => ?_)
    refine lv_iinc (v := 1) (lv' := [(3, .int 1), (2, .int 0), (4, .int 0), (0, .ref (ad 0)), (1, .int p1)]) hx hb dX11_slack_63 hl (k := 2) rfl (by decide) (by decide) rfl (fun ls hl => ?_)
    refine lv_goto (tgt := 14) hx hb dX11_slack_66 (by decide) ?_
    refine lv_iload_n hx hb dX11_slack_14 rfl (lv_at hl 0 rfl) ?_
    refine lv_iload_n hx hb dX11_slack_15 rfl (lv_at hl 4 rfl) ?_
    refine lv_icmp_gt (tgt := 69) hx hb dX11_slack_16 (by decide) (fun c_13 => ?_) (fun c_13 => ?_)
    · skip
      refine lv_iload_n hx hb dX11_slack_69 rfl (lv_at hl 1 rfl) ?_
      exact x_iret (w1 := (fun u : Nat => match u with | 0 => (WX cI cJ cB cZ ad) | 1 => (WX cI cJ cB cZ ad) | 2 => (WX cI cJ cB cZ ad (Matrix_minor := 1)) | 3 => (WX cI cJ cB cZ ad (Matrix_minor := 1)) | 4 => (WX cI cJ cB cZ ad (Matrix_minor := 1)) | 5 => (WX cI cJ cB cZ ad (Matrix_minor := 1)) | _ => (WX cI cJ cB cZ ad (Matrix_minor := 1)))) 2 B h hr rfl (Or.inr (Or.inr (Or.inl ⟨rfl, k_1_0, k_1_1, c_5, c_13, rfl⟩))) dX11_slack_70
    · skip
      refine lv_aload_n hx hb dX11_slack_19 rfl (lv_at hl 3 rfl) ?_
      refine x_get (ci := 11) (C := RX11) (T := TX11) (N := 11) (v := .ref (ad 4)) B h hin11 0 3 rfl rfl (by decide) (by decide +kernel) rfl dX11_slack_20 ?_
      refine x_cVLF (n := 0) (As := []) (rest := []) B h (k189_X6_unpaired l D cI cJ cB cZ ad bd) ⟨⟨_, rfl⟩, by decide +kernel, Nat.le_of_ble_eq_true rfl, Nat.le_of_ble_eq_true rfl⟩ gX11_slack_X6_unpaired (show ((WX cI cJ cB cZ ad (Matrix_minor := 1)) : va_W)[4]? = some (_, .inr (6, _)) from rfl) rfl rfl hl.1 rfl (Nat.le_of_ble_eq_true rfl) dX11_slack_23 ⟨Nat.le_of_ble_eq_true rfl, Nat.le_of_ble_eq_true rfl⟩ (fun r_14 u_14 H locs hp_14 h => ?_)
      obtain rfl := hp_14
      have h : Hp D A s.heap (WX cI cJ cB cZ ad (Matrix_minor := 1)) H locs := h
      refine lv_aload_n hx hb dX11_slack_26 rfl (lv_at hl 3 rfl) ?_
      refine x_get (ci := 11) (C := RX11) (T := TX11) (N := 11) (v := .ref (ad 3)) B h hin11 0 2 rfl rfl (by decide) (by decide +kernel) rfl dX11_slack_27 ?_
      refine x_get (ci := 9) (C := RX9) (T := TX9) (N := 7) (v := .ref (ad 19)) B h hin9 3 6 rfl rfl (by decide) (by decide +kernel) rfl dX11_slack_30 ?_
      refine lv_iload_n hx hb dX11_slack_33 rfl (lv_at hl 0 rfl) ?_
      refine va_lald hx hb B.2.1 h.1 19 1 rfl rfl (vp_in_iff.mpr (by decide)) dX11_slack_34 ?_
      refine lv_topl (fun v_15 ev_15 => ?_)
      obtain rfl : v_15 = 0 := ev_15
      refine lv_land hx hb dX11_slack_35 ?_
      refine lv_topl (fun v_16 ev_16 => ?_)
      obtain rfl : v_16 = 0 := ev_16.trans (by decide)
      refine x_cSIE (n := 1) (As := [.long 0]) (rest := []) B h (k65_J13_bitCount_95d88 l D cI cJ cB cZ ad bd) ⟨⟨_, rfl⟩, by decide +kernel, Nat.le_of_ble_eq_true rfl, Nat.le_of_ble_eq_true rfl⟩ gX11_slack_J13_bitCount_95d88 rfl hl.1 rfl (Nat.le_of_ble_eq_true rfl) dX11_slack_36 ⟨Nat.le_of_ble_eq_true rfl, Nat.le_of_ble_eq_true rfl⟩ (fun r_17 u_17 H locs hp_17 h => ?_)
      obtain rfl := hp_17
      have h : Hp D A s.heap (WX cI cJ cB cZ ad (Matrix_minor := 1)) H locs := h
      refine lv_istore (lv' := [(4, .int 0), (3, .int 1), (2, .int 0), (0, .ref (ad 0)), (1, .int p1)]) hx hb dX11_slack_39 hl (by decide) rfl (fun ls hl => ?_)
      refine lv_iload hx hb dX11_slack_41 (lv_at hl 0 rfl) ?_
      refine lv_aload_n hx hb dX11_slack_43 rfl (lv_at hl 3 rfl) ?_
      refine x_get (ci := 11) (C := RX11) (T := TX11) (N := 11) (v := .ref (ad 8)) B h hin11 0 7 rfl rfl (by decide) (by decide +kernel) rfl dX11_slack_44 ?_
      refine lv_aload_n hx hb dX11_slack_47 rfl (lv_at hl 3 rfl) ?_
      refine x_get (ci := 11) (C := RX11) (T := TX11) (N := 11) (v := .ref (ad 4)) B h hin11 0 3 rfl rfl (by decide) (by decide +kernel) rfl dX11_slack_48 ?_
      refine x_get (ci := 6) (C := RX6) (T := TX6) (N := 6) (v := .long 0) B h hin6 4 2 rfl rfl (by decide) (by decide +kernel) rfl dX11_slack_51 ?_
      refine lv_iload_n hx hb dX11_slack_54 rfl (lv_at hl 1 rfl) ?_
      refine lv_iconst (v := 0) hx hb dX11_slack_55 (by decide) ?_
      refine x_cVIF (n := 3) (As := [.long 0, .int 1, .int 0]) (rest := [.int 0]) B h (k191_X0_bettiOf l D cI cJ cB cZ ad bd) ⟨⟨_, rfl⟩, by decide +kernel, Nat.le_of_ble_eq_true rfl, Nat.le_of_ble_eq_true rfl⟩ gX11_slack_X0_bettiOf (show ((WX cI cJ cB cZ ad (Matrix_minor := 1)) : va_W)[8]? = some (_, .inr (0, _)) from rfl) rfl rfl hl.1 rfl (Nat.le_of_ble_eq_true rfl) dX11_slack_56 ⟨Nat.le_of_ble_eq_true rfl, Nat.le_of_ble_eq_true rfl⟩ (fun r_18 u_18 H locs hp_18 h => ?_)
      obtain rfl := hp_18
      have h : Hp D A s.heap (WX cI cJ cB cZ ad (Matrix_minor := 1)) H locs := h
      refine lv_isub hx hb dX11_slack_59 ?_
      refine lv_topi (fun v_19 ev_19 => ?_)
      obtain rfl : v_19 = 0 := ev_19.trans (by decide)
      refine lv_iload_n hx hb dX11_slack_60 rfl (lv_at hl 2 rfl) ?_
      refine lv_isub hx hb dX11_slack_61 ?_
      refine lv_topi (fun v_20 ev_20 => ?_)
      obtain rfl : v_20 = 0 := ev_20.trans (by decide)
      refine lv_istore_n (lv' := [(2, .int 0), (4, .int 0), (3, .int 1), (0, .ref (ad 0)), (1, .int p1)]) hx hb dX11_slack_62 rfl hl (by decide) rfl (fun ls hl => ?_)
      refine lv_iinc (v := 2) (lv' := [(3, .int 2), (2, .int 0), (4, .int 0), (0, .ref (ad 0)), (1, .int p1)]) hx hb dX11_slack_63 hl (k := 2) rfl (by decide) (by decide) rfl (fun ls hl => ?_)
      refine lv_goto (tgt := 14) hx hb dX11_slack_66 (by decide) ?_
      refine lv_iload_n hx hb dX11_slack_14 rfl (lv_at hl 0 rfl) ?_
      refine lv_iload_n hx hb dX11_slack_15 rfl (lv_at hl 4 rfl) ?_
      refine lv_icmp_gt (tgt := 69) hx hb dX11_slack_16 (by decide) (fun c_21 => ?_) (fun c_21 => ?_)
      · skip
        refine lv_iload_n hx hb dX11_slack_69 rfl (lv_at hl 1 rfl) ?_
        exact x_iret (w1 := (fun u : Nat => match u with | 0 => (WX cI cJ cB cZ ad) | 1 => (WX cI cJ cB cZ ad) | 2 => (WX cI cJ cB cZ ad (Matrix_minor := 1)) | 3 => (WX cI cJ cB cZ ad (Matrix_minor := 1)) | 4 => (WX cI cJ cB cZ ad (Matrix_minor := 1)) | 5 => (WX cI cJ cB cZ ad (Matrix_minor := 1)) | _ => (WX cI cJ cB cZ ad (Matrix_minor := 1)))) 3 B h hr rfl (Or.inr (Or.inr (Or.inr (Or.inl ⟨rfl, k_1_0, k_1_1, c_5, c_13, c_21, rfl⟩)))) dX11_slack_70
      · skip
        refine lv_aload_n hx hb dX11_slack_19 rfl (lv_at hl 3 rfl) ?_
        refine x_get (ci := 11) (C := RX11) (T := TX11) (N := 11) (v := .ref (ad 4)) B h hin11 0 3 rfl rfl (by decide) (by decide +kernel) rfl dX11_slack_20 ?_
        refine x_cVLF (n := 0) (As := []) (rest := []) B h (k189_X6_unpaired l D cI cJ cB cZ ad bd) ⟨⟨_, rfl⟩, by decide +kernel, Nat.le_of_ble_eq_true rfl, Nat.le_of_ble_eq_true rfl⟩ gX11_slack_X6_unpaired (show ((WX cI cJ cB cZ ad (Matrix_minor := 1)) : va_W)[4]? = some (_, .inr (6, _)) from rfl) rfl rfl hl.1 rfl (Nat.le_of_ble_eq_true rfl) dX11_slack_23 ⟨Nat.le_of_ble_eq_true rfl, Nat.le_of_ble_eq_true rfl⟩ (fun r_22 u_22 H locs hp_22 h => ?_)
        obtain rfl := hp_22
        have h : Hp D A s.heap (WX cI cJ cB cZ ad (Matrix_minor := 1)) H locs := h
        refine lv_aload_n hx hb dX11_slack_26 rfl (lv_at hl 3 rfl) ?_
        refine x_get (ci := 11) (C := RX11) (T := TX11) (N := 11) (v := .ref (ad 3)) B h hin11 0 2 rfl rfl (by decide) (by decide +kernel) rfl dX11_slack_27 ?_
        refine x_get (ci := 9) (C := RX9) (T := TX9) (N := 7) (v := .ref (ad 19)) B h hin9 3 6 rfl rfl (by decide) (by decide +kernel) rfl dX11_slack_30 ?_
        refine lv_iload_n hx hb dX11_slack_33 rfl (lv_at hl 0 rfl) ?_
        refine va_lald hx hb B.2.1 h.1 19 1 rfl rfl (vp_in_iff.mpr (by decide)) dX11_slack_34 ?_
        refine lv_topl (fun v_23 ev_23 => ?_)
        obtain rfl : v_23 = 0 := ev_23
        refine lv_land hx hb dX11_slack_35 ?_
        refine lv_topl (fun v_24 ev_24 => ?_)
        obtain rfl : v_24 = 0 := ev_24.trans (by decide)
        refine x_cSIE (n := 1) (As := [.long 0]) (rest := []) B h (k65_J13_bitCount_95d88 l D cI cJ cB cZ ad bd) ⟨⟨_, rfl⟩, by decide +kernel, Nat.le_of_ble_eq_true rfl, Nat.le_of_ble_eq_true rfl⟩ gX11_slack_J13_bitCount_95d88 rfl hl.1 rfl (Nat.le_of_ble_eq_true rfl) dX11_slack_36 ⟨Nat.le_of_ble_eq_true rfl, Nat.le_of_ble_eq_true rfl⟩ (fun r_25 u_25 H locs hp_25 h => ?_)
        obtain rfl := hp_25
        have h : Hp D A s.heap (WX cI cJ cB cZ ad (Matrix_minor := 1)) H locs := h
        refine lv_istore (lv' := [(4, .int 0), (3, .int 2), (2, .int 0), (0, .ref (ad 0)), (1, .int p1)]) hx hb dX11_slack_39 hl (by decide) rfl (fun ls hl => ?_)
        refine lv_iload hx hb dX11_slack_41 (lv_at hl 0 rfl) ?_
        refine lv_aload_n hx hb dX11_slack_43 rfl (lv_at hl 3 rfl) ?_
        refine x_get (ci := 11) (C := RX11) (T := TX11) (N := 11) (v := .ref (ad 8)) B h hin11 0 7 rfl rfl (by decide) (by decide +kernel) rfl dX11_slack_44 ?_
        refine lv_aload_n hx hb dX11_slack_47 rfl (lv_at hl 3 rfl) ?_
        refine x_get (ci := 11) (C := RX11) (T := TX11) (N := 11) (v := .ref (ad 4)) B h hin11 0 3 rfl rfl (by decide) (by decide +kernel) rfl dX11_slack_48 ?_
        refine x_get (ci := 6) (C := RX6) (T := TX6) (N := 6) (v := .long 0) B h hin6 4 2 rfl rfl (by decide) (by decide +kernel) rfl dX11_slack_51 ?_
        refine lv_iload_n hx hb dX11_slack_54 rfl (lv_at hl 1 rfl) ?_
        refine lv_iconst (v := 0) hx hb dX11_slack_55 (by decide) ?_
        refine x_cVIF (n := 3) (As := [.long 0, .int 2, .int 0]) (rest := [.int 0]) B h (k192_X0_bettiOf l D cI cJ cB cZ ad bd) ⟨⟨_, rfl⟩, by decide +kernel, Nat.le_of_ble_eq_true rfl, Nat.le_of_ble_eq_true rfl⟩ gX11_slack_X0_bettiOf (show ((WX cI cJ cB cZ ad (Matrix_minor := 1)) : va_W)[8]? = some (_, .inr (0, _)) from rfl) rfl rfl hl.1 rfl (Nat.le_of_ble_eq_true rfl) dX11_slack_56 ⟨Nat.le_of_ble_eq_true rfl, Nat.le_of_ble_eq_true rfl⟩ (fun r_26 u_26 H locs hp_26 h => ?_)
        obtain rfl := hp_26
        have h : Hp D A s.heap (WX cI cJ cB cZ ad (Matrix_minor := 1)) H locs := h
        refine lv_isub hx hb dX11_slack_59 ?_
        refine lv_topi (fun v_27 ev_27 => ?_)
        obtain rfl : v_27 = 0 := ev_27.trans (by decide)
        refine lv_iload_n hx hb dX11_slack_60 rfl (lv_at hl 2 rfl) ?_
        refine lv_isub hx hb dX11_slack_61 ?_
        refine lv_topi (fun v_28 ev_28 => ?_)
        obtain rfl : v_28 = 0 := ev_28.trans (by decide)
        refine lv_istore_n (lv' := [(2, .int 0), (4, .int 0), (3, .int 2), (0, .ref (ad 0)), (1, .int p1)]) hx hb dX11_slack_62 rfl hl (by decide) rfl (fun ls hl => ?_)
        refine lv_iinc (v := 3) (lv' := [(3, .int 3), (2, .int 0), (4, .int 0), (0, .ref (ad 0)), (1, .int p1)]) hx hb dX11_slack_63 hl (k := 2) rfl (by decide) (by decide) rfl (fun ls hl => ?_)
        refine lv_goto (tgt := 14) hx hb dX11_slack_66 (by decide) ?_
        refine lv_iload_n hx hb dX11_slack_14 rfl (lv_at hl 0 rfl) ?_
        refine lv_iload_n hx hb dX11_slack_15 rfl (lv_at hl 4 rfl) ?_
        refine lv_icmp_gt (tgt := 69) hx hb dX11_slack_16 (by decide) (fun c_29 => ?_) (fun c_29 => ?_)
        · skip
          refine lv_iload_n hx hb dX11_slack_69 rfl (lv_at hl 1 rfl) ?_
          exact x_iret (w1 := (fun u : Nat => match u with | 0 => (WX cI cJ cB cZ ad) | 1 => (WX cI cJ cB cZ ad) | 2 => (WX cI cJ cB cZ ad (Matrix_minor := 1)) | 3 => (WX cI cJ cB cZ ad (Matrix_minor := 1)) | 4 => (WX cI cJ cB cZ ad (Matrix_minor := 1)) | 5 => (WX cI cJ cB cZ ad (Matrix_minor := 1)) | _ => (WX cI cJ cB cZ ad (Matrix_minor := 1)))) 4 B h hr rfl (Or.inr (Or.inr (Or.inr (Or.inr (Or.inl ⟨rfl, k_1_0, k_1_1, c_5, c_13, c_21, c_29, rfl⟩))))) dX11_slack_70
        · skip
          refine lv_aload_n hx hb dX11_slack_19 rfl (lv_at hl 3 rfl) ?_
          refine x_get (ci := 11) (C := RX11) (T := TX11) (N := 11) (v := .ref (ad 4)) B h hin11 0 3 rfl rfl (by decide) (by decide +kernel) rfl dX11_slack_20 ?_
          refine x_cVLF (n := 0) (As := []) (rest := []) B h (k189_X6_unpaired l D cI cJ cB cZ ad bd) ⟨⟨_, rfl⟩, by decide +kernel, Nat.le_of_ble_eq_true rfl, Nat.le_of_ble_eq_true rfl⟩ gX11_slack_X6_unpaired (show ((WX cI cJ cB cZ ad (Matrix_minor := 1)) : va_W)[4]? = some (_, .inr (6, _)) from rfl) rfl rfl hl.1 rfl (Nat.le_of_ble_eq_true rfl) dX11_slack_23 ⟨Nat.le_of_ble_eq_true rfl, Nat.le_of_ble_eq_true rfl⟩ (fun r_30 u_30 H locs hp_30 h => ?_)
          obtain rfl := hp_30
          have h : Hp D A s.heap (WX cI cJ cB cZ ad (Matrix_minor := 1)) H locs := h
          refine lv_aload_n hx hb dX11_slack_26 rfl (lv_at hl 3 rfl) ?_
          refine x_get (ci := 11) (C := RX11) (T := TX11) (N := 11) (v := .ref (ad 3)) B h hin11 0 2 rfl rfl (by decide) (by decide +kernel) rfl dX11_slack_27 ?_
          refine x_get (ci := 9) (C := RX9) (T := TX9) (N := 7) (v := .ref (ad 19)) B h hin9 3 6 rfl rfl (by decide) (by decide +kernel) rfl dX11_slack_30 ?_
          refine lv_iload_n hx hb dX11_slack_33 rfl (lv_at hl 0 rfl) ?_
          refine va_lald hx hb B.2.1 h.1 19 1 rfl rfl (vp_in_iff.mpr (by decide)) dX11_slack_34 ?_
          refine lv_topl (fun v_31 ev_31 => ?_)
          obtain rfl : v_31 = 0 := ev_31
          refine lv_land hx hb dX11_slack_35 ?_
          refine lv_topl (fun v_32 ev_32 => ?_)
          obtain rfl : v_32 = 0 := ev_32.trans (by decide)
          refine x_cSIE (n := 1) (As := [.long 0]) (rest := []) B h (k65_J13_bitCount_95d88 l D cI cJ cB cZ ad bd) ⟨⟨_, rfl⟩, by decide +kernel, Nat.le_of_ble_eq_true rfl, Nat.le_of_ble_eq_true rfl⟩ gX11_slack_J13_bitCount_95d88 rfl hl.1 rfl (Nat.le_of_ble_eq_true rfl) dX11_slack_36 ⟨Nat.le_of_ble_eq_true rfl, Nat.le_of_ble_eq_true rfl⟩ (fun r_33 u_33 H locs hp_33 h => ?_)
          obtain rfl := hp_33
          have h : Hp D A s.heap (WX cI cJ cB cZ ad (Matrix_minor := 1)) H locs := h
          refine lv_istore (lv' := [(4, .int 0), (3, .int 3), (2, .int 0), (0, .ref (ad 0)), (1, .int p1)]) hx hb dX11_slack_39 hl (by decide) rfl (fun ls hl => ?_)
          refine lv_iload hx hb dX11_slack_41 (lv_at hl 0 rfl) ?_
          refine lv_aload_n hx hb dX11_slack_43 rfl (lv_at hl 3 rfl) ?_
          refine x_get (ci := 11) (C := RX11) (T := TX11) (N := 11) (v := .ref (ad 8)) B h hin11 0 7 rfl rfl (by decide) (by decide +kernel) rfl dX11_slack_44 ?_
          refine lv_aload_n hx hb dX11_slack_47 rfl (lv_at hl 3 rfl) ?_
          refine x_get (ci := 11) (C := RX11) (T := TX11) (N := 11) (v := .ref (ad 4)) B h hin11 0 3 rfl rfl (by decide) (by decide +kernel) rfl dX11_slack_48 ?_
          refine x_get (ci := 6) (C := RX6) (T := TX6) (N := 6) (v := .long 0) B h hin6 4 2 rfl rfl (by decide) (by decide +kernel) rfl dX11_slack_51 ?_
          refine lv_iload_n hx hb dX11_slack_54 rfl (lv_at hl 1 rfl) ?_
          refine lv_iconst (v := 0) hx hb dX11_slack_55 (by decide) ?_
          refine x_cVIF (n := 3) (As := [.long 0, .int 3, .int 0]) (rest := [.int 0]) B h (k193_X0_bettiOf l D cI cJ cB cZ ad bd) ⟨⟨_, rfl⟩, by decide +kernel, Nat.le_of_ble_eq_true rfl, Nat.le_of_ble_eq_true rfl⟩ gX11_slack_X0_bettiOf (show ((WX cI cJ cB cZ ad (Matrix_minor := 1)) : va_W)[8]? = some (_, .inr (0, _)) from rfl) rfl rfl hl.1 rfl (Nat.le_of_ble_eq_true rfl) dX11_slack_56 ⟨Nat.le_of_ble_eq_true rfl, Nat.le_of_ble_eq_true rfl⟩ (fun r_34 u_34 H locs hp_34 h => ?_)
          obtain rfl := hp_34
          have h : Hp D A s.heap (WX cI cJ cB cZ ad (Matrix_minor := 1)) H locs := h
          refine lv_isub hx hb dX11_slack_59 ?_
          refine lv_topi (fun v_35 ev_35 => ?_)
          obtain rfl : v_35 = 0 := ev_35.trans (by decide)
          refine lv_iload_n hx hb dX11_slack_60 rfl (lv_at hl 2 rfl) ?_
          refine lv_isub hx hb dX11_slack_61 ?_
          refine lv_topi (fun v_36 ev_36 => ?_)
          obtain rfl : v_36 = 0 := ev_36.trans (by decide)
          refine lv_istore_n (lv' := [(2, .int 0), (4, .int 0), (3, .int 3), (0, .ref (ad 0)), (1, .int p1)]) hx hb dX11_slack_62 rfl hl (by decide) rfl (fun ls hl => ?_)
          refine lv_iinc (v := 4) (lv' := [(3, .int 4), (2, .int 0), (4, .int 0), (0, .ref (ad 0)), (1, .int p1)]) hx hb dX11_slack_63 hl (k := 2) rfl (by decide) (by decide) rfl (fun ls hl => ?_)
          refine lv_goto (tgt := 14) hx hb dX11_slack_66 (by decide) ?_
          refine lv_iload_n hx hb dX11_slack_14 rfl (lv_at hl 0 rfl) ?_
          refine lv_iload_n hx hb dX11_slack_15 rfl (lv_at hl 4 rfl) ?_
          refine lv_icmp_gt (tgt := 69) hx hb dX11_slack_16 (by decide) (fun c_37 => ?_) (fun c_37 => ?_)
          · skip
            refine lv_iload_n hx hb dX11_slack_69 rfl (lv_at hl 1 rfl) ?_
            exact x_iret (w1 := (fun u : Nat => match u with | 0 => (WX cI cJ cB cZ ad) | 1 => (WX cI cJ cB cZ ad) | 2 => (WX cI cJ cB cZ ad (Matrix_minor := 1)) | 3 => (WX cI cJ cB cZ ad (Matrix_minor := 1)) | 4 => (WX cI cJ cB cZ ad (Matrix_minor := 1)) | 5 => (WX cI cJ cB cZ ad (Matrix_minor := 1)) | _ => (WX cI cJ cB cZ ad (Matrix_minor := 1)))) 5 B h hr rfl (Or.inr (Or.inr (Or.inr (Or.inr (Or.inr (Or.inl ⟨rfl, k_1_0, k_1_1, c_5, c_13, c_21, c_29, c_37, rfl⟩)))))) dX11_slack_70
          · skip
            refine lv_aload_n hx hb dX11_slack_19 rfl (lv_at hl 3 rfl) ?_
            refine x_get (ci := 11) (C := RX11) (T := TX11) (N := 11) (v := .ref (ad 4)) B h hin11 0 3 rfl rfl (by decide) (by decide +kernel) rfl dX11_slack_20 ?_
            refine x_cVLF (n := 0) (As := []) (rest := []) B h (k189_X6_unpaired l D cI cJ cB cZ ad bd) ⟨⟨_, rfl⟩, by decide +kernel, Nat.le_of_ble_eq_true rfl, Nat.le_of_ble_eq_true rfl⟩ gX11_slack_X6_unpaired (show ((WX cI cJ cB cZ ad (Matrix_minor := 1)) : va_W)[4]? = some (_, .inr (6, _)) from rfl) rfl rfl hl.1 rfl (Nat.le_of_ble_eq_true rfl) dX11_slack_23 ⟨Nat.le_of_ble_eq_true rfl, Nat.le_of_ble_eq_true rfl⟩ (fun r_38 u_38 H locs hp_38 h => ?_)
            obtain rfl := hp_38
            have h : Hp D A s.heap (WX cI cJ cB cZ ad (Matrix_minor := 1)) H locs := h
            refine lv_aload_n hx hb dX11_slack_26 rfl (lv_at hl 3 rfl) ?_
            refine x_get (ci := 11) (C := RX11) (T := TX11) (N := 11) (v := .ref (ad 3)) B h hin11 0 2 rfl rfl (by decide) (by decide +kernel) rfl dX11_slack_27 ?_
            refine x_get (ci := 9) (C := RX9) (T := TX9) (N := 7) (v := .ref (ad 19)) B h hin9 3 6 rfl rfl (by decide) (by decide +kernel) rfl dX11_slack_30 ?_
            refine lv_iload_n hx hb dX11_slack_33 rfl (lv_at hl 0 rfl) ?_
            refine va_lald hx hb B.2.1 h.1 19 1 rfl rfl (vp_in_iff.mpr (by decide)) dX11_slack_34 ?_
            refine lv_topl (fun v_39 ev_39 => ?_)
            obtain rfl : v_39 = 0 := ev_39
            refine lv_land hx hb dX11_slack_35 ?_
            refine lv_topl (fun v_40 ev_40 => ?_)
            obtain rfl : v_40 = 0 := ev_40.trans (by decide)
            refine x_cSIE (n := 1) (As := [.long 0]) (rest := []) B h (k65_J13_bitCount_95d88 l D cI cJ cB cZ ad bd) ⟨⟨_, rfl⟩, by decide +kernel, Nat.le_of_ble_eq_true rfl, Nat.le_of_ble_eq_true rfl⟩ gX11_slack_J13_bitCount_95d88 rfl hl.1 rfl (Nat.le_of_ble_eq_true rfl) dX11_slack_36 ⟨Nat.le_of_ble_eq_true rfl, Nat.le_of_ble_eq_true rfl⟩ (fun r_41 u_41 H locs hp_41 h => ?_)
            obtain rfl := hp_41
            have h : Hp D A s.heap (WX cI cJ cB cZ ad (Matrix_minor := 1)) H locs := h
            refine lv_istore (lv' := [(4, .int 0), (3, .int 4), (2, .int 0), (0, .ref (ad 0)), (1, .int p1)]) hx hb dX11_slack_39 hl (by decide) rfl (fun ls hl => ?_)
            refine lv_iload hx hb dX11_slack_41 (lv_at hl 0 rfl) ?_
            refine lv_aload_n hx hb dX11_slack_43 rfl (lv_at hl 3 rfl) ?_
            refine x_get (ci := 11) (C := RX11) (T := TX11) (N := 11) (v := .ref (ad 8)) B h hin11 0 7 rfl rfl (by decide) (by decide +kernel) rfl dX11_slack_44 ?_
            refine lv_aload_n hx hb dX11_slack_47 rfl (lv_at hl 3 rfl) ?_
            refine x_get (ci := 11) (C := RX11) (T := TX11) (N := 11) (v := .ref (ad 4)) B h hin11 0 3 rfl rfl (by decide) (by decide +kernel) rfl dX11_slack_48 ?_
            refine x_get (ci := 6) (C := RX6) (T := TX6) (N := 6) (v := .long 0) B h hin6 4 2 rfl rfl (by decide) (by decide +kernel) rfl dX11_slack_51 ?_
            refine lv_iload_n hx hb dX11_slack_54 rfl (lv_at hl 1 rfl) ?_
            refine lv_iconst (v := 0) hx hb dX11_slack_55 (by decide) ?_
            refine x_cVIF (n := 3) (As := [.long 0, .int 4, .int 0]) (rest := [.int 0]) B h (k194_X0_bettiOf l D cI cJ cB cZ ad bd) ⟨⟨_, rfl⟩, by decide +kernel, Nat.le_of_ble_eq_true rfl, Nat.le_of_ble_eq_true rfl⟩ gX11_slack_X0_bettiOf (show ((WX cI cJ cB cZ ad (Matrix_minor := 1)) : va_W)[8]? = some (_, .inr (0, _)) from rfl) rfl rfl hl.1 rfl (Nat.le_of_ble_eq_true rfl) dX11_slack_56 ⟨Nat.le_of_ble_eq_true rfl, Nat.le_of_ble_eq_true rfl⟩ (fun r_42 u_42 H locs hp_42 h => ?_)
            obtain rfl := hp_42
            have h : Hp D A s.heap (WX cI cJ cB cZ ad (Matrix_minor := 1)) H locs := h
            refine lv_isub hx hb dX11_slack_59 ?_
            refine lv_topi (fun v_43 ev_43 => ?_)
            obtain rfl : v_43 = 0 := ev_43.trans (by decide)
            refine lv_iload_n hx hb dX11_slack_60 rfl (lv_at hl 2 rfl) ?_
            refine lv_isub hx hb dX11_slack_61 ?_
            refine lv_topi (fun v_44 ev_44 => ?_)
            obtain rfl : v_44 = 0 := ev_44.trans (by decide)
            refine lv_istore_n (lv' := [(2, .int 0), (4, .int 0), (3, .int 4), (0, .ref (ad 0)), (1, .int p1)]) hx hb dX11_slack_62 rfl hl (by decide) rfl (fun ls hl => ?_)
            refine lv_iinc (v := 5) (lv' := [(3, .int 5), (2, .int 0), (4, .int 0), (0, .ref (ad 0)), (1, .int p1)]) hx hb dX11_slack_63 hl (k := 2) rfl (by decide) (by decide) rfl (fun ls hl => ?_)
            refine lv_goto (tgt := 14) hx hb dX11_slack_66 (by decide) ?_
            refine lv_iload_n hx hb dX11_slack_14 rfl (lv_at hl 0 rfl) ?_
            refine lv_iload_n hx hb dX11_slack_15 rfl (lv_at hl 4 rfl) ?_
            refine lv_icmp_gt (tgt := 69) hx hb dX11_slack_16 (by decide) (fun c_45 => ?_) (fun c_45 => absurd c_45 (by simp only [Int32.lt_iff_toInt_lt, Int32.le_iff_toInt_le, ← Int32.toInt_inj, show ((0 : Int32)).toInt = 0 from by decide, show ((1 : Int32)).toInt = 1 from by decide, show ((2 : Int32)).toInt = 2 from by decide, show ((3 : Int32)).toInt = 3 from by decide, show ((4 : Int32)).toInt = 4 from by decide, show ((5 : Int32)).toInt = 5 from by decide] at k_1_0 k_1_1 c_5 c_13 c_21 c_29 c_37 ⊢; omega))
            refine lv_iload_n hx hb dX11_slack_69 rfl (lv_at hl 1 rfl) ?_
            exact x_iret (w1 := (fun u : Nat => match u with | 0 => (WX cI cJ cB cZ ad) | 1 => (WX cI cJ cB cZ ad) | 2 => (WX cI cJ cB cZ ad (Matrix_minor := 1)) | 3 => (WX cI cJ cB cZ ad (Matrix_minor := 1)) | 4 => (WX cI cJ cB cZ ad (Matrix_minor := 1)) | 5 => (WX cI cJ cB cZ ad (Matrix_minor := 1)) | _ => (WX cI cJ cB cZ ad (Matrix_minor := 1)))) 6 B h hr rfl (Or.inr (Or.inr (Or.inr (Or.inr (Or.inr (Or.inr (⟨rfl, k_1_0, k_1_1, c_5, c_13, c_21, c_29, c_37, c_45, rfl⟩))))))) dX11_slack_70
set_option maxHeartbeats 4000000 in
set_option maxRecDepth 100000 in
theorem k196_X12_in (l : Launch) (D : va_G) (cI cJ cB cZ : ClassId) (ad bd : Nat → Nat) : MetI l yX12_in wsX12_in 0 0 0 0 D (TYS cI cJ cB cZ) [] [.int 0, .int 0, .int 4] (fun (r : Int32) (_ : Unit) => r = 1) (fun _ => []) := by
  refine x_startI (ty := .boolean) (cc := cX12_in) (by decide) rfl (Nat.le_of_ble_eq_true rfl) ?_
  intro p e s m args below meth c A ls B hr hnm h hl
  have hx := B.1.1
  have hb := B.1.2.1
  have hml := B.1.2.2.1
  have hts := B.1.2.2.2.2
  have hown : s.vm.findClass RX12 = some m.cls := B.1.2.2.2.1
  have hl : lv_has ls 3 [(0, .int 0), (1, .int 0), (2, .int 4)] := hl
  refine lv_iload_n hx hb dX12_in_0 rfl (lv_at hl 0 rfl) ?_
  refine lv_iload_n hx hb dX12_in_1 rfl (lv_at hl 1 rfl) ?_
  refine lv_icmp_lt (tgt := 14) hx hb dX12_in_2 (by decide) (fun c_1 => absurd c_1 (by decide)) (fun c_1 => ?_)
  refine lv_iload_n hx hb dX12_in_5 rfl (lv_at hl 0 rfl) ?_
  refine lv_iload_n hx hb dX12_in_6 rfl (lv_at hl 2 rfl) ?_
  refine lv_icmp_gt (tgt := 14) hx hb dX12_in_7 (by decide) (fun c_2 => absurd c_2 (by decide)) (fun c_2 => ?_)
  refine lv_iconst (v := 1) hx hb dX12_in_10 (by decide) ?_
  refine lv_goto (tgt := 15) hx hb dX12_in_11 (by decide) ?_
  exact x_iret (w1 := (fun _ => [])) () B h hr rfl rfl dX12_in_15
set_option maxHeartbeats 4000000 in
set_option maxRecDepth 100000 in
theorem k197_X12_critical (l : Launch) (D : va_G) (cI cJ cB cZ : ClassId) (ad bd : Nat → Nat) : MetI l yX12_critical wsX12_critical 1 22 0 0 D (TYS cI cJ cB cZ) (WM cI cJ cB cZ bd) [.ref (bd 0), .int 0, .int (-1)] (fun (r : Int32) (_ : Unit) => r = 0) (fun _ => (WM cI cJ cB cZ bd)) := by
  refine x_startI (ty := .int) (cc := cX12_critical) (by decide) rfl (Nat.le_of_ble_eq_true rfl) ?_
  intro p e s m args below meth c A ls B hr hnm h hl
  have hx := B.1.1
  have hb := B.1.2.1
  have hml := B.1.2.2.1
  have hts := B.1.2.2.2.2
  have hown : s.vm.findClass RX12 = some m.cls := B.1.2.2.2.1
  have hin12 : ∀ w ∈ u_ws RX12 TX12 31, w ∈ wsX12_critical := by decide +kernel
  have hl : lv_has ls 5 [(0, .ref (bd 0)), (1, .int 0), (2, .int (-1))] := hl
  refine lv_iload_n hx hb dX12_critical_0 rfl (lv_at hl 1 rfl) ?_
  refine lv_iconst (v := 0) hx hb dX12_critical_1 (by decide) ?_
  refine lv_iconst (v := 4) hx hb dX12_critical_2 (by decide) ?_
  refine x_cSIE (n := 3) (As := [.int 0, .int 0, .int 4]) (rest := []) B h (k196_X12_in l D cI cJ cB cZ ad bd) ⟨⟨_, rfl⟩, by decide +kernel, Nat.le_of_ble_eq_true rfl, Nat.le_of_ble_eq_true rfl⟩ gX12_critical_X12_in rfl hl.1 rfl (Nat.le_of_ble_eq_true rfl) dX12_critical_3 ⟨Nat.le_of_ble_eq_true rfl, Nat.le_of_ble_eq_true rfl⟩ (fun r_1 u_1 H locs hp_1 h => ?_)
  obtain rfl := hp_1
  have h : Hp D A s.heap (WM cI cJ cB cZ bd) H locs := h
  refine lv_if_eq (tgt := 14) hx hb dX12_critical_6 (by decide) (fun c_2 => absurd c_2 (by decide)) (fun c_2 => ?_)
  refine lv_iload_n hx hb dX12_critical_9 rfl (lv_at hl 2 rfl) ?_
  refine lv_iconst (v := (-1)) hx hb dX12_critical_10 (by decide) ?_
  refine lv_icmp_ge (tgt := 16) hx hb dX12_critical_11 (by decide) (fun c_3 => ?_) (fun c_3 => absurd c_3 (by decide))
  refine lv_iconst (v := 0) hx hb dX12_critical_16 (by decide) ?_
  refine lv_istore_n (lv' := [(3, .int 0), (0, .ref (bd 0)), (1, .int 0), (2, .int (-1))]) hx hb dX12_critical_17 rfl hl (by decide) rfl (fun ls hl => ?_)
  refine lv_iconst (v := 0) hx hb dX12_critical_18 (by decide) ?_
  refine lv_istore (lv' := [(4, .int 0), (3, .int 0), (0, .ref (bd 0)), (1, .int 0), (2, .int (-1))]) hx hb dX12_critical_19 hl (by decide) rfl (fun ls hl => ?_)
  refine lv_iload hx hb dX12_critical_21 (lv_at hl 0 rfl) ?_
  refine lv_aload_n hx hb dX12_critical_23 rfl (lv_at hl 2 rfl) ?_
  refine x_get (ci := 12) (C := RX12) (T := TX12) (N := 31) (v := .int 0) B h hin12 0 5 rfl rfl (by decide) (by decide +kernel) rfl dX12_critical_24 ?_
  refine lv_icmp_ge (tgt := 66) hx hb dX12_critical_27 (by decide) (fun c_4 => ?_) (fun c_4 => absurd c_4 (by decide))
  refine lv_iload_n hx hb dX12_critical_66 rfl (lv_at hl 4 rfl) ?_
  refine lv_iconst (v := (-1)) hx hb dX12_critical_67 (by decide) ?_
  refine lv_icmp_ne (tgt := 75) hx hb dX12_critical_68 (by decide) (fun c_5 => absurd c_5 (by decide)) (fun c_5 => ?_)
  refine lv_iload_n hx hb dX12_critical_71 rfl (lv_at hl 1 rfl) ?_
  refine lv_goto (tgt := 77) hx hb dX12_critical_72 (by decide) ?_
  exact x_iret (w1 := (fun _ => (WM cI cJ cB cZ bd))) () B h hr rfl rfl dX12_critical_77
