set_option maxHeartbeats 4000000 in
set_option maxRecDepth 100000 in
theorem k266_X9_partsOf (l : Launch) (D : va_G) (cI cJ cB cZ : ClassId) (ad bd : Nat → Nat) : MetI l yX9_partsOf wsX9_partsOf 0 0 0 0 D (TYS cI cJ cB cZ) (WX cI cJ cB cZ ad) [.ref (ad 3), .long 0] (fun (r : Int32) (_ : Unit) => r = 0) (fun _ => (WX cI cJ cB cZ ad)) := by
  refine x_startI (ty := .int) (cc := cX9_partsOf) (by decide) rfl (Nat.le_of_ble_eq_true rfl) ?_
  intro p e s m args below meth c A ls B hr hnm h hl
  have hx := B.1.1
  have hb := B.1.2.1
  have hml := B.1.2.2.1
  have hts := B.1.2.2.2.2
  have hown : s.vm.findClass RX9 = some m.cls := B.1.2.2.2.1
  have hl : lv_has ls 6 [(0, .ref (ad 3)), (1, .long 0)] := hl
  refine lv_iconst (v := 0) hx hb dX9_partsOf_0 (by decide) ?_
  refine lv_istore_n (lv' := [(3, .int 0), (0, .ref (ad 3)), (1, .long 0)]) hx hb dX9_partsOf_1 rfl hl (by decide) rfl (fun ls hl => ?_)
  refine lv_lload_n hx hb dX9_partsOf_2 rfl (lv_at hl 2 rfl) ?_
  refine lv_lstore (lv' := [(4, .long 0), (3, .int 0), (0, .ref (ad 3)), (1, .long 0)]) hx hb dX9_partsOf_3 hl (by decide) rfl (fun ls hl => ?_)
  refine lv_lload hx hb dX9_partsOf_5 (lv_at hl 0 rfl) ?_
  refine lv_lconst (v := 0) hx hb dX9_partsOf_7 (by decide) ?_
  refine W.lcmp hx hb dX9_partsOf_8 ?_
  refine lv_topi (fun v_1 ev_1 => ?_)
  obtain rfl : v_1 = 0 := ev_1.trans (by decide)
  refine lv_if_eq (tgt := 43) hx hb dX9_partsOf_9 (by decide) (fun c_2 => ?_) (fun c_2 => absurd c_2 (by decide))
  refine lv_iload_n hx hb dX9_partsOf_43 rfl (lv_at hl 1 rfl) ?_
  exact x_iret (w1 := (fun _ => (WX cI cJ cB cZ ad))) () B h hr rfl rfl dX9_partsOf_44
set_option maxHeartbeats 4000000 in
set_option maxRecDepth 100000 in
theorem k267_X11_count (l : Launch) (D : va_G) (cI cJ cB cZ : ClassId) (ad bd : Nat → Nat) (p1 : Int32) : MetI l yX11_count wsX11_count 2 46 0 0 D (TYS cI cJ cB cZ) (WX cI cJ cB cZ ad) [.ref (ad 0), .int p1] (fun (r : Int32) (u : Nat) => (u = 0 ∧ (p1.toInt < 0 ∨ 9 < p1.toInt) ∧ r = (-1)) ∨ (u = 1 ∧ p1 = 0 ∧ r = 0) ∨ (u = 2 ∧ p1 = 1 ∧ r = 0) ∨ (u = 3 ∧ p1 = 2 ∧ r = (-1)) ∨ (u = 4 ∧ p1 = 3 ∧ r = 0) ∨ (u = 5 ∧ p1 = 4 ∧ r = 0) ∨ (u = 6 ∧ p1 = 5 ∧ r = 0) ∨ (u = 7 ∧ p1 = 6 ∧ r = 0) ∨ (u = 8 ∧ p1 = 7 ∧ r = 0) ∨ (u = 9 ∧ p1 = 8 ∧ r = 0) ∨ (u = 10 ∧ p1 = 9 ∧ r = 0)) (fun _ => (WX cI cJ cB cZ ad)) := by
  refine x_startI (ty := .int) (cc := cX11_count) (by decide) rfl (Nat.le_of_ble_eq_true rfl) ?_
  intro p e s m args below meth c A ls B hr hnm h hl
  have hx := B.1.1
  have hb := B.1.2.1
  have hml := B.1.2.2.1
  have hts := B.1.2.2.2.2
  have hown : s.vm.findClass RX11 = some m.cls := B.1.2.2.2.1
  have hin3 : ∀ w ∈ u_ws RX3 TX3 4, w ∈ wsX11_count := by decide +kernel
  have hin6 : ∀ w ∈ u_ws RX6 TX6 6, w ∈ wsX11_count := by decide +kernel
  have hin9 : ∀ w ∈ u_ws RX9 TX9 7, w ∈ wsX11_count := by decide +kernel
  have hin10 : ∀ w ∈ u_ws RX10 TX10 2, w ∈ wsX11_count := by decide +kernel
  have hin11 : ∀ w ∈ u_ws RX11 TX11 11, w ∈ wsX11_count := by decide +kernel
  have hl : lv_has ls 2 [(0, .ref (ad 0)), (1, .int p1)] := hl
  refine lv_iload_n hx hb dX11_count_0 rfl (lv_at hl 1 rfl) ?_
  rcases sw_cases p1 0 9 10 (by decide) with c_1 | ⟨j_1, hj_1, e_1⟩
  · skip
    refine lv_tableOut (tgt := 154) hx hb dX11_count_1 c_1 (by decide) ?_
    refine lv_iconst (v := (-1)) hx hb dX11_count_154 (by decide) ?_
    exact x_iret (w1 := (fun _ => (WX cI cJ cB cZ ad))) 0 B h hr rfl (Or.inl ⟨rfl, c_1, rfl⟩) dX11_count_155
  · skip
    rcases (show j_1 = 0 ∨ j_1 = 1 ∨ j_1 = 2 ∨ j_1 = 3 ∨ j_1 = 4 ∨ j_1 = 5 ∨ j_1 = 6 ∨ j_1 = 7 ∨ j_1 = 8 ∨ j_1 = 9 by omega) with rfl | rfl | rfl | rfl | rfl | rfl | rfl | rfl | rfl | rfl
    · skip
      obtain rfl : p1 = 0 := e_1.trans (by decide)
      refine lv_tableIn (off := 55) (tgt := 56) hx hb dX11_count_1 (by decide) (by decide) (by decide) (by decide) ?_
      refine lv_aload_n hx hb dX11_count_56 rfl (lv_at hl 0 rfl) ?_
      refine x_get (ci := 11) (C := RX11) (T := TX11) (N := 11) (v := .ref (ad 3)) B h hin11 0 2 rfl rfl (by decide) (by decide +kernel) rfl dX11_count_57 ?_
      refine x_get (ci := 9) (C := RX9) (T := TX9) (N := 7) (v := .int 0) B h hin9 3 0 rfl rfl (by decide) (by decide +kernel) rfl dX11_count_60 ?_
      exact x_iret (w1 := (fun _ => (WX cI cJ cB cZ ad))) 1 B h hr rfl (Or.inr (Or.inl ⟨rfl, rfl, rfl⟩)) dX11_count_63
    · skip
      obtain rfl : p1 = 1 := e_1.trans (by decide)
      refine lv_tableIn (off := 63) (tgt := 64) hx hb dX11_count_1 (by decide) (by decide) (by decide) (by decide) ?_
      refine lv_aload_n hx hb dX11_count_64 rfl (lv_at hl 0 rfl) ?_
      refine x_get (ci := 11) (C := RX11) (T := TX11) (N := 11) (v := .ref (ad 4)) B h hin11 0 3 rfl rfl (by decide) (by decide +kernel) rfl dX11_count_65 ?_
      refine x_get (ci := 6) (C := RX6) (T := TX6) (N := 6) (v := .long 0) B h hin6 4 2 rfl rfl (by decide) (by decide +kernel) rfl dX11_count_68 ?_
      refine x_cSIE (n := 1) (As := [.long 0]) (rest := []) B h (k65_J13_bitCount_95d88 l D cI cJ cB cZ ad bd) ⟨⟨_, rfl⟩, by decide +kernel, Nat.le_of_ble_eq_true rfl, Nat.le_of_ble_eq_true rfl⟩ gX11_count_J13_bitCount_95d88 rfl hl.1 rfl (Nat.le_of_ble_eq_true rfl) dX11_count_71 ⟨Nat.le_of_ble_eq_true rfl, Nat.le_of_ble_eq_true rfl⟩ (fun r_2 u_2 H locs hp_2 h => ?_)
      obtain rfl := hp_2
      have h : Hp D A s.heap (WX cI cJ cB cZ ad) H locs := h
      exact x_iret (w1 := (fun _ => (WX cI cJ cB cZ ad))) 2 B h hr rfl (Or.inr (Or.inr (Or.inl ⟨rfl, rfl, rfl⟩))) dX11_count_74
    · skip
      obtain rfl : p1 = 2 := e_1.trans (by decide)
      refine lv_tableIn (off := 74) (tgt := 75) hx hb dX11_count_1 (by decide) (by decide) (by decide) (by decide) ?_
      refine lv_aload_n hx hb dX11_count_75 rfl (lv_at hl 0 rfl) ?_
      refine x_get (ci := 11) (C := RX11) (T := TX11) (N := 11) (v := .ref (ad 3)) B h hin11 0 2 rfl rfl (by decide) (by decide +kernel) rfl dX11_count_76 ?_
      refine lv_aload_n hx hb dX11_count_79 rfl (lv_at hl 0 rfl) ?_
      refine x_get (ci := 11) (C := RX11) (T := TX11) (N := 11) (v := .ref (ad 4)) B h hin11 0 3 rfl rfl (by decide) (by decide +kernel) rfl dX11_count_80 ?_
      refine x_get (ci := 6) (C := RX6) (T := TX6) (N := 6) (v := .long 0) B h hin6 4 2 rfl rfl (by decide) (by decide +kernel) rfl dX11_count_83 ?_
      refine x_cVIF (n := 1) (As := [.long 0]) (rest := []) B h (k262_X9_greatestDim l D cI cJ cB cZ ad bd) ⟨⟨_, rfl⟩, by decide +kernel, Nat.le_of_ble_eq_true rfl, Nat.le_of_ble_eq_true rfl⟩ gX11_count_X9_greatestDim (show ((WX cI cJ cB cZ ad) : va_W)[3]? = some (_, .inr (9, _)) from rfl) rfl rfl hl.1 rfl (Nat.le_of_ble_eq_true rfl) dX11_count_86 ⟨Nat.le_of_ble_eq_true rfl, Nat.le_of_ble_eq_true rfl⟩ (fun r_3 u_3 H locs hp_3 h => ?_)
      obtain rfl := hp_3
      have h : Hp D A s.heap (WX cI cJ cB cZ ad) H locs := h
      exact x_iret (w1 := (fun _ => (WX cI cJ cB cZ ad))) 3 B h hr rfl (Or.inr (Or.inr (Or.inr (Or.inl ⟨rfl, rfl, rfl⟩)))) dX11_count_89
    · skip
      obtain rfl : p1 = 3 := e_1.trans (by decide)
      refine lv_tableIn (off := 89) (tgt := 90) hx hb dX11_count_1 (by decide) (by decide) (by decide) (by decide) ?_
      refine lv_aload_n hx hb dX11_count_90 rfl (lv_at hl 0 rfl) ?_
      refine x_get (ci := 11) (C := RX11) (T := TX11) (N := 11) (v := .ref (ad 4)) B h hin11 0 3 rfl rfl (by decide) (by decide +kernel) rfl dX11_count_91 ?_
      refine x_cVIF (n := 0) (As := []) (rest := []) B h (k263_X6_howMany l D cI cJ cB cZ ad bd) ⟨⟨_, rfl⟩, by decide +kernel, Nat.le_of_ble_eq_true rfl, Nat.le_of_ble_eq_true rfl⟩ gX11_count_X6_howMany (show ((WX cI cJ cB cZ ad) : va_W)[4]? = some (_, .inr (6, _)) from rfl) rfl rfl hl.1 rfl (Nat.le_of_ble_eq_true rfl) dX11_count_94 ⟨Nat.le_of_ble_eq_true rfl, Nat.le_of_ble_eq_true rfl⟩ (fun r_4 u_4 H locs hp_4 h => ?_)
      obtain rfl := hp_4
      have h : Hp D A s.heap (WX cI cJ cB cZ ad) H locs := h
      exact x_iret (w1 := (fun _ => (WX cI cJ cB cZ ad))) 4 B h hr rfl (Or.inr (Or.inr (Or.inr (Or.inr (Or.inl ⟨rfl, rfl, rfl⟩))))) dX11_count_97
    · skip
      obtain rfl : p1 = 4 := e_1.trans (by decide)
      refine lv_tableIn (off := 97) (tgt := 98) hx hb dX11_count_1 (by decide) (by decide) (by decide) (by decide) ?_
      refine lv_aload_n hx hb dX11_count_98 rfl (lv_at hl 0 rfl) ?_
      refine x_cVIF (n := 0) (As := []) (rest := []) B h (k264_X11_criticalOnes l D cI cJ cB cZ ad bd) ⟨⟨_, rfl⟩, by decide +kernel, Nat.le_of_ble_eq_true rfl, Nat.le_of_ble_eq_true rfl⟩ gX11_count_X11_criticalOnes (show ((WX cI cJ cB cZ ad) : va_W)[0]? = some (_, .inr (11, _)) from rfl) rfl rfl hl.1 rfl (Nat.le_of_ble_eq_true rfl) dX11_count_99 ⟨Nat.le_of_ble_eq_true rfl, Nat.le_of_ble_eq_true rfl⟩ (fun r_5 u_5 H locs hp_5 h => ?_)
      obtain rfl := hp_5
      have h : Hp D A s.heap (WX cI cJ cB cZ ad) H locs := h
      exact x_iret (w1 := (fun _ => (WX cI cJ cB cZ ad))) 5 B h hr rfl (Or.inr (Or.inr (Or.inr (Or.inr (Or.inr (Or.inl ⟨rfl, rfl, rfl⟩)))))) dX11_count_102
    · skip
      obtain rfl : p1 = 5 := e_1.trans (by decide)
      refine lv_tableIn (off := 102) (tgt := 103) hx hb dX11_count_1 (by decide) (by decide) (by decide) (by decide) ?_
      refine lv_aload_n hx hb dX11_count_103 rfl (lv_at hl 0 rfl) ?_
      refine x_get (ci := 11) (C := RX11) (T := TX11) (N := 11) (v := .ref (ad 3)) B h hin11 0 2 rfl rfl (by decide) (by decide +kernel) rfl dX11_count_104 ?_
      refine lv_aload_n hx hb dX11_count_107 rfl (lv_at hl 0 rfl) ?_
      refine x_get (ci := 11) (C := RX11) (T := TX11) (N := 11) (v := .ref (ad 4)) B h hin11 0 3 rfl rfl (by decide) (by decide +kernel) rfl dX11_count_108 ?_
      refine x_get (ci := 6) (C := RX6) (T := TX6) (N := 6) (v := .long 0) B h hin6 4 2 rfl rfl (by decide) (by decide +kernel) rfl dX11_count_111 ?_
      refine x_cVIF (n := 1) (As := [.long 0]) (rest := []) B h (k265_X9_eulerOf l D cI cJ cB cZ ad bd) ⟨⟨_, rfl⟩, by decide +kernel, Nat.le_of_ble_eq_true rfl, Nat.le_of_ble_eq_true rfl⟩ gX11_count_X9_eulerOf (show ((WX cI cJ cB cZ ad) : va_W)[3]? = some (_, .inr (9, _)) from rfl) rfl rfl hl.1 rfl (Nat.le_of_ble_eq_true rfl) dX11_count_114 ⟨Nat.le_of_ble_eq_true rfl, Nat.le_of_ble_eq_true rfl⟩ (fun r_6 u_6 H locs hp_6 h => ?_)
      obtain rfl := hp_6
      have h : Hp D A s.heap (WX cI cJ cB cZ ad) H locs := h
      exact x_iret (w1 := (fun _ => (WX cI cJ cB cZ ad))) 6 B h hr rfl (Or.inr (Or.inr (Or.inr (Or.inr (Or.inr (Or.inr (Or.inl ⟨rfl, rfl, rfl⟩))))))) dX11_count_117
    · skip
      obtain rfl : p1 = 6 := e_1.trans (by decide)
      refine lv_tableIn (off := 117) (tgt := 118) hx hb dX11_count_1 (by decide) (by decide) (by decide) (by decide) ?_
      refine lv_aload_n hx hb dX11_count_118 rfl (lv_at hl 0 rfl) ?_
      refine x_get (ci := 11) (C := RX11) (T := TX11) (N := 11) (v := .ref (ad 3)) B h hin11 0 2 rfl rfl (by decide) (by decide +kernel) rfl dX11_count_119 ?_
      refine lv_aload_n hx hb dX11_count_122 rfl (lv_at hl 0 rfl) ?_
      refine x_get (ci := 11) (C := RX11) (T := TX11) (N := 11) (v := .ref (ad 4)) B h hin11 0 3 rfl rfl (by decide) (by decide +kernel) rfl dX11_count_123 ?_
      refine x_get (ci := 6) (C := RX6) (T := TX6) (N := 6) (v := .long 0) B h hin6 4 2 rfl rfl (by decide) (by decide +kernel) rfl dX11_count_126 ?_
      refine x_cVIF (n := 1) (As := [.long 0]) (rest := []) B h (k266_X9_partsOf l D cI cJ cB cZ ad bd) ⟨⟨_, rfl⟩, by decide +kernel, Nat.le_of_ble_eq_true rfl, Nat.le_of_ble_eq_true rfl⟩ gX11_count_X9_partsOf (show ((WX cI cJ cB cZ ad) : va_W)[3]? = some (_, .inr (9, _)) from rfl) rfl rfl hl.1 rfl (Nat.le_of_ble_eq_true rfl) dX11_count_129 ⟨Nat.le_of_ble_eq_true rfl, Nat.le_of_ble_eq_true rfl⟩ (fun r_7 u_7 H locs hp_7 h => ?_)
      obtain rfl := hp_7
      have h : Hp D A s.heap (WX cI cJ cB cZ ad) H locs := h
      exact x_iret (w1 := (fun _ => (WX cI cJ cB cZ ad))) 7 B h hr rfl (Or.inr (Or.inr (Or.inr (Or.inr (Or.inr (Or.inr (Or.inr (Or.inl ⟨rfl, rfl, rfl⟩)))))))) dX11_count_132
    · skip
      obtain rfl : p1 = 7 := e_1.trans (by decide)
      refine lv_tableIn (off := 132) (tgt := 133) hx hb dX11_count_1 (by decide) (by decide) (by decide) (by decide) ?_
      refine lv_aload_n hx hb dX11_count_133 rfl (lv_at hl 0 rfl) ?_
      refine x_get (ci := 11) (C := RX11) (T := TX11) (N := 11) (v := .ref (ad 9)) B h hin11 0 8 rfl rfl (by decide) (by decide +kernel) rfl dX11_count_134 ?_
      refine x_get (ci := 3) (C := RX3) (T := TX3) (N := 4) (v := .int 0) B h hin3 9 2 rfl rfl (by decide) (by decide +kernel) rfl dX11_count_137 ?_
      exact x_iret (w1 := (fun _ => (WX cI cJ cB cZ ad))) 8 B h hr rfl (Or.inr (Or.inr (Or.inr (Or.inr (Or.inr (Or.inr (Or.inr (Or.inr (Or.inl ⟨rfl, rfl, rfl⟩))))))))) dX11_count_140
    · skip
      obtain rfl : p1 = 8 := e_1.trans (by decide)
      refine lv_tableIn (off := 140) (tgt := 141) hx hb dX11_count_1 (by decide) (by decide) (by decide) (by decide) ?_
      refine lv_aload_n hx hb dX11_count_141 rfl (lv_at hl 0 rfl) ?_
      refine x_get (ci := 11) (C := RX11) (T := TX11) (N := 11) (v := .int 0) B h hin11 0 10 rfl rfl (by decide) (by decide +kernel) rfl dX11_count_142 ?_
      exact x_iret (w1 := (fun _ => (WX cI cJ cB cZ ad))) 9 B h hr rfl (Or.inr (Or.inr (Or.inr (Or.inr (Or.inr (Or.inr (Or.inr (Or.inr (Or.inr (Or.inl ⟨rfl, rfl, rfl⟩)))))))))) dX11_count_145
    · skip
      obtain rfl : p1 = 9 := e_1.trans (by decide)
      refine lv_tableIn (off := 145) (tgt := 146) hx hb dX11_count_1 (by decide) (by decide) (by decide) (by decide) ?_
      refine lv_aload_n hx hb dX11_count_146 rfl (lv_at hl 0 rfl) ?_
      refine x_get (ci := 11) (C := RX11) (T := TX11) (N := 11) (v := .ref (ad 1)) B h hin11 0 0 rfl rfl (by decide) (by decide +kernel) rfl dX11_count_147 ?_
      refine x_get (ci := 10) (C := RX10) (T := TX10) (N := 2) (v := .int 0) B h hin10 1 1 rfl rfl (by decide) (by decide +kernel) rfl dX11_count_150 ?_
      exact x_iret (w1 := (fun _ => (WX cI cJ cB cZ ad))) 10 B h hr rfl (Or.inr (Or.inr (Or.inr (Or.inr (Or.inr (Or.inr (Or.inr (Or.inr (Or.inr (Or.inr (⟨rfl, rfl, rfl⟩))))))))))) dX11_count_153
set_option maxHeartbeats 4000000 in
set_option maxRecDepth 100000 in
theorem k268_X12_thereMany (l : Launch) (D : va_G) (cI cJ cB cZ : ClassId) (ad bd : Nat → Nat) : MetI l yX12_thereMany wsX12_thereMany 0 0 0 0 D (TYS cI cJ cB cZ) (WM cI cJ cB cZ bd) [.ref (bd 0)] (fun (r : Int32) (_ : Unit) => r = 0) (fun _ => (WM cI cJ cB cZ bd)) := by
  refine x_startI (ty := .int) (cc := cX12_thereMany) (by decide) rfl (Nat.le_of_ble_eq_true rfl) ?_
  intro p e s m args below meth c A ls B hr hnm h hl
  have hx := B.1.1
  have hb := B.1.2.1
  have hml := B.1.2.2.1
  have hts := B.1.2.2.2.2
  have hown : s.vm.findClass RX12 = some m.cls := B.1.2.2.2.1
  have hin12 : ∀ w ∈ u_ws RX12 TX12 31, w ∈ wsX12_thereMany := by decide +kernel
  have hl : lv_has ls 3 [(0, .ref (bd 0))] := hl
  refine lv_iconst (v := 0) hx hb dX12_thereMany_0 (by decide) ?_
  refine lv_istore_n (lv' := [(1, .int 0), (0, .ref (bd 0))]) hx hb dX12_thereMany_1 rfl hl (by decide) rfl (fun ls hl => ?_)
  refine lv_iconst (v := 0) hx hb dX12_thereMany_2 (by decide) ?_
  refine lv_istore_n (lv' := [(2, .int 0), (1, .int 0), (0, .ref (bd 0))]) hx hb dX12_thereMany_3 rfl hl (by decide) rfl (fun ls hl => ?_)
  refine lv_iload_n hx hb dX12_thereMany_4 rfl (lv_at hl 0 rfl) ?_
  refine lv_aload_n hx hb dX12_thereMany_5 rfl (lv_at hl 2 rfl) ?_
  refine x_get (ci := 12) (C := RX12) (T := TX12) (N := 31) (v := .int 0) B h hin12 0 5 rfl rfl (by decide) (by decide +kernel) rfl dX12_thereMany_6 ?_
  refine lv_icmp_ge (tgt := 38) hx hb dX12_thereMany_9 (by decide) (fun c_1 => ?_) (fun c_1 => absurd c_1 (by decide))
  refine lv_iload_n hx hb dX12_thereMany_38 rfl (lv_at hl 1 rfl) ?_
  exact x_iret (w1 := (fun _ => (WM cI cJ cB cZ bd))) () B h hr rfl rfl dX12_thereMany_39
set_option maxHeartbeats 4000000 in
set_option maxRecDepth 100000 in
theorem k269_X12_greatestDim (l : Launch) (D : va_G) (cI cJ cB cZ : ClassId) (ad bd : Nat → Nat) : MetI l yX12_greatestDim wsX12_greatestDim 0 0 0 0 D (TYS cI cJ cB cZ) (WM cI cJ cB cZ bd) [.ref (bd 0)] (fun (r : Int32) (_ : Unit) => r = (-1)) (fun _ => (WM cI cJ cB cZ bd)) := by
  refine x_startI (ty := .int) (cc := cX12_greatestDim) (by decide) rfl (Nat.le_of_ble_eq_true rfl) ?_
  intro p e s m args below meth c A ls B hr hnm h hl
  have hx := B.1.1
  have hb := B.1.2.1
  have hml := B.1.2.2.1
  have hts := B.1.2.2.2.2
  have hown : s.vm.findClass RX12 = some m.cls := B.1.2.2.2.1
  have hin12 : ∀ w ∈ u_ws RX12 TX12 31, w ∈ wsX12_greatestDim := by decide +kernel
  have hl : lv_has ls 3 [(0, .ref (bd 0))] := hl
  refine lv_iconst (v := (-1)) hx hb dX12_greatestDim_0 (by decide) ?_
  refine lv_istore_n (lv' := [(1, .int (-1)), (0, .ref (bd 0))]) hx hb dX12_greatestDim_1 rfl hl (by decide) rfl (fun ls hl => ?_)
  refine lv_iconst (v := 0) hx hb dX12_greatestDim_2 (by decide) ?_
  refine lv_istore_n (lv' := [(2, .int 0), (1, .int (-1)), (0, .ref (bd 0))]) hx hb dX12_greatestDim_3 rfl hl (by decide) rfl (fun ls hl => ?_)
  refine lv_iload_n hx hb dX12_greatestDim_4 rfl (lv_at hl 0 rfl) ?_
  refine lv_aload_n hx hb dX12_greatestDim_5 rfl (lv_at hl 2 rfl) ?_
  refine x_get (ci := 12) (C := RX12) (T := TX12) (N := 31) (v := .int 0) B h hin12 0 5 rfl rfl (by decide) (by decide +kernel) rfl dX12_greatestDim_6 ?_
  refine lv_icmp_ge (tgt := 40) hx hb dX12_greatestDim_9 (by decide) (fun c_1 => ?_) (fun c_1 => absurd c_1 (by decide))
  refine lv_iload_n hx hb dX12_greatestDim_40 rfl (lv_at hl 1 rfl) ?_
  exact x_iret (w1 := (fun _ => (WM cI cJ cB cZ bd))) () B h hr rfl rfl dX12_greatestDim_41
set_option maxHeartbeats 4000000 in
set_option maxRecDepth 100000 in
theorem k270_X12_pairMany (l : Launch) (D : va_G) (cI cJ cB cZ : ClassId) (ad bd : Nat → Nat) : MetI l yX12_pairMany wsX12_pairMany 0 0 0 0 D (TYS cI cJ cB cZ) (WM cI cJ cB cZ bd) [.ref (bd 0)] (fun (r : Int32) (_ : Unit) => r = 0) (fun _ => (WM cI cJ cB cZ bd)) := by
  refine x_startI (ty := .int) (cc := cX12_pairMany) (by decide) rfl (Nat.le_of_ble_eq_true rfl) ?_
  intro p e s m args below meth c A ls B hr hnm h hl
  have hx := B.1.1
  have hb := B.1.2.1
  have hml := B.1.2.2.1
  have hts := B.1.2.2.2.2
  have hown : s.vm.findClass RX12 = some m.cls := B.1.2.2.2.1
  have hin12 : ∀ w ∈ u_ws RX12 TX12 31, w ∈ wsX12_pairMany := by decide +kernel
  have hl : lv_has ls 3 [(0, .ref (bd 0))] := hl
  refine lv_iconst (v := 0) hx hb dX12_pairMany_0 (by decide) ?_
  refine lv_istore_n (lv' := [(1, .int 0), (0, .ref (bd 0))]) hx hb dX12_pairMany_1 rfl hl (by decide) rfl (fun ls hl => ?_)
  refine lv_iconst (v := 0) hx hb dX12_pairMany_2 (by decide) ?_
  refine lv_istore_n (lv' := [(2, .int 0), (1, .int 0), (0, .ref (bd 0))]) hx hb dX12_pairMany_3 rfl hl (by decide) rfl (fun ls hl => ?_)
  refine lv_iload_n hx hb dX12_pairMany_4 rfl (lv_at hl 0 rfl) ?_
  refine lv_aload_n hx hb dX12_pairMany_5 rfl (lv_at hl 2 rfl) ?_
  refine x_get (ci := 12) (C := RX12) (T := TX12) (N := 31) (v := .int 0) B h hin12 0 5 rfl rfl (by decide) (by decide +kernel) rfl dX12_pairMany_6 ?_
  refine lv_icmp_ge (tgt := 29) hx hb dX12_pairMany_9 (by decide) (fun c_1 => ?_) (fun c_1 => absurd c_1 (by decide))
  refine lv_iload_n hx hb dX12_pairMany_29 rfl (lv_at hl 1 rfl) ?_
  exact x_iret (w1 := (fun _ => (WM cI cJ cB cZ bd))) () B h hr rfl rfl dX12_pairMany_30
set_option maxHeartbeats 4000000 in
set_option maxRecDepth 100000 in
theorem k271_X12_criticalMany (l : Launch) (D : va_G) (cI cJ cB cZ : ClassId) (ad bd : Nat → Nat) : MetI l yX12_criticalMany wsX12_criticalMany 0 0 0 0 D (TYS cI cJ cB cZ) (WM cI cJ cB cZ bd) [.ref (bd 0)] (fun (r : Int32) (_ : Unit) => r = 0) (fun _ => (WM cI cJ cB cZ bd)) := by
  refine x_startI (ty := .int) (cc := cX12_criticalMany) (by decide) rfl (Nat.le_of_ble_eq_true rfl) ?_
  intro p e s m args below meth c A ls B hr hnm h hl
  have hx := B.1.1
  have hb := B.1.2.1
  have hml := B.1.2.2.1
  have hts := B.1.2.2.2.2
  have hown : s.vm.findClass RX12 = some m.cls := B.1.2.2.2.1
  have hin12 : ∀ w ∈ u_ws RX12 TX12 31, w ∈ wsX12_criticalMany := by decide +kernel
  have hl : lv_has ls 3 [(0, .ref (bd 0))] := hl
  refine lv_iconst (v := 0) hx hb dX12_criticalMany_0 (by decide) ?_
  refine lv_istore_n (lv' := [(1, .int 0), (0, .ref (bd 0))]) hx hb dX12_criticalMany_1 rfl hl (by decide) rfl (fun ls hl => ?_)
  refine lv_iconst (v := 0) hx hb dX12_criticalMany_2 (by decide) ?_
  refine lv_istore_n (lv' := [(2, .int 0), (1, .int 0), (0, .ref (bd 0))]) hx hb dX12_criticalMany_3 rfl hl (by decide) rfl (fun ls hl => ?_)
  refine lv_iload_n hx hb dX12_criticalMany_4 rfl (lv_at hl 0 rfl) ?_
  refine lv_aload_n hx hb dX12_criticalMany_5 rfl (lv_at hl 2 rfl) ?_
  refine x_get (ci := 12) (C := RX12) (T := TX12) (N := 31) (v := .int 0) B h hin12 0 5 rfl rfl (by decide) (by decide +kernel) rfl dX12_criticalMany_6 ?_
  refine lv_icmp_ge (tgt := 29) hx hb dX12_criticalMany_9 (by decide) (fun c_1 => ?_) (fun c_1 => absurd c_1 (by decide))
  refine lv_iload_n hx hb dX12_criticalMany_29 rfl (lv_at hl 1 rfl) ?_
  exact x_iret (w1 := (fun _ => (WM cI cJ cB cZ bd))) () B h hr rfl rfl dX12_criticalMany_30
set_option maxHeartbeats 4000000 in
set_option maxRecDepth 100000 in
theorem k272_X12_euler (l : Launch) (D : va_G) (cI cJ cB cZ : ClassId) (ad bd : Nat → Nat) : MetI l yX12_euler wsX12_euler 0 0 0 0 D (TYS cI cJ cB cZ) (WM cI cJ cB cZ bd) [.ref (bd 0)] (fun (r : Int32) (_ : Unit) => r = 0) (fun _ => (WM cI cJ cB cZ bd)) := by
  refine x_startI (ty := .int) (cc := cX12_euler) (by decide) rfl (Nat.le_of_ble_eq_true rfl) ?_
  intro p e s m args below meth c A ls B hr hnm h hl
  have hx := B.1.1
  have hb := B.1.2.1
  have hml := B.1.2.2.1
  have hts := B.1.2.2.2.2
  have hown : s.vm.findClass RX12 = some m.cls := B.1.2.2.2.1
  have hin12 : ∀ w ∈ u_ws RX12 TX12 31, w ∈ wsX12_euler := by decide +kernel
  have hl : lv_has ls 3 [(0, .ref (bd 0))] := hl
  refine lv_iconst (v := 0) hx hb dX12_euler_0 (by decide) ?_
  refine lv_istore_n (lv' := [(1, .int 0), (0, .ref (bd 0))]) hx hb dX12_euler_1 rfl hl (by decide) rfl (fun ls hl => ?_)
  refine lv_iconst (v := 0) hx hb dX12_euler_2 (by decide) ?_
  refine lv_istore_n (lv' := [(2, .int 0), (1, .int 0), (0, .ref (bd 0))]) hx hb dX12_euler_3 rfl hl (by decide) rfl (fun ls hl => ?_)
  refine lv_iload_n hx hb dX12_euler_4 rfl (lv_at hl 0 rfl) ?_
  refine lv_aload_n hx hb dX12_euler_5 rfl (lv_at hl 2 rfl) ?_
  refine x_get (ci := 12) (C := RX12) (T := TX12) (N := 31) (v := .int 0) B h hin12 0 5 rfl rfl (by decide) (by decide +kernel) rfl dX12_euler_6 ?_
  refine lv_icmp_ge (tgt := 38) hx hb dX12_euler_9 (by decide) (fun c_1 => ?_) (fun c_1 => absurd c_1 (by decide))
  refine lv_iload_n hx hb dX12_euler_38 rfl (lv_at hl 1 rfl) ?_
  exact x_iret (w1 := (fun _ => (WM cI cJ cB cZ bd))) () B h hr rfl rfl dX12_euler_39
set_option maxHeartbeats 4000000 in
set_option maxRecDepth 100000 in
theorem k273_X12_partsMany (l : Launch) (D : va_G) (cI cJ cB cZ : ClassId) (ad bd : Nat → Nat) : MetI l yX12_partsMany wsX12_partsMany 0 0 0 0 D (TYS cI cJ cB cZ) (WM cI cJ cB cZ bd) [.ref (bd 0)] (fun (r : Int32) (_ : Unit) => r = 0) (fun _ => (WM cI cJ cB cZ bd)) := by
  refine x_startI (ty := .int) (cc := cX12_partsMany) (by decide) rfl (Nat.le_of_ble_eq_true rfl) ?_
  intro p e s m args below meth c A ls B hr hnm h hl
  have hx := B.1.1
  have hb := B.1.2.1
  have hml := B.1.2.2.1
  have hts := B.1.2.2.2.2
  have hown : s.vm.findClass RX12 = some m.cls := B.1.2.2.2.1
  have hin12 : ∀ w ∈ u_ws RX12 TX12 31, w ∈ wsX12_partsMany := by decide +kernel
  have hl : lv_has ls 5 [(0, .ref (bd 0))] := hl
  refine lv_iconst (v := 0) hx hb dX12_partsMany_0 (by decide) ?_
  refine lv_istore_n (lv' := [(1, .int 0), (0, .ref (bd 0))]) hx hb dX12_partsMany_1 rfl hl (by decide) rfl (fun ls hl => ?_)
  refine lv_iload_n hx hb dX12_partsMany_2 rfl (lv_at hl 0 rfl) ?_
  refine lv_aload_n hx hb dX12_partsMany_3 rfl (lv_at hl 1 rfl) ?_
  refine x_get (ci := 12) (C := RX12) (T := TX12) (N := 31) (v := .int 0) B h hin12 0 5 rfl rfl (by decide) (by decide +kernel) rfl dX12_partsMany_4 ?_
  refine lv_icmp_ge (tgt := 23) hx hb dX12_partsMany_7 (by decide) (fun c_1 => ?_) (fun c_1 => absurd c_1 (by decide))
  refine lv_iconst (v := 1) hx hb dX12_partsMany_23 (by decide) ?_
  refine lv_istore_n (lv' := [(1, .int 1), (0, .ref (bd 0))]) hx hb dX12_partsMany_24 rfl hl (by decide) rfl (fun ls hl => ?_)
  refine lv_iload_n hx hb dX12_partsMany_25 rfl (lv_at hl 0 rfl) ?_
  refine lv_if_eq (tgt := 125) hx hb dX12_partsMany_26 (by decide) (fun c_2 => absurd c_2 (by decide)) (fun c_2 => ?_)
  refine lv_iconst (v := 0) hx hb dX12_partsMany_29 (by decide) ?_
  refine lv_istore_n (lv' := [(1, .int 0), (0, .ref (bd 0))]) hx hb dX12_partsMany_30 rfl hl (by decide) rfl (fun ls hl => ?_)
  refine lv_iconst (v := 0) hx hb dX12_partsMany_31 (by decide) ?_
  refine lv_istore_n (lv' := [(2, .int 0), (1, .int 0), (0, .ref (bd 0))]) hx hb dX12_partsMany_32 rfl hl (by decide) rfl (fun ls hl => ?_)
  refine lv_iload_n hx hb dX12_partsMany_33 rfl (lv_at hl 0 rfl) ?_
  refine lv_aload_n hx hb dX12_partsMany_34 rfl (lv_at hl 2 rfl) ?_
  refine x_get (ci := 12) (C := RX12) (T := TX12) (N := 31) (v := .int 0) B h hin12 0 5 rfl rfl (by decide) (by decide +kernel) rfl dX12_partsMany_35 ?_
  refine lv_icmp_ge (tgt := 122) hx hb dX12_partsMany_38 (by decide) (fun c_3 => ?_) (fun c_3 => absurd c_3 (by decide))
  refine lv_goto (tgt := 25) hx hb dX12_partsMany_122 (by decide) ?_
  refine lv_iload_n hx hb dX12_partsMany_25 rfl (lv_at hl 1 rfl) ?_
  refine lv_if_eq (tgt := 125) hx hb dX12_partsMany_26 (by decide) (fun c_4 => ?_) (fun c_4 => absurd c_4 (by decide))
  refine lv_iconst (v := 0) hx hb dX12_partsMany_125 (by decide) ?_
  refine lv_istore_n (lv' := [(2, .int 0), (1, .int 0), (0, .ref (bd 0))]) hx hb dX12_partsMany_126 rfl hl (by decide) rfl (fun ls hl => ?_)
  refine lv_iconst (v := 0) hx hb dX12_partsMany_127 (by decide) ?_
  refine lv_istore_n (lv' := [(3, .int 0), (2, .int 0), (1, .int 0), (0, .ref (bd 0))]) hx hb dX12_partsMany_128 rfl hl (by decide) rfl (fun ls hl => ?_)
  refine lv_iload_n hx hb dX12_partsMany_129 rfl (lv_at hl 0 rfl) ?_
  refine lv_aload_n hx hb dX12_partsMany_130 rfl (lv_at hl 3 rfl) ?_
  refine x_get (ci := 12) (C := RX12) (T := TX12) (N := 31) (v := .int 0) B h hin12 0 5 rfl rfl (by decide) (by decide +kernel) rfl dX12_partsMany_131 ?_
  refine lv_icmp_ge (tgt := 172) hx hb dX12_partsMany_134 (by decide) (fun c_5 => ?_) (fun c_5 => absurd c_5 (by decide))
  refine lv_iload_n hx hb dX12_partsMany_172 rfl (lv_at hl 1 rfl) ?_
  exact x_iret (w1 := (fun _ => (WM cI cJ cB cZ bd))) () B h hr rfl rfl dX12_partsMany_173
set_option maxHeartbeats 4000000 in
set_option maxRecDepth 100000 in
theorem k274_X12_count (l : Launch) (D : va_G) (cI cJ cB cZ : ClassId) (ad bd : Nat → Nat) (p1 : Int32) : MetI l yX12_count wsX12_count 1 24 0 0 D (TYS cI cJ cB cZ) (WM cI cJ cB cZ bd) [.ref (bd 0), .int p1] (fun (r : Int32) (u : Nat) => (u = 0 ∧ (p1.toInt < 0 ∨ 9 < p1.toInt) ∧ r = (-1)) ∨ (u = 1 ∧ p1 = 0 ∧ r = 0) ∨ (u = 2 ∧ p1 = 1 ∧ r = 0) ∨ (u = 3 ∧ p1 = 2 ∧ r = (-1)) ∨ (u = 4 ∧ p1 = 3 ∧ r = 0) ∨ (u = 5 ∧ p1 = 4 ∧ r = 0) ∨ (u = 6 ∧ p1 = 5 ∧ r = 0) ∨ (u = 7 ∧ p1 = 6 ∧ r = 0) ∨ (u = 8 ∧ p1 = 7 ∧ r = 0) ∨ (u = 9 ∧ p1 = 8 ∧ r = 0) ∨ (u = 10 ∧ p1 = 9 ∧ r = 0)) (fun _ => (WM cI cJ cB cZ bd)) := by
  refine x_startI (ty := .int) (cc := cX12_count) (by decide) rfl (Nat.le_of_ble_eq_true rfl) ?_
  intro p e s m args below meth c A ls B hr hnm h hl
  have hx := B.1.1
  have hb := B.1.2.1
  have hml := B.1.2.2.1
  have hts := B.1.2.2.2.2
  have hown : s.vm.findClass RX12 = some m.cls := B.1.2.2.2.1
  have hin12 : ∀ w ∈ u_ws RX12 TX12 31, w ∈ wsX12_count := by decide +kernel
  have hl : lv_has ls 2 [(0, .ref (bd 0)), (1, .int p1)] := hl
  refine lv_iload_n hx hb dX12_count_0 rfl (lv_at hl 1 rfl) ?_
  rcases sw_cases p1 0 9 10 (by decide) with c_1 | ⟨j_1, hj_1, e_1⟩
  · skip
    refine lv_tableOut (tgt := 106) hx hb dX12_count_1 c_1 (by decide) ?_
    refine lv_iconst (v := (-1)) hx hb dX12_count_106 (by decide) ?_
    exact x_iret (w1 := (fun _ => (WM cI cJ cB cZ bd))) 0 B h hr rfl (Or.inl ⟨rfl, c_1, rfl⟩) dX12_count_107
  · skip
    rcases (show j_1 = 0 ∨ j_1 = 1 ∨ j_1 = 2 ∨ j_1 = 3 ∨ j_1 = 4 ∨ j_1 = 5 ∨ j_1 = 6 ∨ j_1 = 7 ∨ j_1 = 8 ∨ j_1 = 9 by omega) with rfl | rfl | rfl | rfl | rfl | rfl | rfl | rfl | rfl | rfl
    · skip
      obtain rfl : p1 = 0 := e_1.trans (by decide)
      refine lv_tableIn (off := 55) (tgt := 56) hx hb dX12_count_1 (by decide) (by decide) (by decide) (by decide) ?_
      refine lv_aload_n hx hb dX12_count_56 rfl (lv_at hl 0 rfl) ?_
      refine x_get (ci := 12) (C := RX12) (T := TX12) (N := 31) (v := .int 0) B h hin12 0 5 rfl rfl (by decide) (by decide +kernel) rfl dX12_count_57 ?_
      exact x_iret (w1 := (fun _ => (WM cI cJ cB cZ bd))) 1 B h hr rfl (Or.inr (Or.inl ⟨rfl, rfl, rfl⟩)) dX12_count_60
    · skip
      obtain rfl : p1 = 1 := e_1.trans (by decide)
      refine lv_tableIn (off := 60) (tgt := 61) hx hb dX12_count_1 (by decide) (by decide) (by decide) (by decide) ?_
      refine lv_aload_n hx hb dX12_count_61 rfl (lv_at hl 0 rfl) ?_
      refine x_cVIF (n := 0) (As := []) (rest := []) B h (k268_X12_thereMany l D cI cJ cB cZ ad bd) ⟨⟨_, rfl⟩, by decide +kernel, Nat.le_of_ble_eq_true rfl, Nat.le_of_ble_eq_true rfl⟩ gX12_count_X12_thereMany (show ((WM cI cJ cB cZ bd) : va_W)[0]? = some (_, .inr (12, _)) from rfl) rfl rfl hl.1 rfl (Nat.le_of_ble_eq_true rfl) dX12_count_62 ⟨Nat.le_of_ble_eq_true rfl, Nat.le_of_ble_eq_true rfl⟩ (fun r_2 u_2 H locs hp_2 h => ?_)
      obtain rfl := hp_2
      have h : Hp D A s.heap (WM cI cJ cB cZ bd) H locs := h
      exact x_iret (w1 := (fun _ => (WM cI cJ cB cZ bd))) 2 B h hr rfl (Or.inr (Or.inr (Or.inl ⟨rfl, rfl, rfl⟩))) dX12_count_65
    · skip
      obtain rfl : p1 = 2 := e_1.trans (by decide)
      refine lv_tableIn (off := 65) (tgt := 66) hx hb dX12_count_1 (by decide) (by decide) (by decide) (by decide) ?_
      refine lv_aload_n hx hb dX12_count_66 rfl (lv_at hl 0 rfl) ?_
      refine x_cVIF (n := 0) (As := []) (rest := []) B h (k269_X12_greatestDim l D cI cJ cB cZ ad bd) ⟨⟨_, rfl⟩, by decide +kernel, Nat.le_of_ble_eq_true rfl, Nat.le_of_ble_eq_true rfl⟩ gX12_count_X12_greatestDim (show ((WM cI cJ cB cZ bd) : va_W)[0]? = some (_, .inr (12, _)) from rfl) rfl rfl hl.1 rfl (Nat.le_of_ble_eq_true rfl) dX12_count_67 ⟨Nat.le_of_ble_eq_true rfl, Nat.le_of_ble_eq_true rfl⟩ (fun r_3 u_3 H locs hp_3 h => ?_)
      obtain rfl := hp_3
      have h : Hp D A s.heap (WM cI cJ cB cZ bd) H locs := h
      exact x_iret (w1 := (fun _ => (WM cI cJ cB cZ bd))) 3 B h hr rfl (Or.inr (Or.inr (Or.inr (Or.inl ⟨rfl, rfl, rfl⟩)))) dX12_count_70
    · skip
      obtain rfl : p1 = 3 := e_1.trans (by decide)
      refine lv_tableIn (off := 70) (tgt := 71) hx hb dX12_count_1 (by decide) (by decide) (by decide) (by decide) ?_
      refine lv_aload_n hx hb dX12_count_71 rfl (lv_at hl 0 rfl) ?_
      refine x_cVIF (n := 0) (As := []) (rest := []) B h (k270_X12_pairMany l D cI cJ cB cZ ad bd) ⟨⟨_, rfl⟩, by decide +kernel, Nat.le_of_ble_eq_true rfl, Nat.le_of_ble_eq_true rfl⟩ gX12_count_X12_pairMany (show ((WM cI cJ cB cZ bd) : va_W)[0]? = some (_, .inr (12, _)) from rfl) rfl rfl hl.1 rfl (Nat.le_of_ble_eq_true rfl) dX12_count_72 ⟨Nat.le_of_ble_eq_true rfl, Nat.le_of_ble_eq_true rfl⟩ (fun r_4 u_4 H locs hp_4 h => ?_)
      obtain rfl := hp_4
      have h : Hp D A s.heap (WM cI cJ cB cZ bd) H locs := h
      exact x_iret (w1 := (fun _ => (WM cI cJ cB cZ bd))) 4 B h hr rfl (Or.inr (Or.inr (Or.inr (Or.inr (Or.inl ⟨rfl, rfl, rfl⟩))))) dX12_count_75
    · skip
      obtain rfl : p1 = 4 := e_1.trans (by decide)
      refine lv_tableIn (off := 75) (tgt := 76) hx hb dX12_count_1 (by decide) (by decide) (by decide) (by decide) ?_
      refine lv_aload_n hx hb dX12_count_76 rfl (lv_at hl 0 rfl) ?_
      refine x_cVIF (n := 0) (As := []) (rest := []) B h (k271_X12_criticalMany l D cI cJ cB cZ ad bd) ⟨⟨_, rfl⟩, by decide +kernel, Nat.le_of_ble_eq_true rfl, Nat.le_of_ble_eq_true rfl⟩ gX12_count_X12_criticalMany (show ((WM cI cJ cB cZ bd) : va_W)[0]? = some (_, .inr (12, _)) from rfl) rfl rfl hl.1 rfl (Nat.le_of_ble_eq_true rfl) dX12_count_77 ⟨Nat.le_of_ble_eq_true rfl, Nat.le_of_ble_eq_true rfl⟩ (fun r_5 u_5 H locs hp_5 h => ?_)
      obtain rfl := hp_5
      have h : Hp D A s.heap (WM cI cJ cB cZ bd) H locs := h
      exact x_iret (w1 := (fun _ => (WM cI cJ cB cZ bd))) 5 B h hr rfl (Or.inr (Or.inr (Or.inr (Or.inr (Or.inr (Or.inl ⟨rfl, rfl, rfl⟩)))))) dX12_count_80
    · skip
      obtain rfl : p1 = 5 := e_1.trans (by decide)
      refine lv_tableIn (off := 80) (tgt := 81) hx hb dX12_count_1 (by decide) (by decide) (by decide) (by decide) ?_
      refine lv_aload_n hx hb dX12_count_81 rfl (lv_at hl 0 rfl) ?_
      refine x_cVIF (n := 0) (As := []) (rest := []) B h (k272_X12_euler l D cI cJ cB cZ ad bd) ⟨⟨_, rfl⟩, by decide +kernel, Nat.le_of_ble_eq_true rfl, Nat.le_of_ble_eq_true rfl⟩ gX12_count_X12_euler (show ((WM cI cJ cB cZ bd) : va_W)[0]? = some (_, .inr (12, _)) from rfl) rfl rfl hl.1 rfl (Nat.le_of_ble_eq_true rfl) dX12_count_82 ⟨Nat.le_of_ble_eq_true rfl, Nat.le_of_ble_eq_true rfl⟩ (fun r_6 u_6 H locs hp_6 h => ?_)
      obtain rfl := hp_6
      have h : Hp D A s.heap (WM cI cJ cB cZ bd) H locs := h
      exact x_iret (w1 := (fun _ => (WM cI cJ cB cZ bd))) 6 B h hr rfl (Or.inr (Or.inr (Or.inr (Or.inr (Or.inr (Or.inr (Or.inl ⟨rfl, rfl, rfl⟩))))))) dX12_count_85
    · skip
      obtain rfl : p1 = 6 := e_1.trans (by decide)
      refine lv_tableIn (off := 85) (tgt := 86) hx hb dX12_count_1 (by decide) (by decide) (by decide) (by decide) ?_
      refine lv_aload_n hx hb dX12_count_86 rfl (lv_at hl 0 rfl) ?_
      refine x_cVIF (n := 0) (As := []) (rest := []) B h (k273_X12_partsMany l D cI cJ cB cZ ad bd) ⟨⟨_, rfl⟩, by decide +kernel, Nat.le_of_ble_eq_true rfl, Nat.le_of_ble_eq_true rfl⟩ gX12_count_X12_partsMany (show ((WM cI cJ cB cZ bd) : va_W)[0]? = some (_, .inr (12, _)) from rfl) rfl rfl hl.1 rfl (Nat.le_of_ble_eq_true rfl) dX12_count_87 ⟨Nat.le_of_ble_eq_true rfl, Nat.le_of_ble_eq_true rfl⟩ (fun r_7 u_7 H locs hp_7 h => ?_)
      obtain rfl := hp_7
      have h : Hp D A s.heap (WM cI cJ cB cZ bd) H locs := h
      exact x_iret (w1 := (fun _ => (WM cI cJ cB cZ bd))) 7 B h hr rfl (Or.inr (Or.inr (Or.inr (Or.inr (Or.inr (Or.inr (Or.inr (Or.inl ⟨rfl, rfl, rfl⟩)))))))) dX12_count_90
    · skip
      obtain rfl : p1 = 7 := e_1.trans (by decide)
      refine lv_tableIn (off := 90) (tgt := 91) hx hb dX12_count_1 (by decide) (by decide) (by decide) (by decide) ?_
      refine lv_aload_n hx hb dX12_count_91 rfl (lv_at hl 0 rfl) ?_
      refine x_get (ci := 12) (C := RX12) (T := TX12) (N := 31) (v := .int 0) B h hin12 0 13 rfl rfl (by decide) (by decide +kernel) rfl dX12_count_92 ?_
      exact x_iret (w1 := (fun _ => (WM cI cJ cB cZ bd))) 8 B h hr rfl (Or.inr (Or.inr (Or.inr (Or.inr (Or.inr (Or.inr (Or.inr (Or.inr (Or.inl ⟨rfl, rfl, rfl⟩))))))))) dX12_count_95
    · skip
      obtain rfl : p1 = 8 := e_1.trans (by decide)
      refine lv_tableIn (off := 95) (tgt := 96) hx hb dX12_count_1 (by decide) (by decide) (by decide) (by decide) ?_
      refine lv_aload_n hx hb dX12_count_96 rfl (lv_at hl 0 rfl) ?_
      refine x_get (ci := 12) (C := RX12) (T := TX12) (N := 31) (v := .int 0) B h hin12 0 26 rfl rfl (by decide) (by decide +kernel) rfl dX12_count_97 ?_
      exact x_iret (w1 := (fun _ => (WM cI cJ cB cZ bd))) 9 B h hr rfl (Or.inr (Or.inr (Or.inr (Or.inr (Or.inr (Or.inr (Or.inr (Or.inr (Or.inr (Or.inl ⟨rfl, rfl, rfl⟩)))))))))) dX12_count_100
    · skip
      obtain rfl : p1 = 9 := e_1.trans (by decide)
      refine lv_tableIn (off := 100) (tgt := 101) hx hb dX12_count_1 (by decide) (by decide) (by decide) (by decide) ?_
      refine lv_aload_n hx hb dX12_count_101 rfl (lv_at hl 0 rfl) ?_
      refine x_get (ci := 12) (C := RX12) (T := TX12) (N := 31) (v := .int 0) B h hin12 0 1 rfl rfl (by decide) (by decide +kernel) rfl dX12_count_102 ?_
      exact x_iret (w1 := (fun _ => (WM cI cJ cB cZ bd))) 10 B h hr rfl (Or.inr (Or.inr (Or.inr (Or.inr (Or.inr (Or.inr (Or.inr (Or.inr (Or.inr (Or.inr (⟨rfl, rfl, rfl⟩))))))))))) dX12_count_105
