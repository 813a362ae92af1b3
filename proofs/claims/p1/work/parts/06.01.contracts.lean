set_option maxHeartbeats 4000000 in
set_option maxRecDepth 100000 in
theorem k9_X12_puts (l : Launch) (D : va_G) (cI cJ cB cZ : ClassId) (ad bd : Nat → Nat) (p1 : Int32) (u_5 : Nat → Int32) : MetV l yX12_puts wsX12_puts 0 0 0 0 D (TYS cI cJ cB cZ) (WM cI cJ cB cZ bd (tape := u_5) (taped := 12)) [.ref (bd 0), .int p1] (fun _ : (Nat → Int32) => True) (fun u : (Nat → Int32) => (WM cI cJ cB cZ bd (tape := u) (taped := 16))) := by
  refine x_startV (ty := .int) (cc := cX12_puts) (by decide) rfl (Nat.le_of_ble_eq_true rfl) ?_
  intro p e s m args below meth c A ls B hr hnm h hl
  have hx := B.1.1
  have hb := B.1.2.1
  have hml := B.1.2.2.1
  have hts := B.1.2.2.2.2
  have hown : s.vm.findClass RX12 = some m.cls := B.1.2.2.2.1
  have hin12 : ∀ w ∈ u_ws RX12 TX12 31, w ∈ wsX12_puts := by decide +kernel
  have hl : lv_has ls 3 [(0, .ref (bd 0)), (1, .int p1)] := hl
  refine lv_bipush (v := 24) hx hb dX12_puts_0 (by decide) ?_
  refine lv_istore_n (lv' := [(2, .int 24), (0, .ref (bd 0)), (1, .int p1)]) hx hb dX12_puts_2 rfl hl (by decide) rfl (fun ls hl => ?_)
  refine lv_iload_n hx hb dX12_puts_3 rfl (lv_at hl 0 rfl) ?_
  refine lv_if_lt (tgt := 36) hx hb dX12_puts_4 (by decide) (fun c_1 => absurd c_1 (by decide)) (fun c_1 => ?_)
  refine lv_aload_n hx hb dX12_puts_7 rfl (lv_at hl 1 rfl) ?_
  refine x_get (ci := 12) (C := RX12) (T := TX12) (N := 31) (v := .ref (bd 1)) B h hin12 0 0 rfl rfl (by decide) (by decide +kernel) rfl dX12_puts_8 ?_
  refine lv_aload_n hx hb dX12_puts_11 rfl (lv_at hl 1 rfl) ?_
  refine x_get (ci := 12) (C := RX12) (T := TX12) (N := 31) (v := .int 12) B h hin12 0 1 rfl rfl (by decide) (by decide +kernel) rfl dX12_puts_12 ?_
  refine lv_iload_n hx hb dX12_puts_15 rfl (lv_at hl 2 rfl) ?_
  refine lv_iload_n hx hb dX12_puts_16 rfl (lv_at hl 0 rfl) ?_
  refine lv_ishr hx hb dX12_puts_17 ?_
  refine lv_topi (fun v_2 _ => ?_)
  refine lv_i2b hx hb dX12_puts_18 rfl ?_
  refine lv_topi (fun v_3 _ => ?_)
  refine x_bast B h 1 2 rfl rfl (vp_in_iff.mpr (by decide)) dX12_puts_19 (fun H locs f_4 h => ?_)
  have h : Hp D A s.heap (WM cI cJ cB cZ bd (tape := f_4) (taped := 12)) H locs := h
  refine lv_aload_n hx hb dX12_puts_20 rfl (lv_at hl 1 rfl) ?_
  refine lv_dup hx hb dX12_puts_21 rfl ?_
  refine x_get (ci := 12) (C := RX12) (T := TX12) (N := 31) (v := .int 12) B h hin12 0 1 rfl rfl (by decide) (by decide +kernel) rfl dX12_puts_22 ?_
  refine lv_iconst (v := 1) hx hb dX12_puts_25 (by decide) ?_
  refine lv_iadd hx hb dX12_puts_26 ?_
  refine lv_topi (fun v_5 ev_5 => ?_)
  obtain rfl : v_5 = 13 := ev_5.trans (by decide)
  refine x_put (ci := 12) (C := RX12) (T := TX12) (N := 31) (v := .int 13) (ty := .int) B h hin12 tyX12 tyX12_ok nmX12 0 1 rfl rfl (by decide) (by decide +kernel) rfl rfl rfl rfl (Nat.le_of_ble_eq_true rfl) dX12_puts_27 (fun H locs h => ?_)
  have h : Hp D A s.heap (WM cI cJ cB cZ bd (tape := f_4) (taped := 13)) H locs := h
  refine lv_iinc (v := 16) (lv' := [(2, .int 16), (0, .ref (bd 0)), (1, .int p1)]) hx hb dX12_puts_30 hl (k := 0) rfl (by decide) (by decide) rfl (fun ls hl => ?_)
  refine lv_goto (tgt := 3) hx hb dX12_puts_33 (by decide) ?_
  refine lv_iload_n hx hb dX12_puts_3 rfl (lv_at hl 0 rfl) ?_
  refine lv_if_lt (tgt := 36) hx hb dX12_puts_4 (by decide) (fun c_6 => absurd c_6 (by decide)) (fun c_6 => ?_)
  refine lv_aload_n hx hb dX12_puts_7 rfl (lv_at hl 1 rfl) ?_
  refine x_get (ci := 12) (C := RX12) (T := TX12) (N := 31) (v := .ref (bd 1)) B h hin12 0 0 rfl rfl (by decide) (by decide +kernel) rfl dX12_puts_8 ?_
  refine lv_aload_n hx hb dX12_puts_11 rfl (lv_at hl 1 rfl) ?_
  refine x_get (ci := 12) (C := RX12) (T := TX12) (N := 31) (v := .int 13) B h hin12 0 1 rfl rfl (by decide) (by decide +kernel) rfl dX12_puts_12 ?_
  refine lv_iload_n hx hb dX12_puts_15 rfl (lv_at hl 2 rfl) ?_
  refine lv_iload_n hx hb dX12_puts_16 rfl (lv_at hl 0 rfl) ?_
  refine lv_ishr hx hb dX12_puts_17 ?_
  refine lv_topi (fun v_7 _ => ?_)
  refine lv_i2b hx hb dX12_puts_18 rfl ?_
  refine lv_topi (fun v_8 _ => ?_)
  refine x_bast B h 1 2 rfl rfl (vp_in_iff.mpr (by decide)) dX12_puts_19 (fun H locs f_9 h => ?_)
  have h : Hp D A s.heap (WM cI cJ cB cZ bd (tape := f_9) (taped := 13)) H locs := h
  refine lv_aload_n hx hb dX12_puts_20 rfl (lv_at hl 1 rfl) ?_
  refine lv_dup hx hb dX12_puts_21 rfl ?_
  refine x_get (ci := 12) (C := RX12) (T := TX12) (N := 31) (v := .int 13) B h hin12 0 1 rfl rfl (by decide) (by decide +kernel) rfl dX12_puts_22 ?_
  refine lv_iconst (v := 1) hx hb dX12_puts_25 (by decide) ?_
  refine lv_iadd hx hb dX12_puts_26 ?_
  refine lv_topi (fun v_10 ev_10 => ?_)
  obtain rfl : v_10 = 14 := ev_10.trans (by decide)
  refine x_put (ci := 12) (C := RX12) (T := TX12) (N := 31) (v := .int 14) (ty := .int) B h hin12 tyX12 tyX12_ok nmX12 0 1 rfl rfl (by decide) (by decide +kernel) rfl rfl rfl rfl (Nat.le_of_ble_eq_true rfl) dX12_puts_27 (fun H locs h => ?_)
  have h : Hp D A s.heap (WM cI cJ cB cZ bd (tape := f_9) (taped := 14)) H locs := h
  refine lv_iinc (v := 8) (lv' := [(2, .int 8), (0, .ref (bd 0)), (1, .int p1)]) hx hb dX12_puts_30 hl (k := 0) rfl (by decide) (by decide) rfl (fun ls hl => ?_)
  refine lv_goto (tgt := 3) hx hb dX12_puts_33 (by decide) ?_
  refine lv_iload_n hx hb dX12_puts_3 rfl (lv_at hl 0 rfl) ?_
  refine lv_if_lt (tgt := 36) hx hb dX12_puts_4 (by decide) (fun c_11 => absurd c_11 (by decide)) (fun c_11 => ?_)
  refine lv_aload_n hx hb dX12_puts_7 rfl (lv_at hl 1 rfl) ?_
  refine x_get (ci := 12) (C := RX12) (T := TX12) (N := 31) (v := .ref (bd 1)) B h hin12 0 0 rfl rfl (by decide) (by decide +kernel) rfl dX12_puts_8 ?_
  refine lv_aload_n hx hb dX12_puts_11 rfl (lv_at hl 1 rfl) ?_
  refine x_get (ci := 12) (C := RX12) (T := TX12) (N := 31) (v := .int 14) B h hin12 0 1 rfl rfl (by decide) (by decide +kernel) rfl dX12_puts_12 ?_
  refine lv_iload_n hx hb dX12_puts_15 rfl (lv_at hl 2 rfl) ?_
  refine lv_iload_n hx hb dX12_puts_16 rfl (lv_at hl 0 rfl) ?_
  refine lv_ishr hx hb dX12_puts_17 ?_
  refine lv_topi (fun v_12 _ => ?_)
  refine lv_i2b hx hb dX12_puts_18 rfl ?_
  refine lv_topi (fun v_13 _ => ?_)
  refine x_bast B h 1 2 rfl rfl (vp_in_iff.mpr (by decide)) dX12_puts_19 (fun H locs f_14 h => ?_)
  have h : Hp D A s.heap (WM cI cJ cB cZ bd (tape := f_14) (taped := 14)) H locs := h
  refine lv_aload_n hx hb dX12_puts_20 rfl (lv_at hl 1 rfl) ?_
  refine lv_dup hx hb dX12_puts_21 rfl ?_
  refine x_get (ci := 12) (C := RX12) (T := TX12) (N := 31) (v := .int 14) B h hin12 0 1 rfl rfl (by decide) (by decide +kernel) rfl dX12_puts_22 ?_
  refine lv_iconst (v := 1) hx hb dX12_puts_25 (by decide) ?_
  refine lv_iadd hx hb dX12_puts_26 ?_
  refine lv_topi (fun v_15 ev_15 => ?_)
  obtain rfl : v_15 = 15 := ev_15.trans (by decide)
  refine x_put (ci := 12) (C := RX12) (T := TX12) (N := 31) (v := .int 15) (ty := .int) B h hin12 tyX12 tyX12_ok nmX12 0 1 rfl rfl (by decide) (by decide +kernel) rfl rfl rfl rfl (Nat.le_of_ble_eq_true rfl) dX12_puts_27 (fun H locs h => ?_)
  have h : Hp D A s.heap (WM cI cJ cB cZ bd (tape := f_14) (taped := 15)) H locs := h
  refine lv_iinc (v := 0) (lv' := [(2, .int 0), (0, .ref (bd 0)), (1, .int p1)]) hx hb dX12_puts_30 hl (k := 0) rfl (by decide) (by decide) rfl (fun ls hl => ?_)
  refine lv_goto (tgt := 3) hx hb dX12_puts_33 (by decide) ?_
  refine lv_iload_n hx hb dX12_puts_3 rfl (lv_at hl 0 rfl) ?_
  refine lv_if_lt (tgt := 36) hx hb dX12_puts_4 (by decide) (fun c_16 => absurd c_16 (by decide)) (fun c_16 => ?_)
  refine lv_aload_n hx hb dX12_puts_7 rfl (lv_at hl 1 rfl) ?_
  refine x_get (ci := 12) (C := RX12) (T := TX12) (N := 31) (v := .ref (bd 1)) B h hin12 0 0 rfl rfl (by decide) (by decide +kernel) rfl dX12_puts_8 ?_
  refine lv_aload_n hx hb dX12_puts_11 rfl (lv_at hl 1 rfl) ?_
  refine x_get (ci := 12) (C := RX12) (T := TX12) (N := 31) (v := .int 15) B h hin12 0 1 rfl rfl (by decide) (by decide +kernel) rfl dX12_puts_12 ?_
  refine lv_iload_n hx hb dX12_puts_15 rfl (lv_at hl 2 rfl) ?_
  refine lv_iload_n hx hb dX12_puts_16 rfl (lv_at hl 0 rfl) ?_
  refine lv_ishr hx hb dX12_puts_17 ?_
  refine lv_topi (fun v_17 _ => ?_)
  refine lv_i2b hx hb dX12_puts_18 rfl ?_
  refine lv_topi (fun v_18 _ => ?_)
  refine x_bast B h 1 2 rfl rfl (vp_in_iff.mpr (by decide)) dX12_puts_19 (fun H locs f_19 h => ?_)
  have h : Hp D A s.heap (WM cI cJ cB cZ bd (tape := f_19) (taped := 15)) H locs := h
  refine lv_aload_n hx hb dX12_puts_20 rfl (lv_at hl 1 rfl) ?_
  refine lv_dup hx hb dX12_puts_21 rfl ?_
  refine x_get (ci := 12) (C := RX12) (T := TX12) (N := 31) (v := .int 15) B h hin12 0 1 rfl rfl (by decide) (by decide +kernel) rfl dX12_puts_22 ?_
  refine lv_iconst (v := 1) hx hb dX12_puts_25 (by decide) ?_
  refine lv_iadd hx hb dX12_puts_26 ?_
  refine lv_topi (fun v_20 ev_20 => ?_)
  obtain rfl : v_20 = 16 := ev_20.trans (by decide)
  refine x_put (ci := 12) (C := RX12) (T := TX12) (N := 31) (v := .int 16) (ty := .int) B h hin12 tyX12 tyX12_ok nmX12 0 1 rfl rfl (by decide) (by decide +kernel) rfl rfl rfl rfl (Nat.le_of_ble_eq_true rfl) dX12_puts_27 (fun H locs h => ?_)
  have h : Hp D A s.heap (WM cI cJ cB cZ bd (tape := f_19) (taped := 16)) H locs := h
  refine lv_iinc (v := (-8)) (lv' := [(2, .int (-8)), (0, .ref (bd 0)), (1, .int p1)]) hx hb dX12_puts_30 hl (k := 0) rfl (by decide) (by decide) rfl (fun ls hl => ?_)
  refine lv_goto (tgt := 3) hx hb dX12_puts_33 (by decide) ?_
  refine lv_iload_n hx hb dX12_puts_3 rfl (lv_at hl 0 rfl) ?_
  refine lv_if_lt (tgt := 36) hx hb dX12_puts_4 (by decide) (fun c_21 => ?_) (fun c_21 => absurd c_21 (by decide))
  exact x_vret (w1 := (fun u : (Nat → Int32) => (WM cI cJ cB cZ bd (tape := u) (taped := 16)))) (f_19) B h hr trivial dX12_puts_36
set_option maxHeartbeats 4000000 in
set_option maxRecDepth 100000 in
theorem k10_X12_puts (l : Launch) (D : va_G) (cI cJ cB cZ : ClassId) (ad bd : Nat → Nat) (p1 : Int32) (u_6 : Nat → Int32) : MetV l yX12_puts wsX12_puts 0 0 0 0 D (TYS cI cJ cB cZ) (WM cI cJ cB cZ bd (tape := u_6) (taped := 16)) [.ref (bd 0), .int p1] (fun _ : (Nat → Int32) => True) (fun u : (Nat → Int32) => (WM cI cJ cB cZ bd (tape := u) (taped := 20))) := by
  refine x_startV (ty := .int) (cc := cX12_puts) (by decide) rfl (Nat.le_of_ble_eq_true rfl) ?_
  intro p e s m args below meth c A ls B hr hnm h hl
  have hx := B.1.1
  have hb := B.1.2.1
  have hml := B.1.2.2.1
  have hts := B.1.2.2.2.2
  have hown : s.vm.findClass RX12 = some m.cls := B.1.2.2.2.1
  have hin12 : ∀ w ∈ u_ws RX12 TX12 31, w ∈ wsX12_puts := by decide +kernel
  have hl : lv_has ls 3 [(0, .ref (bd 0)), (1, .int p1)] := hl
  refine lv_bipush (v := 24) hx hb dX12_puts_0 (by decide) ?_
  refine lv_istore_n (lv' := [(2, .int 24), (0, .ref (bd 0)), (1, .int p1)]) hx hb dX12_puts_2 rfl hl (by decide) rfl (fun ls hl => ?_)
  refine lv_iload_n hx hb dX12_puts_3 rfl (lv_at hl 0 rfl) ?_
  refine lv_if_lt (tgt := 36) hx hb dX12_puts_4 (by decide) (fun c_1 => absurd c_1 (by decide)) (fun c_1 => ?_)
  refine lv_aload_n hx hb dX12_puts_7 rfl (lv_at hl 1 rfl) ?_
  refine x_get (ci := 12) (C := RX12) (T := TX12) (N := 31) (v := .ref (bd 1)) B h hin12 0 0 rfl rfl (by decide) (by decide +kernel) rfl dX12_puts_8 ?_
  refine lv_aload_n hx hb dX12_puts_11 rfl (lv_at hl 1 rfl) ?_
  refine x_get (ci := 12) (C := RX12) (T := TX12) (N := 31) (v := .int 16) B h hin12 0 1 rfl rfl (by decide) (by decide +kernel) rfl dX12_puts_12 ?_
  refine lv_iload_n hx hb dX12_puts_15 rfl (lv_at hl 2 rfl) ?_
  refine lv_iload_n hx hb dX12_puts_16 rfl (lv_at hl 0 rfl) ?_
  refine lv_ishr hx hb dX12_puts_17 ?_
  refine lv_topi (fun v_2 _ => ?_)
  refine lv_i2b hx hb dX12_puts_18 rfl ?_
  refine lv_topi (fun v_3 _ => ?_)
  refine x_bast B h 1 2 rfl rfl (vp_in_iff.mpr (by decide)) dX12_puts_19 (fun H locs f_4 h => ?_)
  have h : Hp D A s.heap (WM cI cJ cB cZ bd (tape := f_4) (taped := 16)) H locs := h
  refine lv_aload_n hx hb dX12_puts_20 rfl (lv_at hl 1 rfl) ?_
  refine lv_dup hx hb dX12_puts_21 rfl ?_
  refine x_get (ci := 12) (C := RX12) (T := TX12) (N := 31) (v := .int 16) B h hin12 0 1 rfl rfl (by decide) (by decide +kernel) rfl dX12_puts_22 ?_
  refine lv_iconst (v := 1) hx hb dX12_puts_25 (by decide) ?_
  refine lv_iadd hx hb dX12_puts_26 ?_
  refine lv_topi (fun v_5 ev_5 => ?_)
  obtain rfl : v_5 = 17 := ev_5.trans (by decide)
  refine x_put (ci := 12) (C := RX12) (T := TX12) (N := 31) (v := .int 17) (ty := .int) B h hin12 tyX12 tyX12_ok nmX12 0 1 rfl rfl (by decide) (by decide +kernel) rfl rfl rfl rfl (Nat.le_of_ble_eq_true rfl) dX12_puts_27 (fun H locs h => ?_)
  have h : Hp D A s.heap (WM cI cJ cB cZ bd (tape := f_4) (taped := 17)) H locs := h
  refine lv_iinc (v := 16) (lv' := [(2, .int 16), (0, .ref (bd 0)), (1, .int p1)]) hx hb dX12_puts_30 hl (k := 0) rfl (by decide) (by decide) rfl (fun ls hl => ?_)
  refine lv_goto (tgt := 3) hx hb dX12_puts_33 (by decide) ?_
  refine lv_iload_n hx hb dX12_puts_3 rfl (lv_at hl 0 rfl) ?_
  refine lv_if_lt (tgt := 36) hx hb dX12_puts_4 (by decide) (fun c_6 => absurd c_6 (by decide)) (fun c_6 => ?_)
  refine lv_aload_n hx hb dX12_puts_7 rfl (lv_at hl 1 rfl) ?_
  refine x_get (ci := 12) (C := RX12) (T := TX12) (N := 31) (v := .ref (bd 1)) B h hin12 0 0 rfl rfl (by decide) (by decide +kernel) rfl dX12_puts_8 ?_
  refine lv_aload_n hx hb dX12_puts_11 rfl (lv_at hl 1 rfl) ?_
  refine x_get (ci := 12) (C := RX12) (T := TX12) (N := 31) (v := .int 17) B h hin12 0 1 rfl rfl (by decide) (by decide +kernel) rfl dX12_puts_12 ?_
  refine lv_iload_n hx hb dX12_puts_15 rfl (lv_at hl 2 rfl) ?_
  refine lv_iload_n hx hb dX12_puts_16 rfl (lv_at hl 0 rfl) ?_
  refine lv_ishr hx hb dX12_puts_17 ?_
  refine lv_topi (fun v_7 _ => ?_)
  refine lv_i2b hx hb dX12_puts_18 rfl ?_
  refine lv_topi (fun v_8 _ => ?_)
  refine x_bast B h 1 2 rfl rfl (vp_in_iff.mpr (by decide)) dX12_puts_19 (fun H locs f_9 h => ?_)
  have h : Hp D A s.heap (WM cI cJ cB cZ bd (tape := f_9) (taped := 17)) H locs := h
  refine lv_aload_n hx hb dX12_puts_20 rfl (lv_at hl 1 rfl) ?_
  refine lv_dup hx hb dX12_puts_21 rfl ?_
  refine x_get (ci := 12) (C := RX12) (T := TX12) (N := 31) (v := .int 17) B h hin12 0 1 rfl rfl (by decide) (by decide +kernel) rfl dX12_puts_22 ?_
  refine lv_iconst (v := 1) hx hb dX12_puts_25 (by decide) ?_
  refine lv_iadd hx hb dX12_puts_26 ?_
  refine lv_topi (fun v_10 ev_10 => ?_)
  obtain rfl : v_10 = 18 := ev_10.trans (by decide)
  refine x_put (ci := 12) (C := RX12) (T := TX12) (N := 31) (v := .int 18) (ty := .int) B h hin12 tyX12 tyX12_ok nmX12 0 1 rfl rfl (by decide) (by decide +kernel) rfl rfl rfl rfl (Nat.le_of_ble_eq_true rfl) dX12_puts_27 (fun H locs h => ?_)
  have h : Hp D A s.heap (WM cI cJ cB cZ bd (tape := f_9) (taped := 18)) H locs := h
  refine lv_iinc (v := 8) (lv' := [(2, .int 8), (0, .ref (bd 0)), (1, .int p1)]) hx hb dX12_puts_30 hl (k := 0) rfl (by decide) (by decide) rfl (fun ls hl => ?_)
  refine lv_goto (tgt := 3) hx hb dX12_puts_33 (by decide) ?_
  refine lv_iload_n hx hb dX12_puts_3 rfl (lv_at hl 0 rfl) ?_
  refine lv_if_lt (tgt := 36) hx hb dX12_puts_4 (by decide) (fun c_11 => absurd c_11 (by decide)) (fun c_11 => ?_)
  refine lv_aload_n hx hb dX12_puts_7 rfl (lv_at hl 1 rfl) ?_
  refine x_get (ci := 12) (C := RX12) (T := TX12) (N := 31) (v := .ref (bd 1)) B h hin12 0 0 rfl rfl (by decide) (by decide +kernel) rfl dX12_puts_8 ?_
  refine lv_aload_n hx hb dX12_puts_11 rfl (lv_at hl 1 rfl) ?_
  refine x_get (ci := 12) (C := RX12) (T := TX12) (N := 31) (v := .int 18) B h hin12 0 1 rfl rfl (by decide) (by decide +kernel) rfl dX12_puts_12 ?_
  refine lv_iload_n hx hb dX12_puts_15 rfl (lv_at hl 2 rfl) ?_
  refine lv_iload_n hx hb dX12_puts_16 rfl (lv_at hl 0 rfl) ?_
  refine lv_ishr hx hb dX12_puts_17 ?_
  refine lv_topi (fun v_12 _ => ?_)
  refine lv_i2b hx hb dX12_puts_18 rfl ?_
  refine lv_topi (fun v_13 _ => ?_)
  refine x_bast B h 1 2 rfl rfl (vp_in_iff.mpr (by decide)) dX12_puts_19 (fun H locs f_14 h => ?_)
  have h : Hp D A s.heap (WM cI cJ cB cZ bd (tape := f_14) (taped := 18)) H locs := h
  refine lv_aload_n hx hb dX12_puts_20 rfl (lv_at hl 1 rfl) ?_
  refine lv_dup hx hb dX12_puts_21 rfl ?_
  refine x_get (ci := 12) (C := RX12) (T := TX12) (N := 31) (v := .int 18) B h hin12 0 1 rfl rfl (by decide) (by decide +kernel) rfl dX12_puts_22 ?_
  refine lv_iconst (v := 1) hx hb dX12_puts_25 (by decide) ?_
  refine lv_iadd hx hb dX12_puts_26 ?_
  refine lv_topi (fun v_15 ev_15 => ?_)
  obtain rfl : v_15 = 19 := ev_15.trans (by decide)
  refine x_put (ci := 12) (C := RX12) (T := TX12) (N := 31) (v := .int 19) (ty := .int) B h hin12 tyX12 tyX12_ok nmX12 0 1 rfl rfl (by decide) (by decide +kernel) rfl rfl rfl rfl (Nat.le_of_ble_eq_true rfl) dX12_puts_27 (fun H locs h => ?_)
  have h : Hp D A s.heap (WM cI cJ cB cZ bd (tape := f_14) (taped := 19)) H locs := h
  refine lv_iinc (v := 0) (lv' := [(2, .int 0), (0, .ref (bd 0)), (1, .int p1)]) hx hb dX12_puts_30 hl (k := 0) rfl (by decide) (by decide) rfl (fun ls hl => ?_)
  refine lv_goto (tgt := 3) hx hb dX12_puts_33 (by decide) ?_
  refine lv_iload_n hx hb dX12_puts_3 rfl (lv_at hl 0 rfl) ?_
  refine lv_if_lt (tgt := 36) hx hb dX12_puts_4 (by decide) (fun c_16 => absurd c_16 (by decide)) (fun c_16 => ?_)
  refine lv_aload_n hx hb dX12_puts_7 rfl (lv_at hl 1 rfl) ?_
  refine x_get (ci := 12) (C := RX12) (T := TX12) (N := 31) (v := .ref (bd 1)) B h hin12 0 0 rfl rfl (by decide) (by decide +kernel) rfl dX12_puts_8 ?_
  refine lv_aload_n hx hb dX12_puts_11 rfl (lv_at hl 1 rfl) ?_
  refine x_get (ci := 12) (C := RX12) (T := TX12) (N := 31) (v := .int 19) B h hin12 0 1 rfl rfl (by decide) (by decide +kernel) rfl dX12_puts_12 ?_
  refine lv_iload_n hx hb dX12_puts_15 rfl (lv_at hl 2 rfl) ?_
  refine lv_iload_n hx hb dX12_puts_16 rfl (lv_at hl 0 rfl) ?_
  refine lv_ishr hx hb dX12_puts_17 ?_
  refine lv_topi (fun v_17 _ => ?_)
  refine lv_i2b hx hb dX12_puts_18 rfl ?_
  refine lv_topi (fun v_18 _ => ?_)
  refine x_bast B h 1 2 rfl rfl (vp_in_iff.mpr (by decide)) dX12_puts_19 (fun H locs f_19 h => ?_)
  have h : Hp D A s.heap (WM cI cJ cB cZ bd (tape := f_19) (taped := 19)) H locs := h
  refine lv_aload_n hx hb dX12_puts_20 rfl (lv_at hl 1 rfl) ?_
  refine lv_dup hx hb dX12_puts_21 rfl ?_
  refine x_get (ci := 12) (C := RX12) (T := TX12) (N := 31) (v := .int 19) B h hin12 0 1 rfl rfl (by decide) (by decide +kernel) rfl dX12_puts_22 ?_
  refine lv_iconst (v := 1) hx hb dX12_puts_25 (by decide) ?_
  refine lv_iadd hx hb dX12_puts_26 ?_
  refine lv_topi (fun v_20 ev_20 => ?_)
  obtain rfl : v_20 = 20 := ev_20.trans (by decide)
  refine x_put (ci := 12) (C := RX12) (T := TX12) (N := 31) (v := .int 20) (ty := .int) B h hin12 tyX12 tyX12_ok nmX12 0 1 rfl rfl (by decide) (by decide +kernel) rfl rfl rfl rfl (Nat.le_of_ble_eq_true rfl) dX12_puts_27 (fun H locs h => ?_)
  have h : Hp D A s.heap (WM cI cJ cB cZ bd (tape := f_19) (taped := 20)) H locs := h
  refine lv_iinc (v := (-8)) (lv' := [(2, .int (-8)), (0, .ref (bd 0)), (1, .int p1)]) hx hb dX12_puts_30 hl (k := 0) rfl (by decide) (by decide) rfl (fun ls hl => ?_)
  refine lv_goto (tgt := 3) hx hb dX12_puts_33 (by decide) ?_
  refine lv_iload_n hx hb dX12_puts_3 rfl (lv_at hl 0 rfl) ?_
  refine lv_if_lt (tgt := 36) hx hb dX12_puts_4 (by decide) (fun c_21 => ?_) (fun c_21 => absurd c_21 (by decide))
  exact x_vret (w1 := (fun u : (Nat → Int32) => (WM cI cJ cB cZ bd (tape := u) (taped := 20)))) (f_19) B h hr trivial dX12_puts_36
set_option maxHeartbeats 4000000 in
set_option maxRecDepth 100000 in
theorem k11_X12_feed (l : Launch) (D : va_G) (cI cJ cB cZ : ClassId) (ad bd : Nat → Nat) (p1 : Int32) (p2 : Int32) (p3 : Int32) (p4 : Int32) (p5 : Int32) : MetI l yX12_feed wsX12_feed 1 22 0 0 D (TYS cI cJ cB cZ) (WM cI cJ cB cZ bd) [.ref (bd 0), .int p1, .int p2, .int p3, .int p4, .int p5] (fun (r : Int32) (_ : (Nat → Int32)) => r = 20) (fun u : (Nat → Int32) => (WM cI cJ cB cZ bd (tape := u) (taped := 20))) := by
  refine x_startI (ty := .int) (cc := cX12_feed) (by decide) rfl (Nat.le_of_ble_eq_true rfl) ?_
  intro p e s m args below meth c A ls B hr hnm h hl
  have hx := B.1.1
  have hb := B.1.2.1
  have hml := B.1.2.2.1
  have hts := B.1.2.2.2.2
  have hown : s.vm.findClass RX12 = some m.cls := B.1.2.2.2.1
  have hin12 : ∀ w ∈ u_ws RX12 TX12 31, w ∈ wsX12_feed := by decide +kernel
  have hl : lv_has ls 6 [(0, .ref (bd 0)), (1, .int p1), (2, .int p2), (3, .int p3), (4, .int p4), (5, .int p5)] := hl
  refine lv_aload_n hx hb dX12_feed_0 rfl (lv_at hl 0 rfl) ?_
  refine x_get (ci := 12) (C := RX12) (T := TX12) (N := 31) (v := .int 0) B h hin12 0 1 rfl rfl (by decide) (by decide +kernel) rfl dX12_feed_1 ?_
  refine lv_bipush (v := 20) hx hb dX12_feed_4 (by decide) ?_
  refine lv_iadd hx hb dX12_feed_6 ?_
  refine lv_topi (fun v_1 ev_1 => ?_)
  obtain rfl : v_1 = 20 := ev_1.trans (by decide)
  refine lv_sipush (v := 160) hx hb dX12_feed_7 (by decide) ?_
  refine lv_icmp_le (tgt := 15) hx hb dX12_feed_10 (by decide) (fun c_2 => ?_) (fun c_2 => absurd c_2 (by decide))
  refine lv_aload_n hx hb dX12_feed_15 rfl (lv_at hl 0 rfl) ?_
  refine lv_iload_n hx hb dX12_feed_16 rfl (lv_at hl 1 rfl) ?_
  refine x_cVVF (n := 1) (As := [.int p1]) (rest := []) B h (k6_X12_puts l D cI cJ cB cZ ad bd p1) ⟨⟨_, rfl⟩, by decide +kernel, Nat.le_of_ble_eq_true rfl, Nat.le_of_ble_eq_true rfl⟩ gX12_feed_X12_puts (show ((WM cI cJ cB cZ bd) : va_W)[0]? = some (_, .inr (12, _)) from rfl) rfl rfl hl.1 rfl (Nat.le_of_ble_eq_true rfl) dX12_feed_17 ⟨Nat.le_of_ble_eq_true rfl, Nat.le_of_ble_eq_true rfl⟩ (fun u_3 H locs hp_3 h => ?_)
  have h : Hp D A s.heap (WM cI cJ cB cZ bd (tape := u_3) (taped := 4)) H locs := h
  refine lv_aload_n hx hb dX12_feed_20 rfl (lv_at hl 0 rfl) ?_
  refine lv_iload_n hx hb dX12_feed_21 rfl (lv_at hl 2 rfl) ?_
  refine x_cVVF (n := 1) (As := [.int p2]) (rest := []) B h (k7_X12_puts l D cI cJ cB cZ ad bd p2 u_3) ⟨⟨_, rfl⟩, by decide +kernel, Nat.le_of_ble_eq_true rfl, Nat.le_of_ble_eq_true rfl⟩ gX12_feed_X12_puts (show ((WM cI cJ cB cZ bd (tape := u_3) (taped := 4)) : va_W)[0]? = some (_, .inr (12, _)) from rfl) rfl rfl hl.1 rfl (Nat.le_of_ble_eq_true rfl) dX12_feed_22 ⟨Nat.le_of_ble_eq_true rfl, Nat.le_of_ble_eq_true rfl⟩ (fun u_4 H locs hp_4 h => ?_)
  have h : Hp D A s.heap (WM cI cJ cB cZ bd (tape := u_4) (taped := 8)) H locs := h
  refine lv_aload_n hx hb dX12_feed_25 rfl (lv_at hl 0 rfl) ?_
  refine lv_iload_n hx hb dX12_feed_26 rfl (lv_at hl 3 rfl) ?_
  refine x_cVVF (n := 1) (As := [.int p3]) (rest := []) B h (k8_X12_puts l D cI cJ cB cZ ad bd p3 u_4) ⟨⟨_, rfl⟩, by decide +kernel, Nat.le_of_ble_eq_true rfl, Nat.le_of_ble_eq_true rfl⟩ gX12_feed_X12_puts (show ((WM cI cJ cB cZ bd (tape := u_4) (taped := 8)) : va_W)[0]? = some (_, .inr (12, _)) from rfl) rfl rfl hl.1 rfl (Nat.le_of_ble_eq_true rfl) dX12_feed_27 ⟨Nat.le_of_ble_eq_true rfl, Nat.le_of_ble_eq_true rfl⟩ (fun u_5 H locs hp_5 h => ?_)
  have h : Hp D A s.heap (WM cI cJ cB cZ bd (tape := u_5) (taped := 12)) H locs := h
  refine lv_aload_n hx hb dX12_feed_30 rfl (lv_at hl 0 rfl) ?_
  refine lv_iload hx hb dX12_feed_31 (lv_at hl 4 rfl) ?_
  refine x_cVVF (n := 1) (As := [.int p4]) (rest := []) B h (k9_X12_puts l D cI cJ cB cZ ad bd p4 u_5) ⟨⟨_, rfl⟩, by decide +kernel, Nat.le_of_ble_eq_true rfl, Nat.le_of_ble_eq_true rfl⟩ gX12_feed_X12_puts (show ((WM cI cJ cB cZ bd (tape := u_5) (taped := 12)) : va_W)[0]? = some (_, .inr (12, _)) from rfl) rfl rfl hl.1 rfl (Nat.le_of_ble_eq_true rfl) dX12_feed_33 ⟨Nat.le_of_ble_eq_true rfl, Nat.le_of_ble_eq_true rfl⟩ (fun u_6 H locs hp_6 h => ?_)
  have h : Hp D A s.heap (WM cI cJ cB cZ bd (tape := u_6) (taped := 16)) H locs := h
  refine lv_aload_n hx hb dX12_feed_36 rfl (lv_at hl 0 rfl) ?_
  refine lv_iload hx hb dX12_feed_37 (lv_at hl 5 rfl) ?_
  refine x_cVVF (n := 1) (As := [.int p5]) (rest := []) B h (k10_X12_puts l D cI cJ cB cZ ad bd p5 u_6) ⟨⟨_, rfl⟩, by decide +kernel, Nat.le_of_ble_eq_true rfl, Nat.le_of_ble_eq_true rfl⟩ gX12_feed_X12_puts (show ((WM cI cJ cB cZ bd (tape := u_6) (taped := 16)) : va_W)[0]? = some (_, .inr (12, _)) from rfl) rfl rfl hl.1 rfl (Nat.le_of_ble_eq_true rfl) dX12_feed_39 ⟨Nat.le_of_ble_eq_true rfl, Nat.le_of_ble_eq_true rfl⟩ (fun u_7 H locs hp_7 h => ?_)
  have h : Hp D A s.heap (WM cI cJ cB cZ bd (tape := u_7) (taped := 20)) H locs := h
  refine lv_aload_n hx hb dX12_feed_42 rfl (lv_at hl 0 rfl) ?_
  refine x_get (ci := 12) (C := RX12) (T := TX12) (N := 31) (v := .int 20) B h hin12 0 1 rfl rfl (by decide) (by decide +kernel) rfl dX12_feed_43 ?_
  exact x_iret (w1 := (fun u : (Nat → Int32) => (WM cI cJ cB cZ bd (tape := u) (taped := 20)))) (u_7) B h hr rfl rfl dX12_feed_46
set_option maxHeartbeats 4000000 in
set_option maxRecDepth 100000 in
theorem k12_X11_end (l : Launch) (D : va_G) (cI cJ cB cZ : ClassId) (ad bd : Nat → Nat) (p1 : Int32) : MetI l yX11_end wsX11_end 0 0 0 0 D (TYS cI cJ cB cZ) (WX cI cJ cB cZ ad) [.ref (ad 0), .int p1] (fun (r : Int32) (u : Nat) => (u = 0 ∧ (p1 < 0) ∧ r = (-1)) ∨ (u = 1 ∧ (¬ p1 < 0) ∧ (p1 ≤ 0) ∧ r = p1) ∨ (u = 2 ∧ (¬ p1 < 0) ∧ (¬ p1 ≤ 0) ∧ r = (-1))) (fun u : Nat => match u with | 0 => (WX cI cJ cB cZ ad) | 1 => (WX cI cJ cB cZ ad (Tape_size := p1)) | _ => (WX cI cJ cB cZ ad)) := by
  refine x_startI (ty := .int) (cc := cX11_end) (by decide) rfl (Nat.le_of_ble_eq_true rfl) ?_
  intro p e s m args below meth c A ls B hr hnm h hl
  have hx := B.1.1
  have hb := B.1.2.1
  have hml := B.1.2.2.1
  have hts := B.1.2.2.2.2
  have hown : s.vm.findClass RX11 = some m.cls := B.1.2.2.2.1
  have hin10 : ∀ w ∈ u_ws RX10 TX10 2, w ∈ wsX11_end := by decide +kernel
  have hin11 : ∀ w ∈ u_ws RX11 TX11 11, w ∈ wsX11_end := by decide +kernel
  have hl : lv_has ls 2 [(0, .ref (ad 0)), (1, .int p1)] := hl
  refine lv_iload_n hx hb dX11_end_0 rfl (lv_at hl 1 rfl) ?_
  refine lv_if_lt (tgt := 15) hx hb dX11_end_1 (by decide) (fun c_1 => ?_) (fun c_1 => ?_)
  · skip
    refine lv_iconst (v := (-1)) hx hb dX11_end_15 (by decide) ?_
    exact x_iret (w1 := (fun u : Nat => match u with | 0 => (WX cI cJ cB cZ ad) | 1 => (WX cI cJ cB cZ ad (Tape_size := p1)) | _ => (WX cI cJ cB cZ ad))) 0 B h hr rfl (Or.inl ⟨rfl, c_1, rfl⟩) dX11_end_16
  · skip
    refine lv_iload_n hx hb dX11_end_4 rfl (lv_at hl 1 rfl) ?_
    refine lv_aload_n hx hb dX11_end_5 rfl (lv_at hl 0 rfl) ?_
    refine x_get (ci := 11) (C := RX11) (T := TX11) (N := 11) (v := .ref (ad 1)) B h hin11 0 0 rfl rfl (by decide) (by decide +kernel) rfl dX11_end_6 ?_
    refine x_get (ci := 10) (C := RX10) (T := TX10) (N := 2) (v := .int 0) B h hin10 1 1 rfl rfl (by decide) (by decide +kernel) rfl dX11_end_9 ?_
    refine lv_icmp_le (tgt := 17) hx hb dX11_end_12 (by decide) (fun c_2 => ?_) (fun c_2 => ?_)
    · skip
      refine lv_aload_n hx hb dX11_end_17 rfl (lv_at hl 0 rfl) ?_
      refine x_get (ci := 11) (C := RX11) (T := TX11) (N := 11) (v := .ref (ad 1)) B h hin11 0 0 rfl rfl (by decide) (by decide +kernel) rfl dX11_end_18 ?_
      refine lv_iload_n hx hb dX11_end_21 rfl (lv_at hl 1 rfl) ?_
      refine x_put (ci := 10) (C := RX10) (T := TX10) (N := 2) (v := .int p1) (ty := .int) B h hin10 tyX10 tyX10_ok nmX10 1 1 rfl rfl (by decide) (by decide +kernel) rfl rfl rfl rfl (Nat.le_of_ble_eq_true rfl) dX11_end_22 (fun H locs h => ?_)
      have h : Hp D A s.heap (WX cI cJ cB cZ ad (Tape_size := p1)) H locs := h
      refine lv_iload_n hx hb dX11_end_25 rfl (lv_at hl 1 rfl) ?_
      exact x_iret (w1 := (fun u : Nat => match u with | 0 => (WX cI cJ cB cZ ad) | 1 => (WX cI cJ cB cZ ad (Tape_size := p1)) | _ => (WX cI cJ cB cZ ad))) 1 B h hr rfl (Or.inr (Or.inl ⟨rfl, c_1, c_2, rfl⟩)) dX11_end_26
    · skip
      refine lv_iconst (v := (-1)) hx hb dX11_end_15 (by decide) ?_
      exact x_iret (w1 := (fun u : Nat => match u with | 0 => (WX cI cJ cB cZ ad) | 1 => (WX cI cJ cB cZ ad (Tape_size := p1)) | _ => (WX cI cJ cB cZ ad))) 2 B h hr rfl (Or.inr (Or.inr (⟨rfl, c_1, c_2, rfl⟩))) dX11_end_16
set_option maxHeartbeats 4000000 in
set_option maxRecDepth 100000 in
theorem k13_X12_end (l : Launch) (D : va_G) (cI cJ cB cZ : ClassId) (ad bd : Nat → Nat) (p1 : Int32) : MetI l yX12_end wsX12_end 0 0 0 0 D (TYS cI cJ cB cZ) (WM cI cJ cB cZ bd) [.ref (bd 0), .int p1] (fun (r : Int32) (u : Nat) => (u = 0 ∧ (p1 < 0) ∧ r = (-1)) ∨ (u = 1 ∧ (¬ p1 < 0) ∧ (p1 ≤ 0) ∧ r = p1) ∨ (u = 2 ∧ (¬ p1 < 0) ∧ (¬ p1 ≤ 0) ∧ r = (-1))) (fun u : Nat => match u with | 0 => (WM cI cJ cB cZ bd) | 1 => (WM cI cJ cB cZ bd (taped := p1)) | _ => (WM cI cJ cB cZ bd)) := by
  refine x_startI (ty := .int) (cc := cX12_end) (by decide) rfl (Nat.le_of_ble_eq_true rfl) ?_
  intro p e s m args below meth c A ls B hr hnm h hl
  have hx := B.1.1
  have hb := B.1.2.1
  have hml := B.1.2.2.1
  have hts := B.1.2.2.2.2
  have hown : s.vm.findClass RX12 = some m.cls := B.1.2.2.2.1
  have hin12 : ∀ w ∈ u_ws RX12 TX12 31, w ∈ wsX12_end := by decide +kernel
  have hl : lv_has ls 2 [(0, .ref (bd 0)), (1, .int p1)] := hl
  refine lv_iload_n hx hb dX12_end_0 rfl (lv_at hl 1 rfl) ?_
  refine lv_if_lt (tgt := 12) hx hb dX12_end_1 (by decide) (fun c_1 => ?_) (fun c_1 => ?_)
  · skip
    refine lv_iconst (v := (-1)) hx hb dX12_end_12 (by decide) ?_
    exact x_iret (w1 := (fun u : Nat => match u with | 0 => (WM cI cJ cB cZ bd) | 1 => (WM cI cJ cB cZ bd (taped := p1)) | _ => (WM cI cJ cB cZ bd))) 0 B h hr rfl (Or.inl ⟨rfl, c_1, rfl⟩) dX12_end_13
  · skip
    refine lv_iload_n hx hb dX12_end_4 rfl (lv_at hl 1 rfl) ?_
    refine lv_aload_n hx hb dX12_end_5 rfl (lv_at hl 0 rfl) ?_
    refine x_get (ci := 12) (C := RX12) (T := TX12) (N := 31) (v := .int 0) B h hin12 0 1 rfl rfl (by decide) (by decide +kernel) rfl dX12_end_6 ?_
    refine lv_icmp_le (tgt := 14) hx hb dX12_end_9 (by decide) (fun c_2 => ?_) (fun c_2 => ?_)
    · skip
      refine lv_aload_n hx hb dX12_end_14 rfl (lv_at hl 0 rfl) ?_
      refine lv_iload_n hx hb dX12_end_15 rfl (lv_at hl 1 rfl) ?_
      refine x_put (ci := 12) (C := RX12) (T := TX12) (N := 31) (v := .int p1) (ty := .int) B h hin12 tyX12 tyX12_ok nmX12 0 1 rfl rfl (by decide) (by decide +kernel) rfl rfl rfl rfl (Nat.le_of_ble_eq_true rfl) dX12_end_16 (fun H locs h => ?_)
      have h : Hp D A s.heap (WM cI cJ cB cZ bd (taped := p1)) H locs := h
      refine lv_iload_n hx hb dX12_end_19 rfl (lv_at hl 1 rfl) ?_
      exact x_iret (w1 := (fun u : Nat => match u with | 0 => (WM cI cJ cB cZ bd) | 1 => (WM cI cJ cB cZ bd (taped := p1)) | _ => (WM cI cJ cB cZ bd))) 1 B h hr rfl (Or.inr (Or.inl ⟨rfl, c_1, c_2, rfl⟩)) dX12_end_20
    · skip
      refine lv_iconst (v := (-1)) hx hb dX12_end_12 (by decide) ?_
      exact x_iret (w1 := (fun u : Nat => match u with | 0 => (WM cI cJ cB cZ bd) | 1 => (WM cI cJ cB cZ bd (taped := p1)) | _ => (WM cI cJ cB cZ bd))) 2 B h hr rfl (Or.inr (Or.inr (⟨rfl, c_1, c_2, rfl⟩))) dX12_end_13
set_option maxHeartbeats 4000000 in
set_option maxRecDepth 100000 in
theorem k14_X8_skipBlanks (l : Launch) (D : va_G) (cI cJ cB cZ : ClassId) (ad bd : Nat → Nat) : MetV l yX8_skipBlanks wsX8_skipBlanks 0 0 0 0 D (TYS cI cJ cB cZ) (WX cI cJ cB cZ ad) [.ref (ad 2), .ref (ad 1)] (fun _ : Unit => True) (fun _ => (WX cI cJ cB cZ ad)) := by
  refine x_startV (ty := .int) (cc := cX8_skipBlanks) (by decide) rfl (Nat.le_of_ble_eq_true rfl) ?_
  intro p e s m args below meth c A ls B hr hnm h hl
  have hx := B.1.1
  have hb := B.1.2.1
  have hml := B.1.2.2.1
  have hts := B.1.2.2.2.2
  have hown : s.vm.findClass RX8 = some m.cls := B.1.2.2.2.1
  have hin8 : ∀ w ∈ u_ws RX8 TX8 3, w ∈ wsX8_skipBlanks := by decide +kernel
  have hin10 : ∀ w ∈ u_ws RX10 TX10 2, w ∈ wsX8_skipBlanks := by decide +kernel
  have hl : lv_has ls 2 [(0, .ref (ad 2)), (1, .ref (ad 1))] := hl
  refine lv_aload_n hx hb dX8_skipBlanks_0 rfl (lv_at hl 0 rfl) ?_
  refine x_get (ci := 8) (C := RX8) (T := TX8) (N := 3) (v := .int 0) B h hin8 2 2 rfl rfl (by decide) (by decide +kernel) rfl dX8_skipBlanks_1 ?_
  refine lv_aload_n hx hb dX8_skipBlanks_4 rfl (lv_at hl 1 rfl) ?_
  refine x_get (ci := 10) (C := RX10) (T := TX10) (N := 2) (v := .int 0) B h hin10 1 1 rfl rfl (by decide) (by decide +kernel) rfl dX8_skipBlanks_5 ?_
  refine lv_icmp_ge (tgt := 37) hx hb dX8_skipBlanks_8 (by decide) (fun c_1 => ?_) (fun c_1 => absurd c_1 (by decide))
  exact x_vret (w1 := (fun _ => (WX cI cJ cB cZ ad))) () B h hr trivial dX8_skipBlanks_37
set_option maxHeartbeats 4000000 in
set_option maxRecDepth 100000 in
theorem k15_X10_at (l : Launch) (D : va_G) (cI cJ cB cZ : ClassId) (ad bd : Nat → Nat) : MetI l yX10_at wsX10_at 0 0 0 0 D (TYS cI cJ cB cZ) (WX cI cJ cB cZ ad) [.ref (ad 1), .int 0] (fun (r : Int32) (_ : Unit) => r = (-1)) (fun _ => (WX cI cJ cB cZ ad)) := by
  refine x_startI (ty := .int) (cc := cX10_at) (by decide) rfl (Nat.le_of_ble_eq_true rfl) ?_
  intro p e s m args below meth c A ls B hr hnm h hl
  have hx := B.1.1
  have hb := B.1.2.1
  have hml := B.1.2.2.1
  have hts := B.1.2.2.2.2
  have hown : s.vm.findClass RX10 = some m.cls := B.1.2.2.2.1
  have hin10 : ∀ w ∈ u_ws RX10 TX10 2, w ∈ wsX10_at := by decide +kernel
  have hl : lv_has ls 2 [(0, .ref (ad 1)), (1, .int 0)] := hl
  refine lv_iload_n hx hb dX10_at_0 rfl (lv_at hl 1 rfl) ?_
  refine lv_if_lt (tgt := 21) hx hb dX10_at_1 (by decide) (fun c_1 => absurd c_1 (by decide)) (fun c_1 => ?_)
  refine lv_iload_n hx hb dX10_at_4 rfl (lv_at hl 1 rfl) ?_
  refine lv_aload_n hx hb dX10_at_5 rfl (lv_at hl 0 rfl) ?_
  refine x_get (ci := 10) (C := RX10) (T := TX10) (N := 2) (v := .int 0) B h hin10 1 1 rfl rfl (by decide) (by decide +kernel) rfl dX10_at_6 ?_
  refine lv_icmp_ge (tgt := 21) hx hb dX10_at_9 (by decide) (fun c_2 => ?_) (fun c_2 => absurd c_2 (by decide))
  refine lv_iconst (v := (-1)) hx hb dX10_at_21 (by decide) ?_
  exact x_iret (w1 := (fun _ => (WX cI cJ cB cZ ad))) () B h hr rfl rfl dX10_at_22
set_option maxHeartbeats 4000000 in
set_option maxRecDepth 100000 in
theorem k16_X8_isLetter (l : Launch) (D : va_G) (cI cJ cB cZ : ClassId) (ad bd : Nat → Nat) : MetI l yX8_isLetter wsX8_isLetter 0 0 0 0 D (TYS cI cJ cB cZ) [] [.int (-1)] (fun (r : Int32) (_ : Unit) => r = 0) (fun _ => []) := by
  refine x_startI (ty := .boolean) (cc := cX8_isLetter) (by decide) rfl (Nat.le_of_ble_eq_true rfl) ?_
  intro p e s m args below meth c A ls B hr hnm h hl
  have hx := B.1.1
  have hb := B.1.2.1
  have hml := B.1.2.2.1
  have hts := B.1.2.2.2.2
  have hown : s.vm.findClass RX8 = some m.cls := B.1.2.2.2.1
  have hl : lv_has ls 1 [(0, .int (-1))] := hl
  refine lv_iload_n hx hb dX8_isLetter_0 rfl (lv_at hl 0 rfl) ?_
  refine lv_bipush (v := 97) hx hb dX8_isLetter_1 (by decide) ?_
  refine lv_icmp_lt (tgt := 16) hx hb dX8_isLetter_3 (by decide) (fun c_1 => ?_) (fun c_1 => absurd c_1 (by decide))
  refine lv_iconst (v := 0) hx hb dX8_isLetter_16 (by decide) ?_
  exact x_iret (w1 := (fun _ => [])) () B h hr rfl rfl dX8_isLetter_17
set_option maxHeartbeats 4000000 in
set_option maxRecDepth 100000 in
theorem k17_X8_fault (l : Launch) (D : va_G) (cI cJ cB cZ : ClassId) (ad bd : Nat → Nat) : MetI l yX8_fault wsX8_fault 0 0 0 0 D (TYS cI cJ cB cZ) [] [.int 0, .int 1] (fun (r : Int32) (_ : Unit) => r = 1) (fun _ => []) := by
  refine x_startI (ty := .int) (cc := cX8_fault) (by decide) rfl (Nat.le_of_ble_eq_true rfl) ?_
  intro p e s m args below meth c A ls B hr hnm h hl
  have hx := B.1.1
  have hb := B.1.2.1
  have hml := B.1.2.2.1
  have hts := B.1.2.2.2.2
  have hown : s.vm.findClass RX8 = some m.cls := B.1.2.2.2.1
  have hl : lv_has ls 2 [(0, .int 0), (1, .int 1)] := hl
  refine lv_bipush (v := 8) hx hb dX8_fault_0 (by decide) ?_
  refine lv_iload_n hx hb dX8_fault_2 rfl (lv_at hl 0 rfl) ?_
  refine lv_imul hx hb dX8_fault_3 ?_
  refine lv_topi (fun v_1 ev_1 => ?_)
  obtain rfl : v_1 = 0 := ev_1.trans (by decide)
  refine lv_iload_n hx hb dX8_fault_4 rfl (lv_at hl 1 rfl) ?_
  refine lv_iadd hx hb dX8_fault_5 ?_
  refine lv_topi (fun v_2 ev_2 => ?_)
  obtain rfl : v_2 = 1 := ev_2.trans (by decide)
  exact x_iret (w1 := (fun _ => [])) () B h hr rfl rfl dX8_fault_6
set_option maxHeartbeats 4000000 in
set_option maxRecDepth 100000 in
theorem k18_X8_readFacet (l : Launch) (D : va_G) (cI cJ cB cZ : ClassId) (ad bd : Nat → Nat) : MetI l yX8_readFacet wsX8_readFacet 1 21 0 0 D (TYS cI cJ cB cZ) (WX cI cJ cB cZ ad) [.ref (ad 2), .ref (ad 1), .int 0] (fun (r : Int32) (_ : Unit) => r = 1) (fun _ => (WX cI cJ cB cZ ad)) := by
  refine x_startI (ty := .int) (cc := cX8_readFacet) (by decide) rfl (Nat.le_of_ble_eq_true rfl) ?_
  intro p e s m args below meth c A ls B hr hnm h hl
  have hx := B.1.1
  have hb := B.1.2.1
  have hml := B.1.2.2.1
  have hts := B.1.2.2.2.2
  have hown : s.vm.findClass RX8 = some m.cls := B.1.2.2.2.1
  have hin8 : ∀ w ∈ u_ws RX8 TX8 3, w ∈ wsX8_readFacet := by decide +kernel
  have hl : lv_has ls 6 [(0, .ref (ad 2)), (1, .ref (ad 1)), (2, .int 0)] := hl
  refine lv_aload_n hx hb dX8_readFacet_0 rfl (lv_at hl 0 rfl) ?_
  refine x_get (ci := 8) (C := RX8) (T := TX8) (N := 3) (v := .int 0) B h hin8 2 2 rfl rfl (by decide) (by decide +kernel) rfl dX8_readFacet_1 ?_
  refine lv_istore_n (lv' := [(3, .int 0), (0, .ref (ad 2)), (1, .ref (ad 1)), (2, .int 0)]) hx hb dX8_readFacet_4 rfl hl (by decide) rfl (fun ls hl => ?_)
  refine lv_aload_n hx hb dX8_readFacet_5 rfl (lv_at hl 2 rfl) ?_
  refine lv_aload_n hx hb dX8_readFacet_6 rfl (lv_at hl 1 rfl) ?_
  refine x_get (ci := 8) (C := RX8) (T := TX8) (N := 3) (v := .int 0) B h hin8 2 2 rfl rfl (by decide) (by decide +kernel) rfl dX8_readFacet_7 ?_
  refine x_cVIF (n := 1) (As := [.int 0]) (rest := []) B h (k15_X10_at l D cI cJ cB cZ ad bd) ⟨⟨_, rfl⟩, by decide +kernel, Nat.le_of_ble_eq_true rfl, Nat.le_of_ble_eq_true rfl⟩ gX8_readFacet_X10_at (show ((WX cI cJ cB cZ ad) : va_W)[1]? = some (_, .inr (10, _)) from rfl) rfl rfl hl.1 rfl (Nat.le_of_ble_eq_true rfl) dX8_readFacet_10 ⟨Nat.le_of_ble_eq_true rfl, Nat.le_of_ble_eq_true rfl⟩ (fun r_1 u_1 H locs hp_1 h => ?_)
  obtain rfl := hp_1
  have h : Hp D A s.heap (WX cI cJ cB cZ ad) H locs := h
  refine x_cSIE (n := 1) (As := [.int (-1)]) (rest := []) B h (k16_X8_isLetter l D cI cJ cB cZ ad bd) ⟨⟨_, rfl⟩, by decide +kernel, Nat.le_of_ble_eq_true rfl, Nat.le_of_ble_eq_true rfl⟩ gX8_readFacet_X8_isLetter rfl hl.1 rfl (Nat.le_of_ble_eq_true rfl) dX8_readFacet_13 ⟨Nat.le_of_ble_eq_true rfl, Nat.le_of_ble_eq_true rfl⟩ (fun r_2 u_2 H locs hp_2 h => ?_)
  obtain rfl := hp_2
  have h : Hp D A s.heap (WX cI cJ cB cZ ad) H locs := h
  refine lv_if_ne (tgt := 28) hx hb dX8_readFacet_16 (by decide) (fun c_3 => absurd c_3 (by decide)) (fun c_3 => ?_)
  refine lv_aload_n hx hb dX8_readFacet_19 rfl (lv_at hl 1 rfl) ?_
  refine x_get (ci := 8) (C := RX8) (T := TX8) (N := 3) (v := .int 0) B h hin8 2 2 rfl rfl (by decide) (by decide +kernel) rfl dX8_readFacet_20 ?_
  refine lv_iconst (v := 1) hx hb dX8_readFacet_23 (by decide) ?_
  refine x_cSIE (n := 2) (As := [.int 0, .int 1]) (rest := []) B h (k17_X8_fault l D cI cJ cB cZ ad bd) ⟨⟨_, rfl⟩, by decide +kernel, Nat.le_of_ble_eq_true rfl, Nat.le_of_ble_eq_true rfl⟩ gX8_readFacet_X8_fault rfl hl.1 rfl (Nat.le_of_ble_eq_true rfl) dX8_readFacet_24 ⟨Nat.le_of_ble_eq_true rfl, Nat.le_of_ble_eq_true rfl⟩ (fun r_4 u_4 H locs hp_4 h => ?_)
  obtain rfl := hp_4
  have h : Hp D A s.heap (WX cI cJ cB cZ ad) H locs := h
  exact x_iret (w1 := (fun _ => (WX cI cJ cB cZ ad))) () B h hr rfl rfl dX8_readFacet_27
set_option maxHeartbeats 4000000 in
set_option maxRecDepth 100000 in
theorem k19_X8_read (l : Launch) (D : va_G) (cI cJ cB cZ : ClassId) (ad bd : Nat → Nat) : MetI l yX8_read wsX8_read 2 46 0 0 D (TYS cI cJ cB cZ) (WX cI cJ cB cZ ad) [.ref (ad 2), .ref (ad 1)] (fun (r : Int32) (_ : Unit) => r = 1) (fun _ => (WX cI cJ cB cZ ad)) := by
  refine x_startI (ty := .int) (cc := cX8_read) (by decide) rfl (Nat.le_of_ble_eq_true rfl) ?_
  intro p e s m args below meth c A ls B hr hnm h hl
  have hx := B.1.1
  have hb := B.1.2.1
  have hml := B.1.2.2.1
  have hts := B.1.2.2.2.2
  have hown : s.vm.findClass RX8 = some m.cls := B.1.2.2.2.1
  have hin8 : ∀ w ∈ u_ws RX8 TX8 3, w ∈ wsX8_read := by decide +kernel
  have hl : lv_has ls 4 [(0, .ref (ad 2)), (1, .ref (ad 1))] := hl
  refine lv_aload_n hx hb dX8_read_0 rfl (lv_at hl 0 rfl) ?_
  refine x_get (ci := 8) (C := RX8) (T := TX8) (N := 3) (v := .ref (ad 13)) B h hin8 2 0 rfl rfl (by decide) (by decide +kernel) rfl dX8_read_1 ?_
  refine lv_iconst (v := 0) hx hb dX8_read_4 (by decide) ?_
  refine x_cSV (n := 2) (pre := ((WX cI cJ cB cZ ad) : va_W).take 13) (post := ((WX cI cJ cB cZ ad) : va_W).drop 14) (wc := [((ad 13), .inl (cI, 256, .inl (fun _ => 0)))]) (As := [.ref (ad 13), .int 0]) (rest := []) B h (c_fillI l D (TYS cI cJ cB cZ) cI 0 rfl (ad 13) 256 (by decide) (fun _ => 0) 0) ⟨⟨_, rfl⟩, by decide +kernel, Nat.le_of_ble_eq_true rfl, Nat.le_of_ble_eq_true rfl⟩ gX8_read_J7_fill_53178 rfl hl.1 rfl (Nat.le_of_ble_eq_true rfl) dX8_read_5 ⟨Nat.le_of_ble_eq_true rfl, Nat.le_of_ble_eq_true rfl⟩ (fun u_1 H locs hp_1 h => ?_)
  have h : Hp D A s.heap (WX cI cJ cB cZ ad) H locs := h
  refine lv_aload_n hx hb dX8_read_8 rfl (lv_at hl 0 rfl) ?_
  refine lv_iconst (v := 0) hx hb dX8_read_9 (by decide) ?_
  refine x_put (ci := 8) (C := RX8) (T := TX8) (N := 3) (v := .int 0) (ty := .int) B h hin8 tyX8 tyX8_ok nmX8 2 1 rfl rfl (by decide) (by decide +kernel) rfl rfl rfl rfl (Nat.le_of_ble_eq_true rfl) dX8_read_10 (fun H locs h => ?_)
  have h : Hp D A s.heap (WX cI cJ cB cZ ad) H locs := h
  refine lv_aload_n hx hb dX8_read_13 rfl (lv_at hl 0 rfl) ?_
  refine lv_iconst (v := 0) hx hb dX8_read_14 (by decide) ?_
  refine x_put (ci := 8) (C := RX8) (T := TX8) (N := 3) (v := .int 0) (ty := .int) B h hin8 tyX8 tyX8_ok nmX8 2 2 rfl rfl (by decide) (by decide +kernel) rfl rfl rfl rfl (Nat.le_of_ble_eq_true rfl) dX8_read_15 (fun H locs h => ?_)
  have h : Hp D A s.heap (WX cI cJ cB cZ ad) H locs := h
  refine lv_iconst (v := 0) hx hb dX8_read_18 (by decide) ?_
  refine lv_istore_n (lv' := [(2, .int 0), (0, .ref (ad 2)), (1, .ref (ad 1))]) hx hb dX8_read_19 rfl hl (by decide) rfl (fun ls hl => ?_)
  refine lv_iload_n hx hb dX8_read_20 rfl (lv_at hl 0 rfl) ?_
  refine lv_bipush (v := 24) hx hb dX8_read_21 (by decide) ?_
  refine lv_icmp_gt (tgt := 100) hx hb dX8_read_23 (by decide) (fun c_2 => absurd c_2 (by decide)) (fun c_2 => ?_)
  refine lv_aload_n hx hb dX8_read_26 rfl (lv_at hl 1 rfl) ?_
  refine lv_aload_n hx hb dX8_read_27 rfl (lv_at hl 2 rfl) ?_
  refine x_cVVF (n := 1) (As := [.ref (ad 1)]) (rest := []) B h (k14_X8_skipBlanks l D cI cJ cB cZ ad bd) ⟨⟨_, rfl⟩, by decide +kernel, Nat.le_of_ble_eq_true rfl, Nat.le_of_ble_eq_true rfl⟩ gX8_read_X8_skipBlanks (show ((WX cI cJ cB cZ ad) : va_W)[2]? = some (_, .inr (8, _)) from rfl) rfl rfl hl.1 rfl (Nat.le_of_ble_eq_true rfl) dX8_read_28 ⟨Nat.le_of_ble_eq_true rfl, Nat.le_of_ble_eq_true rfl⟩ (fun u_3 H locs hp_3 h => ?_)
  have h : Hp D A s.heap (WX cI cJ cB cZ ad) H locs := h
  refine lv_aload_n hx hb dX8_read_31 rfl (lv_at hl 1 rfl) ?_
  refine lv_aload_n hx hb dX8_read_32 rfl (lv_at hl 2 rfl) ?_
  refine lv_iload_n hx hb dX8_read_33 rfl (lv_at hl 0 rfl) ?_
  refine x_cVIF (n := 2) (As := [.ref (ad 1), .int 0]) (rest := []) B h (k18_X8_readFacet l D cI cJ cB cZ ad bd) ⟨⟨_, rfl⟩, by decide +kernel, Nat.le_of_ble_eq_true rfl, Nat.le_of_ble_eq_true rfl⟩ gX8_read_X8_readFacet (show ((WX cI cJ cB cZ ad) : va_W)[2]? = some (_, .inr (8, _)) from rfl) rfl rfl hl.1 rfl (Nat.le_of_ble_eq_true rfl) dX8_read_34 ⟨Nat.le_of_ble_eq_true rfl, Nat.le_of_ble_eq_true rfl⟩ (fun r_4 u_4 H locs hp_4 h => ?_)
  obtain rfl := hp_4
  have h : Hp D A s.heap (WX cI cJ cB cZ ad) H locs := h
  refine lv_istore_n (lv' := [(3, .int 1), (2, .int 0), (0, .ref (ad 2)), (1, .ref (ad 1))]) hx hb dX8_read_37 rfl hl (by decide) rfl (fun ls hl => ?_)
  refine lv_iload_n hx hb dX8_read_38 rfl (lv_at hl 0 rfl) ?_
  refine lv_if_eq (tgt := 44) hx hb dX8_read_39 (by decide) (fun c_5 => absurd c_5 (by decide)) (fun c_5 => ?_)
  refine lv_iload_n hx hb dX8_read_42 rfl (lv_at hl 0 rfl) ?_
  exact x_iret (w1 := (fun _ => (WX cI cJ cB cZ ad))) () B h hr rfl rfl dX8_read_43
set_option maxHeartbeats 4000000 in
set_option maxRecDepth 100000 in
theorem k20_X11_complex (l : Launch) (D : va_G) (cI cJ cB cZ : ClassId) (ad bd : Nat → Nat) : MetI l yX11_complex wsX11_complex 3 69 0 0 D (TYS cI cJ cB cZ) (WX cI cJ cB cZ ad) [.ref (ad 0)] (fun (r : Int32) (_ : Unit) => r = (-3)) (fun _ => (WX cI cJ cB cZ ad)) := by
  refine x_startI (ty := .int) (cc := cX11_complex) (by decide) rfl (Nat.le_of_ble_eq_true rfl) ?_
  intro p e s m args below meth c A ls B hr hnm h hl
  have hx := B.1.1
  have hb := B.1.2.1
  have hml := B.1.2.2.1
  have hts := B.1.2.2.2.2
  have hown : s.vm.findClass RX11 = some m.cls := B.1.2.2.2.1
  have hin10 : ∀ w ∈ u_ws RX10 TX10 2, w ∈ wsX11_complex := by decide +kernel
  have hin11 : ∀ w ∈ u_ws RX11 TX11 11, w ∈ wsX11_complex := by decide +kernel
  have hl : lv_has ls 2 [(0, .ref (ad 0))] := hl
  refine lv_aload_n hx hb dX11_complex_0 rfl (lv_at hl 0 rfl) ?_
  refine x_get (ci := 11) (C := RX11) (T := TX11) (N := 11) (v := .ref (ad 2)) B h hin11 0 1 rfl rfl (by decide) (by decide +kernel) rfl dX11_complex_1 ?_
  refine lv_aload_n hx hb dX11_complex_4 rfl (lv_at hl 0 rfl) ?_
  refine x_get (ci := 11) (C := RX11) (T := TX11) (N := 11) (v := .ref (ad 1)) B h hin11 0 0 rfl rfl (by decide) (by decide +kernel) rfl dX11_complex_5 ?_
  refine x_cVIF (n := 1) (As := [.ref (ad 1)]) (rest := []) B h (k19_X8_read l D cI cJ cB cZ ad bd) ⟨⟨_, rfl⟩, by decide +kernel, Nat.le_of_ble_eq_true rfl, Nat.le_of_ble_eq_true rfl⟩ gX11_complex_X8_read (show ((WX cI cJ cB cZ ad) : va_W)[2]? = some (_, .inr (8, _)) from rfl) rfl rfl hl.1 rfl (Nat.le_of_ble_eq_true rfl) dX11_complex_8 ⟨Nat.le_of_ble_eq_true rfl, Nat.le_of_ble_eq_true rfl⟩ (fun r_1 u_1 H locs hp_1 h => ?_)
  obtain rfl := hp_1
  have h : Hp D A s.heap (WX cI cJ cB cZ ad) H locs := h
  refine lv_istore_n (lv' := [(1, .int 1), (0, .ref (ad 0))]) hx hb dX11_complex_11 rfl hl (by decide) rfl (fun ls hl => ?_)
  refine lv_aload_n hx hb dX11_complex_12 rfl (lv_at hl 1 rfl) ?_
  refine x_get (ci := 11) (C := RX11) (T := TX11) (N := 11) (v := .ref (ad 1)) B h hin11 0 0 rfl rfl (by decide) (by decide +kernel) rfl dX11_complex_13 ?_
  refine lv_iconst (v := 0) hx hb dX11_complex_16 (by decide) ?_
  refine x_put (ci := 10) (C := RX10) (T := TX10) (N := 2) (v := .int 0) (ty := .int) B h hin10 tyX10 tyX10_ok nmX10 1 1 rfl rfl (by decide) (by decide +kernel) rfl rfl rfl rfl (Nat.le_of_ble_eq_true rfl) dX11_complex_17 (fun H locs h => ?_)
  have h : Hp D A s.heap (WX cI cJ cB cZ ad) H locs := h
  refine lv_iload_n hx hb dX11_complex_20 rfl (lv_at hl 0 rfl) ?_
  refine lv_if_eq (tgt := 29) hx hb dX11_complex_21 (by decide) (fun c_2 => absurd c_2 (by decide)) (fun c_2 => ?_)
  refine lv_bipush (v := (-2)) hx hb dX11_complex_24 (by decide) ?_
  refine lv_iload_n hx hb dX11_complex_26 rfl (lv_at hl 0 rfl) ?_
  refine lv_isub hx hb dX11_complex_27 ?_
  refine lv_topi (fun v_3 ev_3 => ?_)
  obtain rfl : v_3 = (-3) := ev_3.trans (by decide)
  exact x_iret (w1 := (fun _ => (WX cI cJ cB cZ ad))) () B h hr rfl rfl dX11_complex_28
set_option maxHeartbeats 4000000 in
set_option maxRecDepth 100000 in
theorem k21_X12_byteNow (l : Launch) (D : va_G) (cI cJ cB cZ : ClassId) (ad bd : Nat → Nat) (f_1 : Nat → Int32) : MetI l yX12_byteNow wsX12_byteNow 0 0 0 0 D (TYS cI cJ cB cZ) (WM cI cJ cB cZ bd (fault := (-1)) (isTold := f_1)) [.ref (bd 0)] (fun (r : Int32) (_ : (Nat → Int32)) => r = (-1)) (fun u : (Nat → Int32) => (WM cI cJ cB cZ bd (fault := (-1)) (isTold := u))) := by
  refine x_startI (ty := .int) (cc := cX12_byteNow) (by decide) rfl (Nat.le_of_ble_eq_true rfl) ?_
  intro p e s m args below meth c A ls B hr hnm h hl
  have hx := B.1.1
  have hb := B.1.2.1
  have hml := B.1.2.2.1
  have hts := B.1.2.2.2.2
  have hown : s.vm.findClass RX12 = some m.cls := B.1.2.2.2.1
  have hin12 : ∀ w ∈ u_ws RX12 TX12 31, w ∈ wsX12_byteNow := by decide +kernel
  have hl : lv_has ls 1 [(0, .ref (bd 0))] := hl
  refine lv_aload_n hx hb dX12_byteNow_0 rfl (lv_at hl 0 rfl) ?_
  refine x_get (ci := 12) (C := RX12) (T := TX12) (N := 31) (v := .int 0) B h hin12 0 2 rfl rfl (by decide) (by decide +kernel) rfl dX12_byteNow_1 ?_
  refine lv_aload_n hx hb dX12_byteNow_4 rfl (lv_at hl 0 rfl) ?_
  refine x_get (ci := 12) (C := RX12) (T := TX12) (N := 31) (v := .int 0) B h hin12 0 1 rfl rfl (by decide) (by decide +kernel) rfl dX12_byteNow_5 ?_
  refine lv_icmp_ge (tgt := 27) hx hb dX12_byteNow_8 (by decide) (fun c_1 => ?_) (fun c_1 => absurd c_1 (by decide))
  refine lv_iconst (v := (-1)) hx hb dX12_byteNow_27 (by decide) ?_
  exact x_iret (w1 := (fun u : (Nat → Int32) => (WM cI cJ cB cZ bd (fault := (-1)) (isTold := u)))) (f_1) B h hr rfl rfl dX12_byteNow_28
set_option maxHeartbeats 4000000 in
set_option maxRecDepth 100000 in
theorem k22_X12_blanks (l : Launch) (D : va_G) (cI cJ cB cZ : ClassId) (ad bd : Nat → Nat) (f_1 : Nat → Int32) : MetV l yX12_blanks wsX12_blanks 1 20 0 0 D (TYS cI cJ cB cZ) (WM cI cJ cB cZ bd (fault := (-1)) (isTold := f_1)) [.ref (bd 0)] (fun _ : (Nat → Int32) => True) (fun u : (Nat → Int32) => (WM cI cJ cB cZ bd (fault := (-1)) (isTold := u))) := by
  refine x_startV (ty := .int) (cc := cX12_blanks) (by decide) rfl (Nat.le_of_ble_eq_true rfl) ?_
  intro p e s m args below meth c A ls B hr hnm h hl
  have hx := B.1.1
  have hb := B.1.2.1
  have hml := B.1.2.2.1
  have hts := B.1.2.2.2.2
  have hown : s.vm.findClass RX12 = some m.cls := B.1.2.2.2.1
  have hl : lv_has ls 1 [(0, .ref (bd 0))] := hl
  refine lv_aload_n hx hb dX12_blanks_0 rfl (lv_at hl 0 rfl) ?_
  refine x_cVIF (n := 0) (As := []) (rest := []) B h (k21_X12_byteNow l D cI cJ cB cZ ad bd f_1) ⟨⟨_, rfl⟩, by decide +kernel, Nat.le_of_ble_eq_true rfl, Nat.le_of_ble_eq_true rfl⟩ gX12_blanks_X12_byteNow (show ((WM cI cJ cB cZ bd (fault := (-1)) (isTold := f_1)) : va_W)[0]? = some (_, .inr (12, _)) from rfl) rfl rfl hl.1 rfl (Nat.le_of_ble_eq_true rfl) dX12_blanks_1 ⟨Nat.le_of_ble_eq_true rfl, Nat.le_of_ble_eq_true rfl⟩ (fun r_1 u_1 H locs hp_1 h => ?_)
  obtain rfl := hp_1
  have h : Hp D A s.heap (WM cI cJ cB cZ bd (fault := (-1)) (isTold := u_1)) H locs := h
  refine lv_bipush (v := 32) hx hb dX12_blanks_4 (by decide) ?_
  refine lv_icmp_ne (tgt := 22) hx hb dX12_blanks_6 (by decide) (fun c_2 => ?_) (fun c_2 => absurd c_2 (by decide))
  exact x_vret (w1 := (fun u : (Nat → Int32) => (WM cI cJ cB cZ bd (fault := (-1)) (isTold := u)))) (u_1) B h hr trivial dX12_blanks_22
set_option maxHeartbeats 4000000 in
set_option maxRecDepth 100000 in
theorem k23_X12_byteNow (l : Launch) (D : va_G) (cI cJ cB cZ : ClassId) (ad bd : Nat → Nat) (u_1 : Nat → Int32) : MetI l yX12_byteNow wsX12_byteNow 0 0 0 0 D (TYS cI cJ cB cZ) (WM cI cJ cB cZ bd (fault := (-1)) (isTold := u_1)) [.ref (bd 0)] (fun (r : Int32) (_ : (Nat → Int32)) => r = (-1)) (fun u : (Nat → Int32) => (WM cI cJ cB cZ bd (fault := (-1)) (isTold := u))) := by
  refine x_startI (ty := .int) (cc := cX12_byteNow) (by decide) rfl (Nat.le_of_ble_eq_true rfl) ?_
  intro p e s m args below meth c A ls B hr hnm h hl
  have hx := B.1.1
  have hb := B.1.2.1
  have hml := B.1.2.2.1
  have hts := B.1.2.2.2.2
  have hown : s.vm.findClass RX12 = some m.cls := B.1.2.2.2.1
  have hin12 : ∀ w ∈ u_ws RX12 TX12 31, w ∈ wsX12_byteNow := by decide +kernel
  have hl : lv_has ls 1 [(0, .ref (bd 0))] := hl
  refine lv_aload_n hx hb dX12_byteNow_0 rfl (lv_at hl 0 rfl) ?_
  refine x_get (ci := 12) (C := RX12) (T := TX12) (N := 31) (v := .int 0) B h hin12 0 2 rfl rfl (by decide) (by decide +kernel) rfl dX12_byteNow_1 ?_
  refine lv_aload_n hx hb dX12_byteNow_4 rfl (lv_at hl 0 rfl) ?_
  refine x_get (ci := 12) (C := RX12) (T := TX12) (N := 31) (v := .int 0) B h hin12 0 1 rfl rfl (by decide) (by decide +kernel) rfl dX12_byteNow_5 ?_
  refine lv_icmp_ge (tgt := 27) hx hb dX12_byteNow_8 (by decide) (fun c_1 => ?_) (fun c_1 => absurd c_1 (by decide))
  refine lv_iconst (v := (-1)) hx hb dX12_byteNow_27 (by decide) ?_
  exact x_iret (w1 := (fun u : (Nat → Int32) => (WM cI cJ cB cZ bd (fault := (-1)) (isTold := u)))) (u_1) B h hr rfl rfl dX12_byteNow_28
set_option maxHeartbeats 4000000 in
set_option maxRecDepth 100000 in
theorem k24_X12_in (l : Launch) (D : va_G) (cI cJ cB cZ : ClassId) (ad bd : Nat → Nat) : MetI l yX12_in wsX12_in 0 0 0 0 D (TYS cI cJ cB cZ) [] [.int (-1), .int 97, .int 104] (fun (r : Int32) (_ : Unit) => r = 0) (fun _ => []) := by
  refine x_startI (ty := .boolean) (cc := cX12_in) (by decide) rfl (Nat.le_of_ble_eq_true rfl) ?_
  intro p e s m args below meth c A ls B hr hnm h hl
  have hx := B.1.1
  have hb := B.1.2.1
  have hml := B.1.2.2.1
  have hts := B.1.2.2.2.2
  have hown : s.vm.findClass RX12 = some m.cls := B.1.2.2.2.1
  have hl : lv_has ls 3 [(0, .int (-1)), (1, .int 97), (2, .int 104)] := hl
  refine lv_iload_n hx hb dX12_in_0 rfl (lv_at hl 0 rfl) ?_
  refine lv_iload_n hx hb dX12_in_1 rfl (lv_at hl 1 rfl) ?_
  refine lv_icmp_lt (tgt := 14) hx hb dX12_in_2 (by decide) (fun c_1 => ?_) (fun c_1 => absurd c_1 (by decide))
  refine lv_iconst (v := 0) hx hb dX12_in_14 (by decide) ?_
  exact x_iret (w1 := (fun _ => [])) () B h hr rfl rfl dX12_in_15
set_option maxHeartbeats 4000000 in
set_option maxRecDepth 100000 in
theorem k25_X12_isLetter (l : Launch) (D : va_G) (cI cJ cB cZ : ClassId) (ad bd : Nat → Nat) (u_1 : Nat → Int32) : MetI l yX12_isLetter wsX12_isLetter 1 22 0 0 D (TYS cI cJ cB cZ) (WM cI cJ cB cZ bd (fault := (-1)) (isTold := u_1)) [.ref (bd 0)] (fun (r : Int32) (_ : (Nat → Int32)) => r = 0) (fun u : (Nat → Int32) => (WM cI cJ cB cZ bd (fault := (-1)) (isTold := u))) := by
  refine x_startI (ty := .boolean) (cc := cX12_isLetter) (by decide) rfl (Nat.le_of_ble_eq_true rfl) ?_
  intro p e s m args below meth c A ls B hr hnm h hl
  have hx := B.1.1
  have hb := B.1.2.1
  have hml := B.1.2.2.1
  have hts := B.1.2.2.2.2
  have hown : s.vm.findClass RX12 = some m.cls := B.1.2.2.2.1
  have hl : lv_has ls 1 [(0, .ref (bd 0))] := hl
  refine lv_aload_n hx hb dX12_isLetter_0 rfl (lv_at hl 0 rfl) ?_
  refine x_cVIF (n := 0) (As := []) (rest := []) B h (k23_X12_byteNow l D cI cJ cB cZ ad bd u_1) ⟨⟨_, rfl⟩, by decide +kernel, Nat.le_of_ble_eq_true rfl, Nat.le_of_ble_eq_true rfl⟩ gX12_isLetter_X12_byteNow (show ((WM cI cJ cB cZ bd (fault := (-1)) (isTold := u_1)) : va_W)[0]? = some (_, .inr (12, _)) from rfl) rfl rfl hl.1 rfl (Nat.le_of_ble_eq_true rfl) dX12_isLetter_1 ⟨Nat.le_of_ble_eq_true rfl, Nat.le_of_ble_eq_true rfl⟩ (fun r_1 u_1 H locs hp_1 h => ?_)
  obtain rfl := hp_1
  have h : Hp D A s.heap (WM cI cJ cB cZ bd (fault := (-1)) (isTold := u_1)) H locs := h
  refine lv_bipush (v := 97) hx hb dX12_isLetter_4 (by decide) ?_
  refine lv_bipush (v := 104) hx hb dX12_isLetter_6 (by decide) ?_
  refine x_cSIE (n := 3) (As := [.int (-1), .int 97, .int 104]) (rest := []) B h (k24_X12_in l D cI cJ cB cZ ad bd) ⟨⟨_, rfl⟩, by decide +kernel, Nat.le_of_ble_eq_true rfl, Nat.le_of_ble_eq_true rfl⟩ gX12_isLetter_X12_in rfl hl.1 rfl (Nat.le_of_ble_eq_true rfl) dX12_isLetter_8 ⟨Nat.le_of_ble_eq_true rfl, Nat.le_of_ble_eq_true rfl⟩ (fun r_2 u_2 H locs hp_2 h => ?_)
  obtain rfl := hp_2
  have h : Hp D A s.heap (WM cI cJ cB cZ bd (fault := (-1)) (isTold := u_1)) H locs := h
  exact x_iret (w1 := (fun u : (Nat → Int32) => (WM cI cJ cB cZ bd (fault := (-1)) (isTold := u)))) (u_1) B h hr rfl rfl dX12_isLetter_11
set_option maxHeartbeats 4000000 in
set_option maxRecDepth 100000 in
theorem k26_X12_fails (l : Launch) (D : va_G) (cI cJ cB cZ : ClassId) (ad bd : Nat → Nat) (u_2 : Nat → Int32) : MetV l yX12_fails wsX12_fails 0 0 0 0 D (TYS cI cJ cB cZ) (WM cI cJ cB cZ bd (fault := (-1)) (isTold := u_2)) [.ref (bd 0), .int 1, .int 0] (fun _ : (Nat → Int32) => True) (fun u : (Nat → Int32) => (WM cI cJ cB cZ bd (fault := 1) (isTold := u))) := by
  refine x_startV (ty := .int) (cc := cX12_fails) (by decide) rfl (Nat.le_of_ble_eq_true rfl) ?_
  intro p e s m args below meth c A ls B hr hnm h hl
  have hx := B.1.1
  have hb := B.1.2.1
  have hml := B.1.2.2.1
  have hts := B.1.2.2.2.2
  have hown : s.vm.findClass RX12 = some m.cls := B.1.2.2.2.1
  have hin12 : ∀ w ∈ u_ws RX12 TX12 31, w ∈ wsX12_fails := by decide +kernel
  have hl : lv_has ls 3 [(0, .ref (bd 0)), (1, .int 1), (2, .int 0)] := hl
  refine lv_aload_n hx hb dX12_fails_0 rfl (lv_at hl 0 rfl) ?_
  refine x_get (ci := 12) (C := RX12) (T := TX12) (N := 31) (v := .int (-1)) B h hin12 0 3 rfl rfl (by decide) (by decide +kernel) rfl dX12_fails_1 ?_
  refine lv_iconst (v := (-1)) hx hb dX12_fails_4 (by decide) ?_
  refine lv_icmp_ne (tgt := 18) hx hb dX12_fails_5 (by decide) (fun c_1 => absurd c_1 (by decide)) (fun c_1 => ?_)
  refine lv_aload_n hx hb dX12_fails_8 rfl (lv_at hl 0 rfl) ?_
  refine lv_bipush (v := 8) hx hb dX12_fails_9 (by decide) ?_
  refine lv_iload_n hx hb dX12_fails_11 rfl (lv_at hl 2 rfl) ?_
  refine lv_imul hx hb dX12_fails_12 ?_
  refine lv_topi (fun v_2 ev_2 => ?_)
  obtain rfl : v_2 = 0 := ev_2.trans (by decide)
  refine lv_iload_n hx hb dX12_fails_13 rfl (lv_at hl 1 rfl) ?_
  refine lv_iadd hx hb dX12_fails_14 ?_
  refine lv_topi (fun v_3 ev_3 => ?_)
  obtain rfl : v_3 = 1 := ev_3.trans (by decide)
  refine x_put (ci := 12) (C := RX12) (T := TX12) (N := 31) (v := .int 1) (ty := .int) B h hin12 tyX12 tyX12_ok nmX12 0 3 rfl rfl (by decide) (by decide +kernel) rfl rfl rfl rfl (Nat.le_of_ble_eq_true rfl) dX12_fails_15 (fun H locs h => ?_)
  have h : Hp D A s.heap (WM cI cJ cB cZ bd (fault := 1) (isTold := u_2)) H locs := h
  exact x_vret (w1 := (fun u : (Nat → Int32) => (WM cI cJ cB cZ bd (fault := 1) (isTold := u)))) (u_2) B h hr trivial dX12_fails_18
set_option maxHeartbeats 4000000 in
set_option maxRecDepth 100000 in
theorem k27_X12_isRight (l : Launch) (D : va_G) (cI cJ cB cZ : ClassId) (ad bd : Nat → Nat) (u_4 : Nat → Int32) : MetI l yX12_isRight wsX12_isRight 0 0 0 0 D (TYS cI cJ cB cZ) (WM cI cJ cB cZ bd (fault := 1) (isTold := u_4)) [.ref (bd 0)] (fun (r : Int32) (_ : (Nat → Int32)) => r = 0) (fun u : (Nat → Int32) => (WM cI cJ cB cZ bd (fault := 1) (isTold := u))) := by
  refine x_startI (ty := .boolean) (cc := cX12_isRight) (by decide) rfl (Nat.le_of_ble_eq_true rfl) ?_
  intro p e s m args below meth c A ls B hr hnm h hl
  have hx := B.1.1
  have hb := B.1.2.1
  have hml := B.1.2.2.1
  have hts := B.1.2.2.2.2
  have hown : s.vm.findClass RX12 = some m.cls := B.1.2.2.2.1
  have hin12 : ∀ w ∈ u_ws RX12 TX12 31, w ∈ wsX12_isRight := by decide +kernel
  have hl : lv_has ls 1 [(0, .ref (bd 0))] := hl
  refine lv_aload_n hx hb dX12_isRight_0 rfl (lv_at hl 0 rfl) ?_
  refine x_get (ci := 12) (C := RX12) (T := TX12) (N := 31) (v := .int 1) B h hin12 0 3 rfl rfl (by decide) (by decide +kernel) rfl dX12_isRight_1 ?_
  refine lv_iconst (v := (-1)) hx hb dX12_isRight_4 (by decide) ?_
  refine lv_icmp_ne (tgt := 12) hx hb dX12_isRight_5 (by decide) (fun c_1 => ?_) (fun c_1 => absurd c_1 (by decide))
  refine lv_iconst (v := 0) hx hb dX12_isRight_12 (by decide) ?_
  exact x_iret (w1 := (fun u : (Nat → Int32) => (WM cI cJ cB cZ bd (fault := 1) (isTold := u)))) (u_4) B h hr rfl rfl dX12_isRight_13
set_option maxHeartbeats 4000000 in
set_option maxRecDepth 100000 in
theorem k28_X12_isRight (l : Launch) (D : va_G) (cI cJ cB cZ : ClassId) (ad bd : Nat → Nat) (u_6 : Nat → Int32) : MetI l yX12_isRight wsX12_isRight 0 0 0 0 D (TYS cI cJ cB cZ) (WM cI cJ cB cZ bd (fault := 1) (isTold := u_6)) [.ref (bd 0)] (fun (r : Int32) (_ : (Nat → Int32)) => r = 0) (fun u : (Nat → Int32) => (WM cI cJ cB cZ bd (fault := 1) (isTold := u))) := by
  refine x_startI (ty := .boolean) (cc := cX12_isRight) (by decide) rfl (Nat.le_of_ble_eq_true rfl) ?_
  intro p e s m args below meth c A ls B hr hnm h hl
  have hx := B.1.1
  have hb := B.1.2.1
  have hml := B.1.2.2.1
  have hts := B.1.2.2.2.2
  have hown : s.vm.findClass RX12 = some m.cls := B.1.2.2.2.1
  have hin12 : ∀ w ∈ u_ws RX12 TX12 31, w ∈ wsX12_isRight := by decide +kernel
  have hl : lv_has ls 1 [(0, .ref (bd 0))] := hl
  refine lv_aload_n hx hb dX12_isRight_0 rfl (lv_at hl 0 rfl) ?_
  refine x_get (ci := 12) (C := RX12) (T := TX12) (N := 31) (v := .int 1) B h hin12 0 3 rfl rfl (by decide) (by decide +kernel) rfl dX12_isRight_1 ?_
  refine lv_iconst (v := (-1)) hx hb dX12_isRight_4 (by decide) ?_
  refine lv_icmp_ne (tgt := 12) hx hb dX12_isRight_5 (by decide) (fun c_1 => ?_) (fun c_1 => absurd c_1 (by decide))
  refine lv_iconst (v := 0) hx hb dX12_isRight_12 (by decide) ?_
  exact x_iret (w1 := (fun u : (Nat → Int32) => (WM cI cJ cB cZ bd (fault := 1) (isTold := u)))) (u_6) B h hr rfl rfl dX12_isRight_13
set_option maxHeartbeats 4000000 in
set_option maxRecDepth 100000 in
theorem k29_X12_byteNow (l : Launch) (D : va_G) (cI cJ cB cZ : ClassId) (ad bd : Nat → Nat) (u_8 : Nat → Int32) : MetI l yX12_byteNow wsX12_byteNow 0 0 0 0 D (TYS cI cJ cB cZ) (WM cI cJ cB cZ bd (fault := 1) (isTold := u_8)) [.ref (bd 0)] (fun (r : Int32) (_ : (Nat → Int32)) => r = (-1)) (fun u : (Nat → Int32) => (WM cI cJ cB cZ bd (fault := 1) (isTold := u))) := by
  refine x_startI (ty := .int) (cc := cX12_byteNow) (by decide) rfl (Nat.le_of_ble_eq_true rfl) ?_
  intro p e s m args below meth c A ls B hr hnm h hl
  have hx := B.1.1
  have hb := B.1.2.1
  have hml := B.1.2.2.1
  have hts := B.1.2.2.2.2
  have hown : s.vm.findClass RX12 = some m.cls := B.1.2.2.2.1
  have hin12 : ∀ w ∈ u_ws RX12 TX12 31, w ∈ wsX12_byteNow := by decide +kernel
  have hl : lv_has ls 1 [(0, .ref (bd 0))] := hl
  refine lv_aload_n hx hb dX12_byteNow_0 rfl (lv_at hl 0 rfl) ?_
  refine x_get (ci := 12) (C := RX12) (T := TX12) (N := 31) (v := .int 0) B h hin12 0 2 rfl rfl (by decide) (by decide +kernel) rfl dX12_byteNow_1 ?_
  refine lv_aload_n hx hb dX12_byteNow_4 rfl (lv_at hl 0 rfl) ?_
  refine x_get (ci := 12) (C := RX12) (T := TX12) (N := 31) (v := .int 0) B h hin12 0 1 rfl rfl (by decide) (by decide +kernel) rfl dX12_byteNow_5 ?_
  refine lv_icmp_ge (tgt := 27) hx hb dX12_byteNow_8 (by decide) (fun c_1 => ?_) (fun c_1 => absurd c_1 (by decide))
  refine lv_iconst (v := (-1)) hx hb dX12_byteNow_27 (by decide) ?_
  exact x_iret (w1 := (fun u : (Nat → Int32) => (WM cI cJ cB cZ bd (fault := 1) (isTold := u)))) (u_8) B h hr rfl rfl dX12_byteNow_28
set_option maxHeartbeats 4000000 in
set_option maxRecDepth 100000 in
theorem k30_X12_blanks (l : Launch) (D : va_G) (cI cJ cB cZ : ClassId) (ad bd : Nat → Nat) (u_8 : Nat → Int32) : MetV l yX12_blanks wsX12_blanks 1 20 0 0 D (TYS cI cJ cB cZ) (WM cI cJ cB cZ bd (fault := 1) (isTold := u_8)) [.ref (bd 0)] (fun _ : (Nat → Int32) => True) (fun u : (Nat → Int32) => (WM cI cJ cB cZ bd (fault := 1) (isTold := u))) := by
  refine x_startV (ty := .int) (cc := cX12_blanks) (by decide) rfl (Nat.le_of_ble_eq_true rfl) ?_
  intro p e s m args below meth c A ls B hr hnm h hl
  have hx := B.1.1
  have hb := B.1.2.1
  have hml := B.1.2.2.1
  have hts := B.1.2.2.2.2
  have hown : s.vm.findClass RX12 = some m.cls := B.1.2.2.2.1
  have hl : lv_has ls 1 [(0, .ref (bd 0))] := hl
  refine lv_aload_n hx hb dX12_blanks_0 rfl (lv_at hl 0 rfl) ?_
  refine x_cVIF (n := 0) (As := []) (rest := []) B h (k29_X12_byteNow l D cI cJ cB cZ ad bd u_8) ⟨⟨_, rfl⟩, by decide +kernel, Nat.le_of_ble_eq_true rfl, Nat.le_of_ble_eq_true rfl⟩ gX12_blanks_X12_byteNow (show ((WM cI cJ cB cZ bd (fault := 1) (isTold := u_8)) : va_W)[0]? = some (_, .inr (12, _)) from rfl) rfl rfl hl.1 rfl (Nat.le_of_ble_eq_true rfl) dX12_blanks_1 ⟨Nat.le_of_ble_eq_true rfl, Nat.le_of_ble_eq_true rfl⟩ (fun r_1 u_1 H locs hp_1 h => ?_)
  obtain rfl := hp_1
  have h : Hp D A s.heap (WM cI cJ cB cZ bd (fault := 1) (isTold := u_1)) H locs := h
  refine lv_bipush (v := 32) hx hb dX12_blanks_4 (by decide) ?_
  refine lv_icmp_ne (tgt := 22) hx hb dX12_blanks_6 (by decide) (fun c_2 => ?_) (fun c_2 => absurd c_2 (by decide))
  exact x_vret (w1 := (fun u : (Nat → Int32) => (WM cI cJ cB cZ bd (fault := 1) (isTold := u)))) (u_1) B h hr trivial dX12_blanks_22
set_option maxHeartbeats 4000000 in
set_option maxRecDepth 100000 in
theorem k31_X12_readsFacet (l : Launch) (D : va_G) (cI cJ cB cZ : ClassId) (ad bd : Nat → Nat) (f_1 : Nat → Int32) : MetV l yX12_readsFacet wsX12_readsFacet 2 42 0 0 D (TYS cI cJ cB cZ) (WM cI cJ cB cZ bd (fault := (-1)) (isTold := f_1)) [.ref (bd 0), .int 0] (fun _ : (Nat → Int32) => True) (fun u : (Nat → Int32) => (WM cI cJ cB cZ bd (fault := 1) (isTold := u))) := by
  refine x_startV (ty := .int) (cc := cX12_readsFacet) (by decide) rfl (Nat.le_of_ble_eq_true rfl) ?_
  intro p e s m args below meth c A ls B hr hnm h hl
  have hx := B.1.1
  have hb := B.1.2.1
  have hml := B.1.2.2.1
  have hts := B.1.2.2.2.2
  have hown : s.vm.findClass RX12 = some m.cls := B.1.2.2.2.1
  have hin12 : ∀ w ∈ u_ws RX12 TX12 31, w ∈ wsX12_readsFacet := by decide +kernel
  have hl : lv_has ls 5 [(0, .ref (bd 0)), (1, .int 0)] := hl
  refine lv_aload_n hx hb dX12_readsFacet_0 rfl (lv_at hl 0 rfl) ?_
  refine x_cVVF (n := 0) (As := []) (rest := []) B h (k22_X12_blanks l D cI cJ cB cZ ad bd f_1) ⟨⟨_, rfl⟩, by decide +kernel, Nat.le_of_ble_eq_true rfl, Nat.le_of_ble_eq_true rfl⟩ gX12_readsFacet_X12_blanks (show ((WM cI cJ cB cZ bd (fault := (-1)) (isTold := f_1)) : va_W)[0]? = some (_, .inr (12, _)) from rfl) rfl rfl hl.1 rfl (Nat.le_of_ble_eq_true rfl) dX12_readsFacet_1 ⟨Nat.le_of_ble_eq_true rfl, Nat.le_of_ble_eq_true rfl⟩ (fun u_1 H locs hp_1 h => ?_)
  have h : Hp D A s.heap (WM cI cJ cB cZ bd (fault := (-1)) (isTold := u_1)) H locs := h
  refine lv_aload_n hx hb dX12_readsFacet_4 rfl (lv_at hl 0 rfl) ?_
  refine x_get (ci := 12) (C := RX12) (T := TX12) (N := 31) (v := .int 0) B h hin12 0 2 rfl rfl (by decide) (by decide +kernel) rfl dX12_readsFacet_5 ?_
  refine lv_istore_n (lv' := [(2, .int 0), (0, .ref (bd 0)), (1, .int 0)]) hx hb dX12_readsFacet_8 rfl hl (by decide) rfl (fun ls hl => ?_)
  refine lv_iconst (v := 0) hx hb dX12_readsFacet_9 (by decide) ?_
  refine lv_istore_n (lv' := [(3, .int 0), (2, .int 0), (0, .ref (bd 0)), (1, .int 0)]) hx hb dX12_readsFacet_10 rfl hl (by decide) rfl (fun ls hl => ?_)
  refine lv_aload_n hx hb dX12_readsFacet_11 rfl (lv_at hl 2 rfl) ?_
  refine x_cVIF (n := 0) (As := []) (rest := []) B h (k25_X12_isLetter l D cI cJ cB cZ ad bd u_1) ⟨⟨_, rfl⟩, by decide +kernel, Nat.le_of_ble_eq_true rfl, Nat.le_of_ble_eq_true rfl⟩ gX12_readsFacet_X12_isLetter (show ((WM cI cJ cB cZ bd (fault := (-1)) (isTold := u_1)) : va_W)[0]? = some (_, .inr (12, _)) from rfl) rfl rfl hl.1 rfl (Nat.le_of_ble_eq_true rfl) dX12_readsFacet_12 ⟨Nat.le_of_ble_eq_true rfl, Nat.le_of_ble_eq_true rfl⟩ (fun r_2 u_2 H locs hp_2 h => ?_)
  obtain rfl := hp_2
  have h : Hp D A s.heap (WM cI cJ cB cZ bd (fault := (-1)) (isTold := u_2)) H locs := h
  refine lv_if_ne (tgt := 27) hx hb dX12_readsFacet_15 (by decide) (fun c_3 => absurd c_3 (by decide)) (fun c_3 => ?_)
  refine lv_aload_n hx hb dX12_readsFacet_18 rfl (lv_at hl 2 rfl) ?_
  refine lv_iconst (v := 1) hx hb dX12_readsFacet_19 (by decide) ?_
  refine lv_aload_n hx hb dX12_readsFacet_20 rfl (lv_at hl 2 rfl) ?_
  refine x_get (ci := 12) (C := RX12) (T := TX12) (N := 31) (v := .int 0) B h hin12 0 2 rfl rfl (by decide) (by decide +kernel) rfl dX12_readsFacet_21 ?_
  refine x_cVVF (n := 2) (As := [.int 1, .int 0]) (rest := []) B h (k26_X12_fails l D cI cJ cB cZ ad bd u_2) ⟨⟨_, rfl⟩, by decide +kernel, Nat.le_of_ble_eq_true rfl, Nat.le_of_ble_eq_true rfl⟩ gX12_readsFacet_X12_fails (show ((WM cI cJ cB cZ bd (fault := (-1)) (isTold := u_2)) : va_W)[0]? = some (_, .inr (12, _)) from rfl) rfl rfl hl.1 rfl (Nat.le_of_ble_eq_true rfl) dX12_readsFacet_24 ⟨Nat.le_of_ble_eq_true rfl, Nat.le_of_ble_eq_true rfl⟩ (fun u_4 H locs hp_4 h => ?_)
  have h : Hp D A s.heap (WM cI cJ cB cZ bd (fault := 1) (isTold := u_4)) H locs := h
  refine lv_iload_n hx hb dX12_readsFacet_27 rfl (lv_at hl 3 rfl) ?_
  refine lv_bipush (v := 24) hx hb dX12_readsFacet_28 (by decide) ?_
  refine lv_icmp_ne (tgt := 42) hx hb dX12_readsFacet_30 (by decide) (fun c_5 => ?_) (fun c_5 => absurd c_5 (by decide))
  refine lv_aload_n hx hb dX12_readsFacet_42 rfl (lv_at hl 2 rfl) ?_
  refine x_cVIF (n := 0) (As := []) (rest := []) B h (k27_X12_isRight l D cI cJ cB cZ ad bd u_4) ⟨⟨_, rfl⟩, by decide +kernel, Nat.le_of_ble_eq_true rfl, Nat.le_of_ble_eq_true rfl⟩ gX12_readsFacet_X12_isRight (show ((WM cI cJ cB cZ bd (fault := 1) (isTold := u_4)) : va_W)[0]? = some (_, .inr (12, _)) from rfl) rfl rfl hl.1 rfl (Nat.le_of_ble_eq_true rfl) dX12_readsFacet_43 ⟨Nat.le_of_ble_eq_true rfl, Nat.le_of_ble_eq_true rfl⟩ (fun r_6 u_6 H locs hp_6 h => ?_)
  obtain rfl := hp_6
  have h : Hp D A s.heap (WM cI cJ cB cZ bd (fault := 1) (isTold := u_6)) H locs := h
  refine lv_if_eq (tgt := 118) hx hb dX12_readsFacet_46 (by decide) (fun c_7 => ?_) (fun c_7 => absurd c_7 (by decide))
  refine lv_aload_n hx hb dX12_readsFacet_118 rfl (lv_at hl 2 rfl) ?_
  refine x_cVIF (n := 0) (As := []) (rest := []) B h (k28_X12_isRight l D cI cJ cB cZ ad bd u_6) ⟨⟨_, rfl⟩, by decide +kernel, Nat.le_of_ble_eq_true rfl, Nat.le_of_ble_eq_true rfl⟩ gX12_readsFacet_X12_isRight (show ((WM cI cJ cB cZ bd (fault := 1) (isTold := u_6)) : va_W)[0]? = some (_, .inr (12, _)) from rfl) rfl rfl hl.1 rfl (Nat.le_of_ble_eq_true rfl) dX12_readsFacet_119 ⟨Nat.le_of_ble_eq_true rfl, Nat.le_of_ble_eq_true rfl⟩ (fun r_8 u_8 H locs hp_8 h => ?_)
  obtain rfl := hp_8
  have h : Hp D A s.heap (WM cI cJ cB cZ bd (fault := 1) (isTold := u_8)) H locs := h
  refine lv_if_eq (tgt := 145) hx hb dX12_readsFacet_122 (by decide) (fun c_9 => ?_) (fun c_9 => absurd c_9 (by decide))
  refine lv_aload_n hx hb dX12_readsFacet_145 rfl (lv_at hl 2 rfl) ?_
  refine x_cVVF (n := 0) (As := []) (rest := []) B h (k30_X12_blanks l D cI cJ cB cZ ad bd u_8) ⟨⟨_, rfl⟩, by decide +kernel, Nat.le_of_ble_eq_true rfl, Nat.le_of_ble_eq_true rfl⟩ gX12_readsFacet_X12_blanks (show ((WM cI cJ cB cZ bd (fault := 1) (isTold := u_8)) : va_W)[0]? = some (_, .inr (12, _)) from rfl) rfl rfl hl.1 rfl (Nat.le_of_ble_eq_true rfl) dX12_readsFacet_146 ⟨Nat.le_of_ble_eq_true rfl, Nat.le_of_ble_eq_true rfl⟩ (fun u_10 H locs hp_10 h => ?_)
  have h : Hp D A s.heap (WM cI cJ cB cZ bd (fault := 1) (isTold := u_10)) H locs := h
  exact x_vret (w1 := (fun u : (Nat → Int32) => (WM cI cJ cB cZ bd (fault := 1) (isTold := u)))) (u_10) B h hr trivial dX12_readsFacet_149
set_option maxHeartbeats 4000000 in
set_option maxRecDepth 100000 in
theorem k32_X12_isRight (l : Launch) (D : va_G) (cI cJ cB cZ : ClassId) (ad bd : Nat → Nat) (u_3 : Nat → Int32) : MetI l yX12_isRight wsX12_isRight 0 0 0 0 D (TYS cI cJ cB cZ) (WM cI cJ cB cZ bd (fault := 1) (isTold := u_3)) [.ref (bd 0)] (fun (r : Int32) (_ : (Nat → Int32)) => r = 0) (fun u : (Nat → Int32) => (WM cI cJ cB cZ bd (fault := 1) (isTold := u))) := by
  refine x_startI (ty := .boolean) (cc := cX12_isRight) (by decide) rfl (Nat.le_of_ble_eq_true rfl) ?_
  intro p e s m args below meth c A ls B hr hnm h hl
  have hx := B.1.1
  have hb := B.1.2.1
  have hml := B.1.2.2.1
  have hts := B.1.2.2.2.2
  have hown : s.vm.findClass RX12 = some m.cls := B.1.2.2.2.1
  have hin12 : ∀ w ∈ u_ws RX12 TX12 31, w ∈ wsX12_isRight := by decide +kernel
  have hl : lv_has ls 1 [(0, .ref (bd 0))] := hl
  refine lv_aload_n hx hb dX12_isRight_0 rfl (lv_at hl 0 rfl) ?_
  refine x_get (ci := 12) (C := RX12) (T := TX12) (N := 31) (v := .int 1) B h hin12 0 3 rfl rfl (by decide) (by decide +kernel) rfl dX12_isRight_1 ?_
  refine lv_iconst (v := (-1)) hx hb dX12_isRight_4 (by decide) ?_
  refine lv_icmp_ne (tgt := 12) hx hb dX12_isRight_5 (by decide) (fun c_1 => ?_) (fun c_1 => absurd c_1 (by decide))
  refine lv_iconst (v := 0) hx hb dX12_isRight_12 (by decide) ?_
  exact x_iret (w1 := (fun u : (Nat → Int32) => (WM cI cJ cB cZ bd (fault := 1) (isTold := u)))) (u_3) B h hr rfl rfl dX12_isRight_13
set_option maxHeartbeats 4000000 in
set_option maxRecDepth 100000 in
theorem k33_X12_truth (l : Launch) (D : va_G) (cI cJ cB cZ : ClassId) (ad bd : Nat → Nat) : MetI l yX12_truth wsX12_truth 0 0 0 0 D (TYS cI cJ cB cZ) [] [.int 0] (fun (r : Int32) (_ : Unit) => r = 0) (fun _ => []) := by
  refine x_startI (ty := .int) (cc := cX12_truth) (by decide) rfl (Nat.le_of_ble_eq_true rfl) ?_
  intro p e s m args below meth c A ls B hr hnm h hl
  have hx := B.1.1
  have hb := B.1.2.1
  have hml := B.1.2.2.1
  have hts := B.1.2.2.2.2
  have hown : s.vm.findClass RX12 = some m.cls := B.1.2.2.2.1
  have hl : lv_has ls 1 [(0, .int 0)] := hl
  refine lv_iload_n hx hb dX12_truth_0 rfl (lv_at hl 0 rfl) ?_
  refine lv_if_eq (tgt := 8) hx hb dX12_truth_1 (by decide) (fun c_1 => ?_) (fun c_1 => absurd c_1 (by decide))
  refine lv_iconst (v := 0) hx hb dX12_truth_8 (by decide) ?_
  exact x_iret (w1 := (fun _ => [])) () B h hr rfl rfl dX12_truth_9
set_option maxHeartbeats 4000000 in
set_option maxRecDepth 100000 in
theorem k34_X12_isRight (l : Launch) (D : va_G) (cI cJ cB cZ : ClassId) (ad bd : Nat → Nat) (u_9 : Nat → Int32) : MetI l yX12_isRight wsX12_isRight 0 0 0 0 D (TYS cI cJ cB cZ) (WM cI cJ cB cZ bd (fault := 1) (isTold := u_9)) [.ref (bd 0)] (fun (r : Int32) (_ : (Nat → Int32)) => r = 0) (fun u : (Nat → Int32) => (WM cI cJ cB cZ bd (fault := 1) (isTold := u))) := by
  refine x_startI (ty := .boolean) (cc := cX12_isRight) (by decide) rfl (Nat.le_of_ble_eq_true rfl) ?_
  intro p e s m args below meth c A ls B hr hnm h hl
  have hx := B.1.1
  have hb := B.1.2.1
  have hml := B.1.2.2.1
  have hts := B.1.2.2.2.2
  have hown : s.vm.findClass RX12 = some m.cls := B.1.2.2.2.1
  have hin12 : ∀ w ∈ u_ws RX12 TX12 31, w ∈ wsX12_isRight := by decide +kernel
  have hl : lv_has ls 1 [(0, .ref (bd 0))] := hl
  refine lv_aload_n hx hb dX12_isRight_0 rfl (lv_at hl 0 rfl) ?_
  refine x_get (ci := 12) (C := RX12) (T := TX12) (N := 31) (v := .int 1) B h hin12 0 3 rfl rfl (by decide) (by decide +kernel) rfl dX12_isRight_1 ?_
  refine lv_iconst (v := (-1)) hx hb dX12_isRight_4 (by decide) ?_
  refine lv_icmp_ne (tgt := 12) hx hb dX12_isRight_5 (by decide) (fun c_1 => ?_) (fun c_1 => absurd c_1 (by decide))
  refine lv_iconst (v := 0) hx hb dX12_isRight_12 (by decide) ?_
  exact x_iret (w1 := (fun u : (Nat → Int32) => (WM cI cJ cB cZ bd (fault := 1) (isTold := u)))) (u_9) B h hr rfl rfl dX12_isRight_13
set_option maxHeartbeats 4000000 in
set_option maxRecDepth 100000 in
theorem k35_X12_complex (l : Launch) (D : va_G) (cI cJ cB cZ : ClassId) (ad bd : Nat → Nat) : MetI l yX12_complex wsX12_complex 3 66 0 0 D (TYS cI cJ cB cZ) (WM cI cJ cB cZ bd) [.ref (bd 0)] (fun (r : Int32) (_ : (Nat → Int32)) => r = (-3)) (fun u : (Nat → Int32) => (WM cI cJ cB cZ bd (fault := 1) (isTold := u))) := by
  refine x_startI (ty := .int) (cc := cX12_complex) (by decide) rfl (Nat.le_of_ble_eq_true rfl) ?_
  intro p e s m args below meth c A ls B hr hnm h hl
  have hx := B.1.1
  have hb := B.1.2.1
  have hml := B.1.2.2.1
  have hts := B.1.2.2.2.2
  have hown : s.vm.findClass RX12 = some m.cls := B.1.2.2.2.1
  have hin12 : ∀ w ∈ u_ws RX12 TX12 31, w ∈ wsX12_complex := by decide +kernel
  have hl : lv_has ls 3 [(0, .ref (bd 0))] := hl
  refine lv_aload_n hx hb dX12_complex_0 rfl (lv_at hl 0 rfl) ?_
  refine lv_iconst (v := 0) hx hb dX12_complex_1 (by decide) ?_
  refine x_put (ci := 12) (C := RX12) (T := TX12) (N := 31) (v := .int 0) (ty := .int) B h hin12 tyX12 tyX12_ok nmX12 0 2 rfl rfl (by decide) (by decide +kernel) rfl rfl rfl rfl (Nat.le_of_ble_eq_true rfl) dX12_complex_2 (fun H locs h => ?_)
  have h : Hp D A s.heap (WM cI cJ cB cZ bd) H locs := h
  refine lv_aload_n hx hb dX12_complex_5 rfl (lv_at hl 0 rfl) ?_
  refine lv_iconst (v := (-1)) hx hb dX12_complex_6 (by decide) ?_
  refine x_put (ci := 12) (C := RX12) (T := TX12) (N := 31) (v := .int (-1)) (ty := .int) B h hin12 tyX12 tyX12_ok nmX12 0 3 rfl rfl (by decide) (by decide +kernel) rfl rfl rfl rfl (Nat.le_of_ble_eq_true rfl) dX12_complex_7 (fun H locs h => ?_)
  have h : Hp D A s.heap (WM cI cJ cB cZ bd (fault := (-1))) H locs := h
  refine lv_iconst (v := 0) hx hb dX12_complex_10 (by decide) ?_
  refine lv_istore_n (lv' := [(1, .int 0), (0, .ref (bd 0))]) hx hb dX12_complex_11 rfl hl (by decide) rfl (fun ls hl => ?_)
  refine m_clear B hin12 (by decide +kernel) (fun f_1 H locs ls hl h => ?_) 256 0 _ H locs ls (by decide) (show lv_has ls 3 [(1, .int (nI 0)), (0, .ref (bd 0))] from by rw [nI_0]; exact hl) h
  rw [show nI 256 = 256 from by decide] at hl
  have h : Hp D A s.heap (WM cI cJ cB cZ bd (fault := (-1)) (isTold := f_1)) H locs := h
  refine lv_iconst (v := 0) hx hb dX12_complex_32 (by decide) ?_
  refine lv_istore_n (lv' := [(1, .int 0), (0, .ref (bd 0))]) hx hb dX12_complex_33 rfl hl (by decide) rfl (fun ls hl => ?_)
  refine lv_iconst (v := 1) hx hb dX12_complex_34 (by decide) ?_
  refine lv_istore_n (lv' := [(2, .int 1), (1, .int 0), (0, .ref (bd 0))]) hx hb dX12_complex_35 rfl hl (by decide) rfl (fun ls hl => ?_)
  refine lv_iload_n hx hb dX12_complex_36 rfl (lv_at hl 0 rfl) ?_
  refine lv_if_eq (tgt := 86) hx hb dX12_complex_37 (by decide) (fun c_2 => absurd c_2 (by decide)) (fun c_2 => ?_)
  refine lv_aload_n hx hb dX12_complex_40 rfl (lv_at hl 2 rfl) ?_
  refine lv_iload_n hx hb dX12_complex_41 rfl (lv_at hl 1 rfl) ?_
  refine x_cVVF (n := 1) (As := [.int 0]) (rest := []) B h (k31_X12_readsFacet l D cI cJ cB cZ ad bd f_1) ⟨⟨_, rfl⟩, by decide +kernel, Nat.le_of_ble_eq_true rfl, Nat.le_of_ble_eq_true rfl⟩ gX12_complex_X12_readsFacet (show ((WM cI cJ cB cZ bd (fault := (-1)) (isTold := f_1)) : va_W)[0]? = some (_, .inr (12, _)) from rfl) rfl rfl hl.1 rfl (Nat.le_of_ble_eq_true rfl) dX12_complex_42 ⟨Nat.le_of_ble_eq_true rfl, Nat.le_of_ble_eq_true rfl⟩ (fun u_3 H locs hp_3 h => ?_)
  have h : Hp D A s.heap (WM cI cJ cB cZ bd (fault := 1) (isTold := u_3)) H locs := h
  refine lv_iinc (v := 1) (lv' := [(1, .int 1), (2, .int 1), (0, .ref (bd 0))]) hx hb dX12_complex_45 hl (k := 1) rfl (by decide) (by decide) rfl (fun ls hl => ?_)
  refine lv_aload_n hx hb dX12_complex_48 rfl (lv_at hl 2 rfl) ?_
  refine x_cVIF (n := 0) (As := []) (rest := []) B h (k32_X12_isRight l D cI cJ cB cZ ad bd u_3) ⟨⟨_, rfl⟩, by decide +kernel, Nat.le_of_ble_eq_true rfl, Nat.le_of_ble_eq_true rfl⟩ gX12_complex_X12_isRight (show ((WM cI cJ cB cZ bd (fault := 1) (isTold := u_3)) : va_W)[0]? = some (_, .inr (12, _)) from rfl) rfl rfl hl.1 rfl (Nat.le_of_ble_eq_true rfl) dX12_complex_49 ⟨Nat.le_of_ble_eq_true rfl, Nat.le_of_ble_eq_true rfl⟩ (fun r_4 u_4 H locs hp_4 h => ?_)
  obtain rfl := hp_4
  have h : Hp D A s.heap (WM cI cJ cB cZ bd (fault := 1) (isTold := u_4)) H locs := h
  refine lv_if_eq (tgt := 68) hx hb dX12_complex_52 (by decide) (fun c_5 => ?_) (fun c_5 => absurd c_5 (by decide))
  refine lv_iconst (v := 0) hx hb dX12_complex_68 (by decide) ?_
  refine lv_istore_n (lv' := [(2, .int 0), (1, .int 1), (0, .ref (bd 0))]) hx hb dX12_complex_69 rfl hl (by decide) rfl (fun ls hl => ?_)
  refine lv_aload_n hx hb dX12_complex_70 rfl (lv_at hl 2 rfl) ?_
  refine lv_dup hx hb dX12_complex_71 rfl ?_
  refine x_get (ci := 12) (C := RX12) (T := TX12) (N := 31) (v := .int 0) B h hin12 0 2 rfl rfl (by decide) (by decide +kernel) rfl dX12_complex_72 ?_
  refine lv_iload_n hx hb dX12_complex_75 rfl (lv_at hl 0 rfl) ?_
  refine x_cSIE (n := 1) (As := [.int 0]) (rest := [.int 0, .ref (bd 0)]) B h (k33_X12_truth l D cI cJ cB cZ ad bd) ⟨⟨_, rfl⟩, by decide +kernel, Nat.le_of_ble_eq_true rfl, Nat.le_of_ble_eq_true rfl⟩ gX12_complex_X12_truth rfl hl.1 rfl (Nat.le_of_ble_eq_true rfl) dX12_complex_76 ⟨Nat.le_of_ble_eq_true rfl, Nat.le_of_ble_eq_true rfl⟩ (fun r_6 u_6 H locs hp_6 h => ?_)
  obtain rfl := hp_6
  have h : Hp D A s.heap (WM cI cJ cB cZ bd (fault := 1) (isTold := u_4)) H locs := h
  refine lv_iadd hx hb dX12_complex_79 ?_
  refine lv_topi (fun v_7 ev_7 => ?_)
  obtain rfl : v_7 = 0 := ev_7.trans (by decide)
  refine x_put (ci := 12) (C := RX12) (T := TX12) (N := 31) (v := .int 0) (ty := .int) B h hin12 tyX12 tyX12_ok nmX12 0 2 rfl rfl (by decide) (by decide +kernel) rfl rfl rfl rfl (Nat.le_of_ble_eq_true rfl) dX12_complex_80 (fun H locs h => ?_)
  have h : Hp D A s.heap (WM cI cJ cB cZ bd (fault := 1) (isTold := u_4)) H locs := h
  refine lv_goto (tgt := 36) hx hb dX12_complex_83 (by decide) ?_
  refine lv_iload_n hx hb dX12_complex_36 rfl (lv_at hl 0 rfl) ?_
  refine lv_if_eq (tgt := 86) hx hb dX12_complex_37 (by decide) (fun c_8 => ?_) (fun c_8 => absurd c_8 (by decide))
  refine lv_aload_n hx hb dX12_complex_86 rfl (lv_at hl 2 rfl) ?_
  refine x_cVIF (n := 0) (As := []) (rest := []) B h (k27_X12_isRight l D cI cJ cB cZ ad bd u_4) ⟨⟨_, rfl⟩, by decide +kernel, Nat.le_of_ble_eq_true rfl, Nat.le_of_ble_eq_true rfl⟩ gX12_complex_X12_isRight (show ((WM cI cJ cB cZ bd (fault := 1) (isTold := u_4)) : va_W)[0]? = some (_, .inr (12, _)) from rfl) rfl rfl hl.1 rfl (Nat.le_of_ble_eq_true rfl) dX12_complex_87 ⟨Nat.le_of_ble_eq_true rfl, Nat.le_of_ble_eq_true rfl⟩ (fun r_9 u_9 H locs hp_9 h => ?_)
  obtain rfl := hp_9
  have h : Hp D A s.heap (WM cI cJ cB cZ bd (fault := 1) (isTold := u_9)) H locs := h
  refine lv_if_eq (tgt := 110) hx hb dX12_complex_90 (by decide) (fun c_10 => ?_) (fun c_10 => absurd c_10 (by decide))
  refine lv_aload_n hx hb dX12_complex_110 rfl (lv_at hl 2 rfl) ?_
  refine lv_iconst (v := 0) hx hb dX12_complex_111 (by decide) ?_
  refine x_put (ci := 12) (C := RX12) (T := TX12) (N := 31) (v := .int 0) (ty := .int) B h hin12 tyX12 tyX12_ok nmX12 0 1 rfl rfl (by decide) (by decide +kernel) rfl rfl rfl rfl (Nat.le_of_ble_eq_true rfl) dX12_complex_112 (fun H locs h => ?_)
  have h : Hp D A s.heap (WM cI cJ cB cZ bd (fault := 1) (isTold := u_9)) H locs := h
  refine lv_aload_n hx hb dX12_complex_115 rfl (lv_at hl 2 rfl) ?_
  refine x_cVIF (n := 0) (As := []) (rest := []) B h (k34_X12_isRight l D cI cJ cB cZ ad bd u_9) ⟨⟨_, rfl⟩, by decide +kernel, Nat.le_of_ble_eq_true rfl, Nat.le_of_ble_eq_true rfl⟩ gX12_complex_X12_isRight (show ((WM cI cJ cB cZ bd (fault := 1) (isTold := u_9)) : va_W)[0]? = some (_, .inr (12, _)) from rfl) rfl rfl hl.1 rfl (Nat.le_of_ble_eq_true rfl) dX12_complex_116 ⟨Nat.le_of_ble_eq_true rfl, Nat.le_of_ble_eq_true rfl⟩ (fun r_11 u_11 H locs hp_11 h => ?_)
  obtain rfl := hp_11
  have h : Hp D A s.heap (WM cI cJ cB cZ bd (fault := 1) (isTold := u_11)) H locs := h
  refine lv_if_ne (tgt := 130) hx hb dX12_complex_119 (by decide) (fun c_12 => absurd c_12 (by decide)) (fun c_12 => ?_)
  refine lv_bipush (v := (-2)) hx hb dX12_complex_122 (by decide) ?_
  refine lv_aload_n hx hb dX12_complex_124 rfl (lv_at hl 2 rfl) ?_
  refine x_get (ci := 12) (C := RX12) (T := TX12) (N := 31) (v := .int 1) B h hin12 0 3 rfl rfl (by decide) (by decide +kernel) rfl dX12_complex_125 ?_
  refine lv_isub hx hb dX12_complex_128 ?_
  refine lv_topi (fun v_13 ev_13 => ?_)
  obtain rfl : v_13 = (-3) := ev_13.trans (by decide)
  exact x_iret (w1 := (fun u : (Nat → Int32) => (WM cI cJ cB cZ bd (fault := 1) (isTold := u)))) (u_11) B h hr rfl rfl dX12_complex_129
set_option maxHeartbeats 4000000 in
set_option maxRecDepth 100000 in
theorem k36_X9_has (l : Launch) (D : va_G) (cI cJ cB cZ : ClassId) (ad bd : Nat → Nat) (p1 : Int32) : MetI l yX9_has wsX9_has 0 0 0 0 D (TYS cI cJ cB cZ) (WX cI cJ cB cZ ad) [.ref (ad 3), .int p1] (fun (r : Int32) (_ : Unit) => r = 0) (fun _ => (WX cI cJ cB cZ ad)) := by
  refine x_startI (ty := .boolean) (cc := cX9_has) (by decide) rfl (Nat.le_of_ble_eq_true rfl) ?_
  intro p e s m args below meth c A ls B hr hnm h hl
  have hx := B.1.1
  have hb := B.1.2.1
  have hml := B.1.2.2.1
  have hts := B.1.2.2.2.2
  have hown : s.vm.findClass RX9 = some m.cls := B.1.2.2.2.1
  have hin9 : ∀ w ∈ u_ws RX9 TX9 7, w ∈ wsX9_has := by decide +kernel
  have hl : lv_has ls 2 [(0, .ref (ad 3)), (1, .int p1)] := hl
  refine lv_iload_n hx hb dX9_has_0 rfl (lv_at hl 1 rfl) ?_
  refine lv_if_lt (tgt := 16) hx hb dX9_has_1 (by decide) (fun c_1 => ?_) (fun c_1 => ?_)
  · skip
    refine lv_iconst (v := 0) hx hb dX9_has_16 (by decide) ?_
    exact x_iret (w1 := (fun _ => (WX cI cJ cB cZ ad))) () B h hr rfl rfl dX9_has_17
  · skip
    refine lv_iload_n hx hb dX9_has_4 rfl (lv_at hl 1 rfl) ?_
    refine lv_aload_n hx hb dX9_has_5 rfl (lv_at hl 0 rfl) ?_
    refine x_get (ci := 9) (C := RX9) (T := TX9) (N := 7) (v := .int 0) B h hin9 3 0 rfl rfl (by decide) (by decide +kernel) rfl dX9_has_6 ?_
    refine lv_icmp_ge (tgt := 16) hx hb dX9_has_9 (by decide) (fun c_2 => ?_) (fun c_2 => absurd c_2 (by simp only [Int32.lt_iff_toInt_lt, Int32.le_iff_toInt_le, ← Int32.toInt_inj, show ((0 : Int32)).toInt = 0 from by decide] at c_1 ⊢; omega))
    refine lv_iconst (v := 0) hx hb dX9_has_16 (by decide) ?_
    exact x_iret (w1 := (fun _ => (WX cI cJ cB cZ ad))) () B h hr rfl rfl dX9_has_17
set_option maxHeartbeats 4000000 in
set_option maxRecDepth 100000 in
theorem k37_X11_simplex (l : Launch) (D : va_G) (cI cJ cB cZ : ClassId) (ad bd : Nat → Nat) (p1 : Int32) (p2 : Int32) : MetI l yX11_simplex wsX11_simplex 1 21 0 0 D (TYS cI cJ cB cZ) (WX cI cJ cB cZ ad) [.ref (ad 0), .int p1, .int p2] (fun (r : Int32) (_ : Unit) => r = (-1)) (fun _ => (WX cI cJ cB cZ ad)) := by
  refine x_startI (ty := .int) (cc := cX11_simplex) (by decide) rfl (Nat.le_of_ble_eq_true rfl) ?_
  intro p e s m args below meth c A ls B hr hnm h hl
  have hx := B.1.1
  have hb := B.1.2.1
  have hml := B.1.2.2.1
  have hts := B.1.2.2.2.2
  have hown : s.vm.findClass RX11 = some m.cls := B.1.2.2.2.1
  have hin11 : ∀ w ∈ u_ws RX11 TX11 11, w ∈ wsX11_simplex := by decide +kernel
  have hl : lv_has ls 3 [(0, .ref (ad 0)), (1, .int p1), (2, .int p2)] := hl
  refine lv_aload_n hx hb dX11_simplex_0 rfl (lv_at hl 0 rfl) ?_
  refine x_get (ci := 11) (C := RX11) (T := TX11) (N := 11) (v := .ref (ad 3)) B h hin11 0 2 rfl rfl (by decide) (by decide +kernel) rfl dX11_simplex_1 ?_
  refine lv_iload_n hx hb dX11_simplex_4 rfl (lv_at hl 1 rfl) ?_
  refine x_cVIF (n := 1) (As := [.int p1]) (rest := []) B h (k36_X9_has l D cI cJ cB cZ ad bd p1) ⟨⟨_, rfl⟩, by decide +kernel, Nat.le_of_ble_eq_true rfl, Nat.le_of_ble_eq_true rfl⟩ gX11_simplex_X9_has (show ((WX cI cJ cB cZ ad) : va_W)[3]? = some (_, .inr (9, _)) from rfl) rfl rfl hl.1 rfl (Nat.le_of_ble_eq_true rfl) dX11_simplex_5 ⟨Nat.le_of_ble_eq_true rfl, Nat.le_of_ble_eq_true rfl⟩ (fun r_1 u_1 H locs hp_1 h => ?_)
  obtain rfl := hp_1
  have h : Hp D A s.heap (WX cI cJ cB cZ ad) H locs := h
  refine lv_if_ne (tgt := 13) hx hb dX11_simplex_8 (by decide) (fun c_2 => absurd c_2 (by decide)) (fun c_2 => ?_)
  refine lv_iconst (v := (-1)) hx hb dX11_simplex_11 (by decide) ?_
  exact x_iret (w1 := (fun _ => (WX cI cJ cB cZ ad))) () B h hr rfl rfl dX11_simplex_12
set_option maxHeartbeats 4000000 in
set_option maxRecDepth 100000 in
theorem k38_X12_in (l : Launch) (D : va_G) (cI cJ cB cZ : ClassId) (ad bd : Nat → Nat) (p0 : Int32) : MetI l yX12_in wsX12_in 0 0 0 0 D (TYS cI cJ cB cZ) [] [.int p0, .int 0, .int (-1)] (fun (r : Int32) (_ : Unit) => r = 0) (fun _ => []) := by
  refine x_startI (ty := .boolean) (cc := cX12_in) (by decide) rfl (Nat.le_of_ble_eq_true rfl) ?_
  intro p e s m args below meth c A ls B hr hnm h hl
  have hx := B.1.1
  have hb := B.1.2.1
  have hml := B.1.2.2.1
  have hts := B.1.2.2.2.2
  have hown : s.vm.findClass RX12 = some m.cls := B.1.2.2.2.1
  have hl : lv_has ls 3 [(0, .int p0), (1, .int 0), (2, .int (-1))] := hl
  refine lv_iload_n hx hb dX12_in_0 rfl (lv_at hl 0 rfl) ?_
  refine lv_iload_n hx hb dX12_in_1 rfl (lv_at hl 1 rfl) ?_
  refine lv_icmp_lt (tgt := 14) hx hb dX12_in_2 (by decide) (fun c_1 => ?_) (fun c_1 => ?_)
  · skip
    refine lv_iconst (v := 0) hx hb dX12_in_14 (by decide) ?_
    exact x_iret (w1 := (fun _ => [])) () B h hr rfl rfl dX12_in_15
  · skip
    refine lv_iload_n hx hb dX12_in_5 rfl (lv_at hl 0 rfl) ?_
    refine lv_iload_n hx hb dX12_in_6 rfl (lv_at hl 2 rfl) ?_
    refine lv_icmp_gt (tgt := 14) hx hb dX12_in_7 (by decide) (fun c_2 => ?_) (fun c_2 => absurd c_2 (by simp only [Int32.lt_iff_toInt_lt, Int32.le_iff_toInt_le, ← Int32.toInt_inj, show ((-1 : Int32)).toInt = -1 from by decide, show ((0 : Int32)).toInt = 0 from by decide] at c_1 ⊢; omega))
    refine lv_iconst (v := 0) hx hb dX12_in_14 (by decide) ?_
    exact x_iret (w1 := (fun _ => [])) () B h hr rfl rfl dX12_in_15
set_option maxHeartbeats 4000000 in
set_option maxRecDepth 100000 in
theorem k39_X12_isSimplex (l : Launch) (D : va_G) (cI cJ cB cZ : ClassId) (ad bd : Nat → Nat) (p1 : Int32) : MetI l yX12_isSimplex wsX12_isSimplex 1 22 0 0 D (TYS cI cJ cB cZ) (WM cI cJ cB cZ bd) [.ref (bd 0), .int p1] (fun (r : Int32) (_ : Unit) => r = 0) (fun _ => (WM cI cJ cB cZ bd)) := by
  refine x_startI (ty := .boolean) (cc := cX12_isSimplex) (by decide) rfl (Nat.le_of_ble_eq_true rfl) ?_
  intro p e s m args below meth c A ls B hr hnm h hl
  have hx := B.1.1
  have hb := B.1.2.1
  have hml := B.1.2.2.1
  have hts := B.1.2.2.2.2
  have hown : s.vm.findClass RX12 = some m.cls := B.1.2.2.2.1
  have hin12 : ∀ w ∈ u_ws RX12 TX12 31, w ∈ wsX12_isSimplex := by decide +kernel
  have hl : lv_has ls 2 [(0, .ref (bd 0)), (1, .int p1)] := hl
  refine lv_iload_n hx hb dX12_isSimplex_0 rfl (lv_at hl 1 rfl) ?_
  refine lv_iconst (v := 0) hx hb dX12_isSimplex_1 (by decide) ?_
  refine lv_aload_n hx hb dX12_isSimplex_2 rfl (lv_at hl 0 rfl) ?_
  refine x_get (ci := 12) (C := RX12) (T := TX12) (N := 31) (v := .int 0) B h hin12 0 5 rfl rfl (by decide) (by decide +kernel) rfl dX12_isSimplex_3 ?_
  refine lv_iconst (v := 1) hx hb dX12_isSimplex_6 (by decide) ?_
  refine lv_isub hx hb dX12_isSimplex_7 ?_
  refine lv_topi (fun v_1 ev_1 => ?_)
  obtain rfl : v_1 = (-1) := ev_1.trans (by decide)
  refine x_cSIE (n := 3) (As := [.int p1, .int 0, .int (-1)]) (rest := []) B h (k38_X12_in l D cI cJ cB cZ ad bd p1) ⟨⟨_, rfl⟩, by decide +kernel, Nat.le_of_ble_eq_true rfl, Nat.le_of_ble_eq_true rfl⟩ gX12_isSimplex_X12_in rfl hl.1 rfl (Nat.le_of_ble_eq_true rfl) dX12_isSimplex_8 ⟨Nat.le_of_ble_eq_true rfl, Nat.le_of_ble_eq_true rfl⟩ (fun r_2 u_2 H locs hp_2 h => ?_)
  obtain rfl := hp_2
  have h : Hp D A s.heap (WM cI cJ cB cZ bd) H locs := h
  exact x_iret (w1 := (fun _ => (WM cI cJ cB cZ bd))) () B h hr rfl rfl dX12_isSimplex_11
set_option maxHeartbeats 4000000 in
set_option maxRecDepth 100000 in
theorem k40_X12_simplex (l : Launch) (D : va_G) (cI cJ cB cZ : ClassId) (ad bd : Nat → Nat) (p1 : Int32) (p2 : Int32) : MetI l yX12_simplex wsX12_simplex 2 43 0 0 D (TYS cI cJ cB cZ) (WM cI cJ cB cZ bd) [.ref (bd 0), .int p1, .int p2] (fun (r : Int32) (_ : Unit) => r = (-1)) (fun _ => (WM cI cJ cB cZ bd)) := by
  refine x_startI (ty := .int) (cc := cX12_simplex) (by decide) rfl (Nat.le_of_ble_eq_true rfl) ?_
  intro p e s m args below meth c A ls B hr hnm h hl
  have hx := B.1.1
  have hb := B.1.2.1
  have hml := B.1.2.2.1
  have hts := B.1.2.2.2.2
  have hown : s.vm.findClass RX12 = some m.cls := B.1.2.2.2.1
  have hl : lv_has ls 3 [(0, .ref (bd 0)), (1, .int p1), (2, .int p2)] := hl
  refine lv_aload_n hx hb dX12_simplex_0 rfl (lv_at hl 0 rfl) ?_
  refine lv_iload_n hx hb dX12_simplex_1 rfl (lv_at hl 1 rfl) ?_
  refine x_cVIF (n := 1) (As := [.int p1]) (rest := []) B h (k39_X12_isSimplex l D cI cJ cB cZ ad bd p1) ⟨⟨_, rfl⟩, by decide +kernel, Nat.le_of_ble_eq_true rfl, Nat.le_of_ble_eq_true rfl⟩ gX12_simplex_X12_isSimplex (show ((WM cI cJ cB cZ bd) : va_W)[0]? = some (_, .inr (12, _)) from rfl) rfl rfl hl.1 rfl (Nat.le_of_ble_eq_true rfl) dX12_simplex_2 ⟨Nat.le_of_ble_eq_true rfl, Nat.le_of_ble_eq_true rfl⟩ (fun r_1 u_1 H locs hp_1 h => ?_)
  obtain rfl := hp_1
  have h : Hp D A s.heap (WM cI cJ cB cZ bd) H locs := h
  refine lv_if_ne (tgt := 10) hx hb dX12_simplex_5 (by decide) (fun c_2 => absurd c_2 (by decide)) (fun c_2 => ?_)
  refine lv_iconst (v := (-1)) hx hb dX12_simplex_8 (by decide) ?_
  exact x_iret (w1 := (fun _ => (WM cI cJ cB cZ bd))) () B h hr rfl rfl dX12_simplex_9
