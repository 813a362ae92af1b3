set_option maxHeartbeats 4000000 in
set_option maxRecDepth 100000 in
theorem k0_X10_append (l : Launch) (D : va_G) (cI cJ cB cZ : ClassId) (ad bd : Nat → Nat) (p1 : Int32) : MetV l yX10_append wsX10_append 0 0 0 0 D (TYS cI cJ cB cZ) (WX cI cJ cB cZ ad) [.ref (ad 1), .int p1] (fun _ : (Nat → Int32) => True) (fun u : (Nat → Int32) => (WX cI cJ cB cZ ad (Tape_bytes := u) (Tape_size := 4))) := by
  refine x_startV (ty := .int) (cc := cX10_append) (by decide) rfl (Nat.le_of_ble_eq_true rfl) ?_
  intro p e s m args below meth c A ls B hr hnm h hl
  have hx := B.1.1
  have hb := B.1.2.1
  have hml := B.1.2.2.1
  have hts := B.1.2.2.2.2
  have hown : s.vm.findClass RX10 = some m.cls := B.1.2.2.2.1
  have hin10 : ∀ w ∈ u_ws RX10 TX10 2, w ∈ wsX10_append := by decide +kernel
  have hl : lv_has ls 3 [(0, .ref (ad 1)), (1, .int p1)] := hl
  refine lv_bipush (v := 24) hx hb dX10_append_0 (by decide) ?_
  refine lv_istore_n (lv' := [(2, .int 24), (0, .ref (ad 1)), (1, .int p1)]) hx hb dX10_append_2 rfl hl (by decide) rfl (fun ls hl => ?_)
  refine lv_iload_n hx hb dX10_append_3 rfl (lv_at hl 0 rfl) ?_
  refine lv_if_lt (tgt := 49) hx hb dX10_append_4 (by decide) (fun c_1 => absurd c_1 (by decide)) (fun c_1 => ?_)
  refine lv_aload_n hx hb dX10_append_7 rfl (lv_at hl 1 rfl) ?_
  refine x_get (ci := 10) (C := RX10) (T := TX10) (N := 2) (v := .int 0) B h hin10 1 1 rfl rfl (by decide) (by decide +kernel) rfl dX10_append_8 ?_
  refine lv_sipush (v := 160) hx hb dX10_append_11 (by decide) ?_
  refine lv_icmp_ge (tgt := 49) hx hb dX10_append_14 (by decide) (fun c_2 => absurd c_2 (by decide)) (fun c_2 => ?_)
  refine lv_aload_n hx hb dX10_append_17 rfl (lv_at hl 1 rfl) ?_
  refine x_get (ci := 10) (C := RX10) (T := TX10) (N := 2) (v := .ref (ad 12)) B h hin10 1 0 rfl rfl (by decide) (by decide +kernel) rfl dX10_append_18 ?_
  refine lv_aload_n hx hb dX10_append_21 rfl (lv_at hl 1 rfl) ?_
  refine x_get (ci := 10) (C := RX10) (T := TX10) (N := 2) (v := .int 0) B h hin10 1 1 rfl rfl (by decide) (by decide +kernel) rfl dX10_append_22 ?_
  refine lv_iload_n hx hb dX10_append_25 rfl (lv_at hl 2 rfl) ?_
  refine lv_iload_n hx hb dX10_append_26 rfl (lv_at hl 0 rfl) ?_
  refine lv_iushr hx hb dX10_append_27 rfl ?_
  refine lv_topi (fun v_3 _ => ?_)
  refine lv_sipush (v := 255) hx hb dX10_append_28 (by decide) ?_
  refine lv_iand hx hb dX10_append_31 ?_
  refine x_iast B h 12 0 rfl rfl (vp_in_iff.mpr (by decide)) dX10_append_32 (fun H locs f_4 h => ?_)
  have h : Hp D A s.heap (WX cI cJ cB cZ ad (Tape_bytes := f_4)) H locs := h
  refine lv_aload_n hx hb dX10_append_33 rfl (lv_at hl 1 rfl) ?_
  refine lv_dup hx hb dX10_append_34 rfl ?_
  refine x_get (ci := 10) (C := RX10) (T := TX10) (N := 2) (v := .int 0) B h hin10 1 1 rfl rfl (by decide) (by decide +kernel) rfl dX10_append_35 ?_
  refine lv_iconst (v := 1) hx hb dX10_append_38 (by decide) ?_
  refine lv_iadd hx hb dX10_append_39 ?_
  refine lv_topi (fun v_5 ev_5 => ?_)
  obtain rfl : v_5 = 1 := ev_5.trans (by decide)
  refine x_put (ci := 10) (C := RX10) (T := TX10) (N := 2) (v := .int 1) (ty := .int) B h hin10 tyX10 tyX10_ok nmX10 1 1 rfl rfl (by decide) (by decide +kernel) rfl rfl rfl rfl (Nat.le_of_ble_eq_true rfl) dX10_append_40 (fun H locs h => ?_)
  have h : Hp D A s.heap (WX cI cJ cB cZ ad (Tape_bytes := f_4) (Tape_size := 1)) H locs := h
  refine lv_iinc (v := 16) (lv' := [(2, .int 16), (0, .ref (ad 1)), (1, .int p1)]) hx hb dX10_append_43 hl (k := 0) rfl (by decide) (by decide) rfl (fun ls hl => ?_)
  refine lv_goto (tgt := 3) hx hb dX10_append_46 (by decide) ?_
  refine lv_iload_n hx hb dX10_append_3 rfl (lv_at hl 0 rfl) ?_
  refine lv_if_lt (tgt := 49) hx hb dX10_append_4 (by decide) (fun c_6 => absurd c_6 (by decide)) (fun c_6 => ?_)
  refine lv_aload_n hx hb dX10_append_7 rfl (lv_at hl 1 rfl) ?_
  refine x_get (ci := 10) (C := RX10) (T := TX10) (N := 2) (v := .int 1) B h hin10 1 1 rfl rfl (by decide) (by decide +kernel) rfl dX10_append_8 ?_
  refine lv_sipush (v := 160) hx hb dX10_append_11 (by decide) ?_
  refine lv_icmp_ge (tgt := 49) hx hb dX10_append_14 (by decide) (fun c_7 => absurd c_7 (by decide)) (fun c_7 => ?_)
  refine lv_aload_n hx hb dX10_append_17 rfl (lv_at hl 1 rfl) ?_
  refine x_get (ci := 10) (C := RX10) (T := TX10) (N := 2) (v := .ref (ad 12)) B h hin10 1 0 rfl rfl (by decide) (by decide +kernel) rfl dX10_append_18 ?_
  refine lv_aload_n hx hb dX10_append_21 rfl (lv_at hl 1 rfl) ?_
  refine x_get (ci := 10) (C := RX10) (T := TX10) (N := 2) (v := .int 1) B h hin10 1 1 rfl rfl (by decide) (by decide +kernel) rfl dX10_append_22 ?_
  refine lv_iload_n hx hb dX10_append_25 rfl (lv_at hl 2 rfl) ?_
  refine lv_iload_n hx hb dX10_append_26 rfl (lv_at hl 0 rfl) ?_
  refine lv_iushr hx hb dX10_append_27 rfl ?_
  refine lv_topi (fun v_8 _ => ?_)
  refine lv_sipush (v := 255) hx hb dX10_append_28 (by decide) ?_
  refine lv_iand hx hb dX10_append_31 ?_
  refine x_iast B h 12 0 rfl rfl (vp_in_iff.mpr (by decide)) dX10_append_32 (fun H locs f_9 h => ?_)
  have h : Hp D A s.heap (WX cI cJ cB cZ ad (Tape_bytes := f_9) (Tape_size := 1)) H locs := h
  refine lv_aload_n hx hb dX10_append_33 rfl (lv_at hl 1 rfl) ?_
  refine lv_dup hx hb dX10_append_34 rfl ?_
  refine x_get (ci := 10) (C := RX10) (T := TX10) (N := 2) (v := .int 1) B h hin10 1 1 rfl rfl (by decide) (by decide +kernel) rfl dX10_append_35 ?_
  refine lv_iconst (v := 1) hx hb dX10_append_38 (by decide) ?_
  refine lv_iadd hx hb dX10_append_39 ?_
  refine lv_topi (fun v_10 ev_10 => ?_)
  obtain rfl : v_10 = 2 := ev_10.trans (by decide)
  refine x_put (ci := 10) (C := RX10) (T := TX10) (N := 2) (v := .int 2) (ty := .int) B h hin10 tyX10 tyX10_ok nmX10 1 1 rfl rfl (by decide) (by decide +kernel) rfl rfl rfl rfl (Nat.le_of_ble_eq_true rfl) dX10_append_40 (fun H locs h => ?_)
  have h : Hp D A s.heap (WX cI cJ cB cZ ad (Tape_bytes := f_9) (Tape_size := 2)) H locs := h
  refine lv_iinc (v := 8) (lv' := [(2, .int 8), (0, .ref (ad 1)), (1, .int p1)]) hx hb dX10_append_43 hl (k := 0) rfl (by decide) (by decide) rfl (fun ls hl => ?_)
  refine lv_goto (tgt := 3) hx hb dX10_append_46 (by decide) ?_
  refine lv_iload_n hx hb dX10_append_3 rfl (lv_at hl 0 rfl) ?_
  refine lv_if_lt (tgt := 49) hx hb dX10_append_4 (by decide) (fun c_11 => absurd c_11 (by decide)) (fun c_11 => ?_)
  refine lv_aload_n hx hb dX10_append_7 rfl (lv_at hl 1 rfl) ?_
  refine x_get (ci := 10) (C := RX10) (T := TX10) (N := 2) (v := .int 2) B h hin10 1 1 rfl rfl (by decide) (by decide +kernel) rfl dX10_append_8 ?_
  refine lv_sipush (v := 160) hx hb dX10_append_11 (by decide) ?_
  refine lv_icmp_ge (tgt := 49) hx hb dX10_append_14 (by decide) (fun c_12 => absurd c_12 (by decide)) (fun c_12 => ?_)
  refine lv_aload_n hx hb dX10_append_17 rfl (lv_at hl 1 rfl) ?_
  refine x_get (ci := 10) (C := RX10) (T := TX10) (N := 2) (v := .ref (ad 12)) B h hin10 1 0 rfl rfl (by decide) (by decide +kernel) rfl dX10_append_18 ?_
  refine lv_aload_n hx hb dX10_append_21 rfl (lv_at hl 1 rfl) ?_
  refine x_get (ci := 10) (C := RX10) (T := TX10) (N := 2) (v := .int 2) B h hin10 1 1 rfl rfl (by decide) (by decide +kernel) rfl dX10_append_22 ?_
  refine lv_iload_n hx hb dX10_append_25 rfl (lv_at hl 2 rfl) ?_
  refine lv_iload_n hx hb dX10_append_26 rfl (lv_at hl 0 rfl) ?_
  refine lv_iushr hx hb dX10_append_27 rfl ?_
  refine lv_topi (fun v_13 _ => ?_)
  refine lv_sipush (v := 255) hx hb dX10_append_28 (by decide) ?_
  refine lv_iand hx hb dX10_append_31 ?_
  refine x_iast B h 12 0 rfl rfl (vp_in_iff.mpr (by decide)) dX10_append_32 (fun H locs f_14 h => ?_)
  have h : Hp D A s.heap (WX cI cJ cB cZ ad (Tape_bytes := f_14) (Tape_size := 2)) H locs := h
  refine lv_aload_n hx hb dX10_append_33 rfl (lv_at hl 1 rfl) ?_
  refine lv_dup hx hb dX10_append_34 rfl ?_
  refine x_get (ci := 10) (C := RX10) (T := TX10) (N := 2) (v := .int 2) B h hin10 1 1 rfl rfl (by decide) (by decide +kernel) rfl dX10_append_35 ?_
  refine lv_iconst (v := 1) hx hb dX10_append_38 (by decide) ?_
  refine lv_iadd hx hb dX10_append_39 ?_
  refine lv_topi (fun v_15 ev_15 => ?_)
  obtain rfl : v_15 = 3 := ev_15.trans (by decide)
  refine x_put (ci := 10) (C := RX10) (T := TX10) (N := 2) (v := .int 3) (ty := .int) B h hin10 tyX10 tyX10_ok nmX10 1 1 rfl rfl (by decide) (by decide +kernel) rfl rfl rfl rfl (Nat.le_of_ble_eq_true rfl) dX10_append_40 (fun H locs h => ?_)
  have h : Hp D A s.heap (WX cI cJ cB cZ ad (Tape_bytes := f_14) (Tape_size := 3)) H locs := h
  refine lv_iinc (v := 0) (lv' := [(2, .int 0), (0, .ref (ad 1)), (1, .int p1)]) hx hb dX10_append_43 hl (k := 0) rfl (by decide) (by decide) rfl (fun ls hl => ?_)
  refine lv_goto (tgt := 3) hx hb dX10_append_46 (by decide) ?_
  refine lv_iload_n hx hb dX10_append_3 rfl (lv_at hl 0 rfl) ?_
  refine lv_if_lt (tgt := 49) hx hb dX10_append_4 (by decide) (fun c_16 => absurd c_16 (by decide)) (fun c_16 => ?_)
  refine lv_aload_n hx hb dX10_append_7 rfl (lv_at hl 1 rfl) ?_
  refine x_get (ci := 10) (C := RX10) (T := TX10) (N := 2) (v := .int 3) B h hin10 1 1 rfl rfl (by decide) (by decide +kernel) rfl dX10_append_8 ?_
  refine lv_sipush (v := 160) hx hb dX10_append_11 (by decide) ?_
  refine lv_icmp_ge (tgt := 49) hx hb dX10_append_14 (by decide) (fun c_17 => absurd c_17 (by decide)) (fun c_17 => ?_)
  refine lv_aload_n hx hb dX10_append_17 rfl (lv_at hl 1 rfl) ?_
  refine x_get (ci := 10) (C := RX10) (T := TX10) (N := 2) (v := .ref (ad 12)) B h hin10 1 0 rfl rfl (by decide) (by decide +kernel) rfl dX10_append_18 ?_
  refine lv_aload_n hx hb dX10_append_21 rfl (lv_at hl 1 rfl) ?_
  refine x_get (ci := 10) (C := RX10) (T := TX10) (N := 2) (v := .int 3) B h hin10 1 1 rfl rfl (by decide) (by decide +kernel) rfl dX10_append_22 ?_
  refine lv_iload_n hx hb dX10_append_25 rfl (lv_at hl 2 rfl) ?_
  refine lv_iload_n hx hb dX10_append_26 rfl (lv_at hl 0 rfl) ?_
  refine lv_iushr hx hb dX10_append_27 rfl ?_
  refine lv_topi (fun v_18 _ => ?_)
  refine lv_sipush (v := 255) hx hb dX10_append_28 (by decide) ?_
  refine lv_iand hx hb dX10_append_31 ?_
  refine x_iast B h 12 0 rfl rfl (vp_in_iff.mpr (by decide)) dX10_append_32 (fun H locs f_19 h => ?_)
  have h : Hp D A s.heap (WX cI cJ cB cZ ad (Tape_bytes := f_19) (Tape_size := 3)) H locs := h
  refine lv_aload_n hx hb dX10_append_33 rfl (lv_at hl 1 rfl) ?_
  refine lv_dup hx hb dX10_append_34 rfl ?_
  refine x_get (ci := 10) (C := RX10) (T := TX10) (N := 2) (v := .int 3) B h hin10 1 1 rfl rfl (by decide) (by decide +kernel) rfl dX10_append_35 ?_
  refine lv_iconst (v := 1) hx hb dX10_append_38 (by decide) ?_
  refine lv_iadd hx hb dX10_append_39 ?_
  refine lv_topi (fun v_20 ev_20 => ?_)
  obtain rfl : v_20 = 4 := ev_20.trans (by decide)
  refine x_put (ci := 10) (C := RX10) (T := TX10) (N := 2) (v := .int 4) (ty := .int) B h hin10 tyX10 tyX10_ok nmX10 1 1 rfl rfl (by decide) (by decide +kernel) rfl rfl rfl rfl (Nat.le_of_ble_eq_true rfl) dX10_append_40 (fun H locs h => ?_)
  have h : Hp D A s.heap (WX cI cJ cB cZ ad (Tape_bytes := f_19) (Tape_size := 4)) H locs := h
  refine lv_iinc (v := (-8)) (lv' := [(2, .int (-8)), (0, .ref (ad 1)), (1, .int p1)]) hx hb dX10_append_43 hl (k := 0) rfl (by decide) (by decide) rfl (fun ls hl => ?_)
  refine lv_goto (tgt := 3) hx hb dX10_append_46 (by decide) ?_
  refine lv_iload_n hx hb dX10_append_3 rfl (lv_at hl 0 rfl) ?_
  refine lv_if_lt (tgt := 49) hx hb dX10_append_4 (by decide) (fun c_21 => ?_) (fun c_21 => absurd c_21 (by decide))
  exact x_vret (w1 := (fun u : (Nat → Int32) => (WX cI cJ cB cZ ad (Tape_bytes := u) (Tape_size := 4)))) (f_19) B h hr trivial dX10_append_49
set_option maxHeartbeats 4000000 in
set_option maxRecDepth 100000 in
theorem k1_X10_append (l : Launch) (D : va_G) (cI cJ cB cZ : ClassId) (ad bd : Nat → Nat) (p1 : Int32) (u_3 : Nat → Int32) : MetV l yX10_append wsX10_append 0 0 0 0 D (TYS cI cJ cB cZ) (WX cI cJ cB cZ ad (Tape_bytes := u_3) (Tape_size := 4)) [.ref (ad 1), .int p1] (fun _ : (Nat → Int32) => True) (fun u : (Nat → Int32) => (WX cI cJ cB cZ ad (Tape_bytes := u) (Tape_size := 8))) := by
  refine x_startV (ty := .int) (cc := cX10_append) (by decide) rfl (Nat.le_of_ble_eq_true rfl) ?_
  intro p e s m args below meth c A ls B hr hnm h hl
  have hx := B.1.1
  have hb := B.1.2.1
  have hml := B.1.2.2.1
  have hts := B.1.2.2.2.2
  have hown : s.vm.findClass RX10 = some m.cls := B.1.2.2.2.1
  have hin10 : ∀ w ∈ u_ws RX10 TX10 2, w ∈ wsX10_append := by decide +kernel
  have hl : lv_has ls 3 [(0, .ref (ad 1)), (1, .int p1)] := hl
  refine lv_bipush (v := 24) hx hb dX10_append_0 (by decide) ?_
  refine lv_istore_n (lv' := [(2, .int 24), (0, .ref (ad 1)), (1, .int p1)]) hx hb dX10_append_2 rfl hl (by decide) rfl (fun ls hl => ?_)
  refine lv_iload_n hx hb dX10_append_3 rfl (lv_at hl 0 rfl) ?_
  refine lv_if_lt (tgt := 49) hx hb dX10_append_4 (by decide) (fun c_1 => absurd c_1 (by decide)) (fun c_1 => ?_)
  refine lv_aload_n hx hb dX10_append_7 rfl (lv_at hl 1 rfl) ?_
  refine x_get (ci := 10) (C := RX10) (T := TX10) (N := 2) (v := .int 4) B h hin10 1 1 rfl rfl (by decide) (by decide +kernel) rfl dX10_append_8 ?_
  refine lv_sipush (v := 160) hx hb dX10_append_11 (by decide) ?_
  refine lv_icmp_ge (tgt := 49) hx hb dX10_append_14 (by decide) (fun c_2 => absurd c_2 (by decide)) (fun c_2 => ?_)
  refine lv_aload_n hx hb dX10_append_17 rfl (lv_at hl 1 rfl) ?_
  refine x_get (ci := 10) (C := RX10) (T := TX10) (N := 2) (v := .ref (ad 12)) B h hin10 1 0 rfl rfl (by decide) (by decide +kernel) rfl dX10_append_18 ?_
  refine lv_aload_n hx hb dX10_append_21 rfl (lv_at hl 1 rfl) ?_
  refine x_get (ci := 10) (C := RX10) (T := TX10) (N := 2) (v := .int 4) B h hin10 1 1 rfl rfl (by decide) (by decide +kernel) rfl dX10_append_22 ?_
  refine lv_iload_n hx hb dX10_append_25 rfl (lv_at hl 2 rfl) ?_
  refine lv_iload_n hx hb dX10_append_26 rfl (lv_at hl 0 rfl) ?_
  refine lv_iushr hx hb dX10_append_27 rfl ?_
  refine lv_topi (fun v_3 _ => ?_)
  refine lv_sipush (v := 255) hx hb dX10_append_28 (by decide) ?_
  refine lv_iand hx hb dX10_append_31 ?_
  refine x_iast B h 12 0 rfl rfl (vp_in_iff.mpr (by decide)) dX10_append_32 (fun H locs f_4 h => ?_)
  have h : Hp D A s.heap (WX cI cJ cB cZ ad (Tape_bytes := f_4) (Tape_size := 4)) H locs := h
  refine lv_aload_n hx hb dX10_append_33 rfl (lv_at hl 1 rfl) ?_
  refine lv_dup hx hb dX10_append_34 rfl ?_
  refine x_get (ci := 10) (C := RX10) (T := TX10) (N := 2) (v := .int 4) B h hin10 1 1 rfl rfl (by decide) (by decide +kernel) rfl dX10_append_35 ?_
  refine lv_iconst (v := 1) hx hb dX10_append_38 (by decide) ?_
  refine lv_iadd hx hb dX10_append_39 ?_
  refine lv_topi (fun v_5 ev_5 => ?_)
  obtain rfl : v_5 = 5 := ev_5.trans (by decide)
  refine x_put (ci := 10) (C := RX10) (T := TX10) (N := 2) (v := .int 5) (ty := .int) B h hin10 tyX10 tyX10_ok nmX10 1 1 rfl rfl (by decide) (by decide +kernel) rfl rfl rfl rfl (Nat.le_of_ble_eq_true rfl) dX10_append_40 (fun H locs h => ?_)
  have h : Hp D A s.heap (WX cI cJ cB cZ ad (Tape_bytes := f_4) (Tape_size := 5)) H locs := h
  refine lv_iinc (v := 16) (lv' := [(2, .int 16), (0, .ref (ad 1)), (1, .int p1)]) hx hb dX10_append_43 hl (k := 0) rfl (by decide) (by decide) rfl (fun ls hl => ?_)
  refine lv_goto (tgt := 3) hx hb dX10_append_46 (by decide) ?_
  refine lv_iload_n hx hb dX10_append_3 rfl (lv_at hl 0 rfl) ?_
  refine lv_if_lt (tgt := 49) hx hb dX10_append_4 (by decide) (fun c_6 => absurd c_6 (by decide)) (fun c_6 => ?_)
  refine lv_aload_n hx hb dX10_append_7 rfl (lv_at hl 1 rfl) ?_
  refine x_get (ci := 10) (C := RX10) (T := TX10) (N := 2) (v := .int 5) B h hin10 1 1 rfl rfl (by decide) (by decide +kernel) rfl dX10_append_8 ?_
  refine lv_sipush (v := 160) hx hb dX10_append_11 (by decide) ?_
  refine lv_icmp_ge (tgt := 49) hx hb dX10_append_14 (by decide) (fun c_7 => absurd c_7 (by decide)) (fun c_7 => ?_)
  refine lv_aload_n hx hb dX10_append_17 rfl (lv_at hl 1 rfl) ?_
  refine x_get (ci := 10) (C := RX10) (T := TX10) (N := 2) (v := .ref (ad 12)) B h hin10 1 0 rfl rfl (by decide) (by decide +kernel) rfl dX10_append_18 ?_
  refine lv_aload_n hx hb dX10_append_21 rfl (lv_at hl 1 rfl) ?_
  refine x_get (ci := 10) (C := RX10) (T := TX10) (N := 2) (v := .int 5) B h hin10 1 1 rfl rfl (by decide) (by decide +kernel) rfl dX10_append_22 ?_
  refine lv_iload_n hx hb dX10_append_25 rfl (lv_at hl 2 rfl) ?_
  refine lv_iload_n hx hb dX10_append_26 rfl (lv_at hl 0 rfl) ?_
  refine lv_iushr hx hb dX10_append_27 rfl ?_
  refine lv_topi (fun v_8 _ => ?_)
  refine lv_sipush (v := 255) hx hb dX10_append_28 (by decide) ?_
  refine lv_iand hx hb dX10_append_31 ?_
  refine x_iast B h 12 0 rfl rfl (vp_in_iff.mpr (by decide)) dX10_append_32 (fun H locs f_9 h => ?_)
  have h : Hp D A s.heap (WX cI cJ cB cZ ad (Tape_bytes := f_9) (Tape_size := 5)) H locs := h
  refine lv_aload_n hx hb dX10_append_33 rfl (lv_at hl 1 rfl) ?_
  refine lv_dup hx hb dX10_append_34 rfl ?_
  refine x_get (ci := 10) (C := RX10) (T := TX10) (N := 2) (v := .int 5) B h hin10 1 1 rfl rfl (by decide) (by decide +kernel) rfl dX10_append_35 ?_
  refine lv_iconst (v := 1) hx hb dX10_append_38 (by decide) ?_
  refine lv_iadd hx hb dX10_append_39 ?_
  refine lv_topi (fun v_10 ev_10 => ?_)
  obtain rfl : v_10 = 6 := ev_10.trans (by decide)
  refine x_put (ci := 10) (C := RX10) (T := TX10) (N := 2) (v := .int 6) (ty := .int) B h hin10 tyX10 tyX10_ok nmX10 1 1 rfl rfl (by decide) (by decide +kernel) rfl rfl rfl rfl (Nat.le_of_ble_eq_true rfl) dX10_append_40 (fun H locs h => ?_)
  have h : Hp D A s.heap (WX cI cJ cB cZ ad (Tape_bytes := f_9) (Tape_size := 6)) H locs := h
  refine lv_iinc (v := 8) (lv' := [(2, .int 8), (0, .ref (ad 1)), (1, .int p1)]) hx hb dX10_append_43 hl (k := 0) rfl (by decide) (by decide) rfl (fun ls hl => ?_)
  refine lv_goto (tgt := 3) hx hb dX10_append_46 (by decide) ?_
  refine lv_iload_n hx hb dX10_append_3 rfl (lv_at hl 0 rfl) ?_
  refine lv_if_lt (tgt := 49) hx hb dX10_append_4 (by decide) (fun c_11 => absurd c_11 (by decide)) (fun c_11 => ?_)
  refine lv_aload_n hx hb dX10_append_7 rfl (lv_at hl 1 rfl) ?_
  refine x_get (ci := 10) (C := RX10) (T := TX10) (N := 2) (v := .int 6) B h hin10 1 1 rfl rfl (by decide) (by decide +kernel) rfl dX10_append_8 ?_
  refine lv_sipush (v := 160) hx hb dX10_append_11 (by decide) ?_
  refine lv_icmp_ge (tgt := 49) hx hb dX10_append_14 (by decide) (fun c_12 => absurd c_12 (by decide)) (fun c_12 => ?_)
  refine lv_aload_n hx hb dX10_append_17 rfl (lv_at hl 1 rfl) ?_
  refine x_get (ci := 10) (C := RX10) (T := TX10) (N := 2) (v := .ref (ad 12)) B h hin10 1 0 rfl rfl (by decide) (by decide +kernel) rfl dX10_append_18 ?_
  refine lv_aload_n hx hb dX10_append_21 rfl (lv_at hl 1 rfl) ?_
  refine x_get (ci := 10) (C := RX10) (T := TX10) (N := 2) (v := .int 6) B h hin10 1 1 rfl rfl (by decide) (by decide +kernel) rfl dX10_append_22 ?_
  refine lv_iload_n hx hb dX10_append_25 rfl (lv_at hl 2 rfl) ?_
  refine lv_iload_n hx hb dX10_append_26 rfl (lv_at hl 0 rfl) ?_
  refine lv_iushr hx hb dX10_append_27 rfl ?_
  refine lv_topi (fun v_13 _ => ?_)
  refine lv_sipush (v := 255) hx hb dX10_append_28 (by decide) ?_
  refine lv_iand hx hb dX10_append_31 ?_
  refine x_iast B h 12 0 rfl rfl (vp_in_iff.mpr (by decide)) dX10_append_32 (fun H locs f_14 h => ?_)
  have h : Hp D A s.heap (WX cI cJ cB cZ ad (Tape_bytes := f_14) (Tape_size := 6)) H locs := h
  refine lv_aload_n hx hb dX10_append_33 rfl (lv_at hl 1 rfl) ?_
  refine lv_dup hx hb dX10_append_34 rfl ?_
  refine x_get (ci := 10) (C := RX10) (T := TX10) (N := 2) (v := .int 6) B h hin10 1 1 rfl rfl (by decide) (by decide +kernel) rfl dX10_append_35 ?_
  refine lv_iconst (v := 1) hx hb dX10_append_38 (by decide) ?_
  refine lv_iadd hx hb dX10_append_39 ?_
  refine lv_topi (fun v_15 ev_15 => ?_)
  obtain rfl : v_15 = 7 := ev_15.trans (by decide)
  refine x_put (ci := 10) (C := RX10) (T := TX10) (N := 2) (v := .int 7) (ty := .int) B h hin10 tyX10 tyX10_ok nmX10 1 1 rfl rfl (by decide) (by decide +kernel) rfl rfl rfl rfl (Nat.le_of_ble_eq_true rfl) dX10_append_40 (fun H locs h => ?_)
  have h : Hp D A s.heap (WX cI cJ cB cZ ad (Tape_bytes := f_14) (Tape_size := 7)) H locs := h
  refine lv_iinc (v := 0) (lv' := [(2, .int 0), (0, .ref (ad 1)), (1, .int p1)]) hx hb dX10_append_43 hl (k := 0) rfl (by decide) (by decide) rfl (fun ls hl => ?_)
  refine lv_goto (tgt := 3) hx hb dX10_append_46 (by decide) ?_
  refine lv_iload_n hx hb dX10_append_3 rfl (lv_at hl 0 rfl) ?_
  refine lv_if_lt (tgt := 49) hx hb dX10_append_4 (by decide) (fun c_16 => absurd c_16 (by decide)) (fun c_16 => ?_)
  refine lv_aload_n hx hb dX10_append_7 rfl (lv_at hl 1 rfl) ?_
  refine x_get (ci := 10) (C := RX10) (T := TX10) (N := 2) (v := .int 7) B h hin10 1 1 rfl rfl (by decide) (by decide +kernel) rfl dX10_append_8 ?_
  refine lv_sipush (v := 160) hx hb dX10_append_11 (by decide) ?_
  refine lv_icmp_ge (tgt := 49) hx hb dX10_append_14 (by decide) (fun c_17 => absurd c_17 (by decide)) (fun c_17 => ?_)
  refine lv_aload_n hx hb dX10_append_17 rfl (lv_at hl 1 rfl) ?_
  refine x_get (ci := 10) (C := RX10) (T := TX10) (N := 2) (v := .ref (ad 12)) B h hin10 1 0 rfl rfl (by decide) (by decide +kernel) rfl dX10_append_18 ?_
  refine lv_aload_n hx hb dX10_append_21 rfl (lv_at hl 1 rfl) ?_
  refine x_get (ci := 10) (C := RX10) (T := TX10) (N := 2) (v := .int 7) B h hin10 1 1 rfl rfl (by decide) (by decide +kernel) rfl dX10_append_22 ?_
  refine lv_iload_n hx hb dX10_append_25 rfl (lv_at hl 2 rfl) ?_
  refine lv_iload_n hx hb dX10_append_26 rfl (lv_at hl 0 rfl) ?_
  refine lv_iushr hx hb dX10_append_27 rfl ?_
  refine lv_topi (fun v_18 _ => ?_)
  refine lv_sipush (v := 255) hx hb dX10_append_28 (by decide) ?_
  refine lv_iand hx hb dX10_append_31 ?_
  refine x_iast B h 12 0 rfl rfl (vp_in_iff.mpr (by decide)) dX10_append_32 (fun H locs f_19 h => ?_)
  have h : Hp D A s.heap (WX cI cJ cB cZ ad (Tape_bytes := f_19) (Tape_size := 7)) H locs := h
  refine lv_aload_n hx hb dX10_append_33 rfl (lv_at hl 1 rfl) ?_
  refine lv_dup hx hb dX10_append_34 rfl ?_
  refine x_get (ci := 10) (C := RX10) (T := TX10) (N := 2) (v := .int 7) B h hin10 1 1 rfl rfl (by decide) (by decide +kernel) rfl dX10_append_35 ?_
  refine lv_iconst (v := 1) hx hb dX10_append_38 (by decide) ?_
  refine lv_iadd hx hb dX10_append_39 ?_
  refine lv_topi (fun v_20 ev_20 => ?_)
  obtain rfl : v_20 = 8 := ev_20.trans (by decide)
  refine x_put (ci := 10) (C := RX10) (T := TX10) (N := 2) (v := .int 8) (ty := .int) B h hin10 tyX10 tyX10_ok nmX10 1 1 rfl rfl (by decide) (by decide +kernel) rfl rfl rfl rfl (Nat.le_of_ble_eq_true rfl) dX10_append_40 (fun H locs h => ?_)
  have h : Hp D A s.heap (WX cI cJ cB cZ ad (Tape_bytes := f_19) (Tape_size := 8)) H locs := h
  refine lv_iinc (v := (-8)) (lv' := [(2, .int (-8)), (0, .ref (ad 1)), (1, .int p1)]) hx hb dX10_append_43 hl (k := 0) rfl (by decide) (by decide) rfl (fun ls hl => ?_)
  refine lv_goto (tgt := 3) hx hb dX10_append_46 (by decide) ?_
  refine lv_iload_n hx hb dX10_append_3 rfl (lv_at hl 0 rfl) ?_
  refine lv_if_lt (tgt := 49) hx hb dX10_append_4 (by decide) (fun c_21 => ?_) (fun c_21 => absurd c_21 (by decide))
  exact x_vret (w1 := (fun u : (Nat → Int32) => (WX cI cJ cB cZ ad (Tape_bytes := u) (Tape_size := 8)))) (f_19) B h hr trivial dX10_append_49
set_option maxHeartbeats 4000000 in
set_option maxRecDepth 100000 in
theorem k2_X10_append (l : Launch) (D : va_G) (cI cJ cB cZ : ClassId) (ad bd : Nat → Nat) (p1 : Int32) (u_4 : Nat → Int32) : MetV l yX10_append wsX10_append 0 0 0 0 D (TYS cI cJ cB cZ) (WX cI cJ cB cZ ad (Tape_bytes := u_4) (Tape_size := 8)) [.ref (ad 1), .int p1] (fun _ : (Nat → Int32) => True) (fun u : (Nat → Int32) => (WX cI cJ cB cZ ad (Tape_bytes := u) (Tape_size := 12))) := by
  refine x_startV (ty := .int) (cc := cX10_append) (by decide) rfl (Nat.le_of_ble_eq_true rfl) ?_
  intro p e s m args below meth c A ls B hr hnm h hl
  have hx := B.1.1
  have hb := B.1.2.1
  have hml := B.1.2.2.1
  have hts := B.1.2.2.2.2
  have hown : s.vm.findClass RX10 = some m.cls := B.1.2.2.2.1
  have hin10 : ∀ w ∈ u_ws RX10 TX10 2, w ∈ wsX10_append := by decide +kernel
  have hl : lv_has ls 3 [(0, .ref (ad 1)), (1, .int p1)] := hl
  refine lv_bipush (v := 24) hx hb dX10_append_0 (by decide) ?_
  refine lv_istore_n (lv' := [(2, .int 24), (0, .ref (ad 1)), (1, .int p1)]) hx hb dX10_append_2 rfl hl (by decide) rfl (fun ls hl => ?_)
  refine lv_iload_n hx hb dX10_append_3 rfl (lv_at hl 0 rfl) ?_
  refine lv_if_lt (tgt := 49) hx hb dX10_append_4 (by decide) (fun c_1 => absurd c_1 (by decide)) (fun c_1 => ?_)
  refine lv_aload_n hx hb dX10_append_7 rfl (lv_at hl 1 rfl) ?_
  refine x_get (ci := 10) (C := RX10) (T := TX10) (N := 2) (v := .int 8) B h hin10 1 1 rfl rfl (by decide) (by decide +kernel) rfl dX10_append_8 ?_
  refine lv_sipush (v := 160) hx hb dX10_append_11 (by decide) ?_
  refine lv_icmp_ge (tgt := 49) hx hb dX10_append_14 (by decide) (fun c_2 => absurd c_2 (by decide)) (fun c_2 => ?_)
  refine lv_aload_n hx hb dX10_append_17 rfl (lv_at hl 1 rfl) ?_
  refine x_get (ci := 10) (C := RX10) (T := TX10) (N := 2) (v := .ref (ad 12)) B h hin10 1 0 rfl rfl (by decide) (by decide +kernel) rfl dX10_append_18 ?_
  refine lv_aload_n hx hb dX10_append_21 rfl (lv_at hl 1 rfl) ?_
  refine x_get (ci := 10) (C := RX10) (T := TX10) (N := 2) (v := .int 8) B h hin10 1 1 rfl rfl (by decide) (by decide +kernel) rfl dX10_append_22 ?_
  refine lv_iload_n hx hb dX10_append_25 rfl (lv_at hl 2 rfl) ?_
  refine lv_iload_n hx hb dX10_append_26 rfl (lv_at hl 0 rfl) ?_
  refine lv_iushr hx hb dX10_append_27 rfl ?_
  refine lv_topi (fun v_3 _ => ?_)
  refine lv_sipush (v := 255) hx hb dX10_append_28 (by decide) ?_
  refine lv_iand hx hb dX10_append_31 ?_
  refine x_iast B h 12 0 rfl rfl (vp_in_iff.mpr (by decide)) dX10_append_32 (fun H locs f_4 h => ?_)
  have h : Hp D A s.heap (WX cI cJ cB cZ ad (Tape_bytes := f_4) (Tape_size := 8)) H locs := h
  refine lv_aload_n hx hb dX10_append_33 rfl (lv_at hl 1 rfl) ?_
  refine lv_dup hx hb dX10_append_34 rfl ?_
  refine x_get (ci := 10) (C := RX10) (T := TX10) (N := 2) (v := .int 8) B h hin10 1 1 rfl rfl (by decide) (by decide +kernel) rfl dX10_append_35 ?_
  refine lv_iconst (v := 1) hx hb dX10_append_38 (by decide) ?_
  refine lv_iadd hx hb dX10_append_39 ?_
  refine lv_topi (fun v_5 ev_5 => ?_)
  obtain rfl : v_5 = 9 := ev_5.trans (by decide)
  refine x_put (ci := 10) (C := RX10) (T := TX10) (N := 2) (v := .int 9) (ty := .int) B h hin10 tyX10 tyX10_ok nmX10 1 1 rfl rfl (by decide) (by decide +kernel) rfl rfl rfl rfl (Nat.le_of_ble_eq_true rfl) dX10_append_40 (fun H locs h => ?_)
  have h : Hp D A s.heap (WX cI cJ cB cZ ad (Tape_bytes := f_4) (Tape_size := 9)) H locs := h
  refine lv_iinc (v := 16) (lv' := [(2, .int 16), (0, .ref (ad 1)), (1, .int p1)]) hx hb dX10_append_43 hl (k := 0) rfl (by decide) (by decide) rfl (fun ls hl => ?_)
  refine lv_goto (tgt := 3) hx hb dX10_append_46 (by decide) ?_
  refine lv_iload_n hx hb dX10_append_3 rfl (lv_at hl 0 rfl) ?_
  refine lv_if_lt (tgt := 49) hx hb dX10_append_4 (by decide) (fun c_6 => absurd c_6 (by decide)) (fun c_6 => ?_)
  refine lv_aload_n hx hb dX10_append_7 rfl (lv_at hl 1 rfl) ?_
  refine x_get (ci := 10) (C := RX10) (T := TX10) (N := 2) (v := .int 9) B h hin10 1 1 rfl rfl (by decide) (by decide +kernel) rfl dX10_append_8 ?_
  refine lv_sipush (v := 160) hx hb dX10_append_11 (by decide) ?_
  refine lv_icmp_ge (tgt := 49) hx hb dX10_append_14 (by decide) (fun c_7 => absurd c_7 (by decide)) (fun c_7 => ?_)
  refine lv_aload_n hx hb dX10_append_17 rfl (lv_at hl 1 rfl) ?_
  refine x_get (ci := 10) (C := RX10) (T := TX10) (N := 2) (v := .ref (ad 12)) B h hin10 1 0 rfl rfl (by decide) (by decide +kernel) rfl dX10_append_18 ?_
  refine lv_aload_n hx hb dX10_append_21 rfl (lv_at hl 1 rfl) ?_
  refine x_get (ci := 10) (C := RX10) (T := TX10) (N := 2) (v := .int 9) B h hin10 1 1 rfl rfl (by decide) (by decide +kernel) rfl dX10_append_22 ?_
  refine lv_iload_n hx hb dX10_append_25 rfl (lv_at hl 2 rfl) ?_
  refine lv_iload_n hx hb dX10_append_26 rfl (lv_at hl 0 rfl) ?_
  refine lv_iushr hx hb dX10_append_27 rfl ?_
  refine lv_topi (fun v_8 _ => ?_)
  refine lv_sipush (v := 255) hx hb dX10_append_28 (by decide) ?_
  refine lv_iand hx hb dX10_append_31 ?_
  refine x_iast B h 12 0 rfl rfl (vp_in_iff.mpr (by decide)) dX10_append_32 (fun H locs f_9 h => ?_)
  have h : Hp D A s.heap (WX cI cJ cB cZ ad (Tape_bytes := f_9) (Tape_size := 9)) H locs := h
  refine lv_aload_n hx hb dX10_append_33 rfl (lv_at hl 1 rfl) ?_
  refine lv_dup hx hb dX10_append_34 rfl ?_
  refine x_get (ci := 10) (C := RX10) (T := TX10) (N := 2) (v := .int 9) B h hin10 1 1 rfl rfl (by decide) (by decide +kernel) rfl dX10_append_35 ?_
  refine lv_iconst (v := 1) hx hb dX10_append_38 (by decide) ?_
  refine lv_iadd hx hb dX10_append_39 ?_
  refine lv_topi (fun v_10 ev_10 => ?_)
  obtain rfl : v_10 = 10 := ev_10.trans (by decide)
  refine x_put (ci := 10) (C := RX10) (T := TX10) (N := 2) (v := .int 10) (ty := .int) B h hin10 tyX10 tyX10_ok nmX10 1 1 rfl rfl (by decide) (by decide +kernel) rfl rfl rfl rfl (Nat.le_of_ble_eq_true rfl) dX10_append_40 (fun H locs h => ?_)
  have h : Hp D A s.heap (WX cI cJ cB cZ ad (Tape_bytes := f_9) (Tape_size := 10)) H locs := h
  refine lv_iinc (v := 8) (lv' := [(2, .int 8), (0, .ref (ad 1)), (1, .int p1)]) hx hb dX10_append_43 hl (k := 0) rfl (by decide) (by decide) rfl (fun ls hl => ?_)
  refine lv_goto (tgt := 3) hx hb dX10_append_46 (by decide) ?_
  refine lv_iload_n hx hb dX10_append_3 rfl (lv_at hl 0 rfl) ?_
  refine lv_if_lt (tgt := 49) hx hb dX10_append_4 (by decide) (fun c_11 => absurd c_11 (by decide)) (fun c_11 => ?_)
  refine lv_aload_n hx hb dX10_append_7 rfl (lv_at hl 1 rfl) ?_
  refine x_get (ci := 10) (C := RX10) (T := TX10) (N := 2) (v := .int 10) B h hin10 1 1 rfl rfl (by decide) (by decide +kernel) rfl dX10_append_8 ?_
  refine lv_sipush (v := 160) hx hb dX10_append_11 (by decide) ?_
  refine lv_icmp_ge (tgt := 49) hx hb dX10_append_14 (by decide) (fun c_12 => absurd c_12 (by decide)) (fun c_12 => ?_)
  refine lv_aload_n hx hb dX10_append_17 rfl (lv_at hl 1 rfl) ?_
  refine x_get (ci := 10) (C := RX10) (T := TX10) (N := 2) (v := .ref (ad 12)) B h hin10 1 0 rfl rfl (by decide) (by decide +kernel) rfl dX10_append_18 ?_
  refine lv_aload_n hx hb dX10_append_21 rfl (lv_at hl 1 rfl) ?_
  refine x_get (ci := 10) (C := RX10) (T := TX10) (N := 2) (v := .int 10) B h hin10 1 1 rfl rfl (by decide) (by decide +kernel) rfl dX10_append_22 ?_
  refine lv_iload_n hx hb dX10_append_25 rfl (lv_at hl 2 rfl) ?_
  refine lv_iload_n hx hb dX10_append_26 rfl (lv_at hl 0 rfl) ?_
  refine lv_iushr hx hb dX10_append_27 rfl ?_
  refine lv_topi (fun v_13 _ => ?_)
  refine lv_sipush (v := 255) hx hb dX10_append_28 (by decide) ?_
  refine lv_iand hx hb dX10_append_31 ?_
  refine x_iast B h 12 0 rfl rfl (vp_in_iff.mpr (by decide)) dX10_append_32 (fun H locs f_14 h => ?_)
  have h : Hp D A s.heap (WX cI cJ cB cZ ad (Tape_bytes := f_14) (Tape_size := 10)) H locs := h
  refine lv_aload_n hx hb dX10_append_33 rfl (lv_at hl 1 rfl) ?_
  refine lv_dup hx hb dX10_append_34 rfl ?_
  refine x_get (ci := 10) (C := RX10) (T := TX10) (N := 2) (v := .int 10) B h hin10 1 1 rfl rfl (by decide) (by decide +kernel) rfl dX10_append_35 ?_
  refine lv_iconst (v := 1) hx hb dX10_append_38 (by decide) ?_
  refine lv_iadd hx hb dX10_append_39 ?_
  refine lv_topi (fun v_15 ev_15 => ?_)
  obtain rfl : v_15 = 11 := ev_15.trans (by decide)
  refine x_put (ci := 10) (C := RX10) (T := TX10) (N := 2) (v := .int 11) (ty := .int) B h hin10 tyX10 tyX10_ok nmX10 1 1 rfl rfl (by decide) (by decide +kernel) rfl rfl rfl rfl (Nat.le_of_ble_eq_true rfl) dX10_append_40 (fun H locs h => ?_)
  have h : Hp D A s.heap (WX cI cJ cB cZ ad (Tape_bytes := f_14) (Tape_size := 11)) H locs := h
  refine lv_iinc (v := 0) (lv' := [(2, .int 0), (0, .ref (ad 1)), (1, .int p1)]) hx hb dX10_append_43 hl (k := 0) rfl (by decide) (by decide) rfl (fun ls hl => ?_)
  refine lv_goto (tgt := 3) hx hb dX10_append_46 (by decide) ?_
  refine lv_iload_n hx hb dX10_append_3 rfl (lv_at hl 0 rfl) ?_
  refine lv_if_lt (tgt := 49) hx hb dX10_append_4 (by decide) (fun c_16 => absurd c_16 (by decide)) (fun c_16 => ?_)
  refine lv_aload_n hx hb dX10_append_7 rfl (lv_at hl 1 rfl) ?_
  refine x_get (ci := 10) (C := RX10) (T := TX10) (N := 2) (v := .int 11) B h hin10 1 1 rfl rfl (by decide) (by decide +kernel) rfl dX10_append_8 ?_
  refine lv_sipush (v := 160) hx hb dX10_append_11 (by decide) ?_
  refine lv_icmp_ge (tgt := 49) hx hb dX10_append_14 (by decide) (fun c_17 => absurd c_17 (by decide)) (fun c_17 => ?_)
  refine lv_aload_n hx hb dX10_append_17 rfl (lv_at hl 1 rfl) ?_
  refine x_get (ci := 10) (C := RX10) (T := TX10) (N := 2) (v := .ref (ad 12)) B h hin10 1 0 rfl rfl (by decide) (by decide +kernel) rfl dX10_append_18 ?_
  refine lv_aload_n hx hb dX10_append_21 rfl (lv_at hl 1 rfl) ?_
  refine x_get (ci := 10) (C := RX10) (T := TX10) (N := 2) (v := .int 11) B h hin10 1 1 rfl rfl (by decide) (by decide +kernel) rfl dX10_append_22 ?_
  refine lv_iload_n hx hb dX10_append_25 rfl (lv_at hl 2 rfl) ?_
  refine lv_iload_n hx hb dX10_append_26 rfl (lv_at hl 0 rfl) ?_
  refine lv_iushr hx hb dX10_append_27 rfl ?_
  refine lv_topi (fun v_18 _ => ?_)
  refine lv_sipush (v := 255) hx hb dX10_append_28 (by decide) ?_
  refine lv_iand hx hb dX10_append_31 ?_
  refine x_iast B h 12 0 rfl rfl (vp_in_iff.mpr (by decide)) dX10_append_32 (fun H locs f_19 h => ?_)
  have h : Hp D A s.heap (WX cI cJ cB cZ ad (Tape_bytes := f_19) (Tape_size := 11)) H locs := h
  refine lv_aload_n hx hb dX10_append_33 rfl (lv_at hl 1 rfl) ?_
  refine lv_dup hx hb dX10_append_34 rfl ?_
  refine x_get (ci := 10) (C := RX10) (T := TX10) (N := 2) (v := .int 11) B h hin10 1 1 rfl rfl (by decide) (by decide +kernel) rfl dX10_append_35 ?_
  refine lv_iconst (v := 1) hx hb dX10_append_38 (by decide) ?_
  refine lv_iadd hx hb dX10_append_39 ?_
  refine lv_topi (fun v_20 ev_20 => ?_)
  obtain rfl : v_20 = 12 := ev_20.trans (by decide)
  refine x_put (ci := 10) (C := RX10) (T := TX10) (N := 2) (v := .int 12) (ty := .int) B h hin10 tyX10 tyX10_ok nmX10 1 1 rfl rfl (by decide) (by decide +kernel) rfl rfl rfl rfl (Nat.le_of_ble_eq_true rfl) dX10_append_40 (fun H locs h => ?_)
  have h : Hp D A s.heap (WX cI cJ cB cZ ad (Tape_bytes := f_19) (Tape_size := 12)) H locs := h
  refine lv_iinc (v := (-8)) (lv' := [(2, .int (-8)), (0, .ref (ad 1)), (1, .int p1)]) hx hb dX10_append_43 hl (k := 0) rfl (by decide) (by decide) rfl (fun ls hl => ?_)
  refine lv_goto (tgt := 3) hx hb dX10_append_46 (by decide) ?_
  refine lv_iload_n hx hb dX10_append_3 rfl (lv_at hl 0 rfl) ?_
  refine lv_if_lt (tgt := 49) hx hb dX10_append_4 (by decide) (fun c_21 => ?_) (fun c_21 => absurd c_21 (by decide))
  exact x_vret (w1 := (fun u : (Nat → Int32) => (WX cI cJ cB cZ ad (Tape_bytes := u) (Tape_size := 12)))) (f_19) B h hr trivial dX10_append_49
set_option maxHeartbeats 4000000 in
set_option maxRecDepth 100000 in
theorem k3_X10_append (l : Launch) (D : va_G) (cI cJ cB cZ : ClassId) (ad bd : Nat → Nat) (p1 : Int32) (u_5 : Nat → Int32) : MetV l yX10_append wsX10_append 0 0 0 0 D (TYS cI cJ cB cZ) (WX cI cJ cB cZ ad (Tape_bytes := u_5) (Tape_size := 12)) [.ref (ad 1), .int p1] (fun _ : (Nat → Int32) => True) (fun u : (Nat → Int32) => (WX cI cJ cB cZ ad (Tape_bytes := u) (Tape_size := 16))) := by
  refine x_startV (ty := .int) (cc := cX10_append) (by decide) rfl (Nat.le_of_ble_eq_true rfl) ?_
  intro p e s m args below meth c A ls B hr hnm h hl
  have hx := B.1.1
  have hb := B.1.2.1
  have hml := B.1.2.2.1
  have hts := B.1.2.2.2.2
  have hown : s.vm.findClass RX10 = some m.cls := B.1.2.2.2.1
  have hin10 : ∀ w ∈ u_ws RX10 TX10 2, w ∈ wsX10_append := by decide +kernel
  have hl : lv_has ls 3 [(0, .ref (ad 1)), (1, .int p1)] := hl
  refine lv_bipush (v := 24) hx hb dX10_append_0 (by decide) ?_
  refine lv_istore_n (lv' := [(2, .int 24), (0, .ref (ad 1)), (1, .int p1)]) hx hb dX10_append_2 rfl hl (by decide) rfl (fun ls hl => ?_)
  refine lv_iload_n hx hb dX10_append_3 rfl (lv_at hl 0 rfl) ?_
  refine lv_if_lt (tgt := 49) hx hb dX10_append_4 (by decide) (fun c_1 => absurd c_1 (by decide)) (fun c_1 => ?_)
  refine lv_aload_n hx hb dX10_append_7 rfl (lv_at hl 1 rfl) ?_
  refine x_get (ci := 10) (C := RX10) (T := TX10) (N := 2) (v := .int 12) B h hin10 1 1 rfl rfl (by decide) (by decide +kernel) rfl dX10_append_8 ?_
  refine lv_sipush (v := 160) hx hb dX10_append_11 (by decide) ?_
  refine lv_icmp_ge (tgt := 49) hx hb dX10_append_14 (by decide) (fun c_2 => absurd c_2 (by decide)) (fun c_2 => ?_)
  refine lv_aload_n hx hb dX10_append_17 rfl (lv_at hl 1 rfl) ?_
  refine x_get (ci := 10) (C := RX10) (T := TX10) (N := 2) (v := .ref (ad 12)) B h hin10 1 0 rfl rfl (by decide) (by decide +kernel) rfl dX10_append_18 ?_
  refine lv_aload_n hx hb dX10_append_21 rfl (lv_at hl 1 rfl) ?_
  refine x_get (ci := 10) (C := RX10) (T := TX10) (N := 2) (v := .int 12) B h hin10 1 1 rfl rfl (by decide) (by decide +kernel) rfl dX10_append_22 ?_
  refine lv_iload_n hx hb dX10_append_25 rfl (lv_at hl 2 rfl) ?_
  refine lv_iload_n hx hb dX10_append_26 rfl (lv_at hl 0 rfl) ?_
  refine lv_iushr hx hb dX10_append_27 rfl ?_
  refine lv_topi (fun v_3 _ => ?_)
  refine lv_sipush (v := 255) hx hb dX10_append_28 (by decide) ?_
  refine lv_iand hx hb dX10_append_31 ?_
  refine x_iast B h 12 0 rfl rfl (vp_in_iff.mpr (by decide)) dX10_append_32 (fun H locs f_4 h => ?_)
  have h : Hp D A s.heap (WX cI cJ cB cZ ad (Tape_bytes := f_4) (Tape_size := 12)) H locs := h
  refine lv_aload_n hx hb dX10_append_33 rfl (lv_at hl 1 rfl) ?_
  refine lv_dup hx hb dX10_append_34 rfl ?_
  refine x_get (ci := 10) (C := RX10) (T := TX10) (N := 2) (v := .int 12) B h hin10 1 1 rfl rfl (by decide) (by decide +kernel) rfl dX10_append_35 ?_
  refine lv_iconst (v := 1) hx hb dX10_append_38 (by decide) ?_
  refine lv_iadd hx hb dX10_append_39 ?_
  refine lv_topi (fun v_5 ev_5 => ?_)
  obtain rfl : v_5 = 13 := ev_5.trans (by decide)
  refine x_put (ci := 10) (C := RX10) (T := TX10) (N := 2) (v := .int 13) (ty := .int) B h hin10 tyX10 tyX10_ok nmX10 1 1 rfl rfl (by decide) (by decide +kernel) rfl rfl rfl rfl (Nat.le_of_ble_eq_true rfl) dX10_append_40 (fun H locs h => ?_)
  have h : Hp D A s.heap (WX cI cJ cB cZ ad (Tape_bytes := f_4) (Tape_size := 13)) H locs := h
  refine lv_iinc (v := 16) (lv' := [(2, .int 16), (0, .ref (ad 1)), (1, .int p1)]) hx hb dX10_append_43 hl (k := 0) rfl (by decide) (by decide) rfl (fun ls hl => ?_)
  refine lv_goto (tgt := 3) hx hb dX10_append_46 (by decide) ?_
  refine lv_iload_n hx hb dX10_append_3 rfl (lv_at hl 0 rfl) ?_
  refine lv_if_lt (tgt := 49) hx hb dX10_append_4 (by decide) (fun c_6 => absurd c_6 (by decide)) (fun c_6 => ?_)
  refine lv_aload_n hx hb dX10_append_7 rfl (lv_at hl 1 rfl) ?_
  refine x_get (ci := 10) (C := RX10) (T := TX10) (N := 2) (v := .int 13) B h hin10 1 1 rfl rfl (by decide) (by decide +kernel) rfl dX10_append_8 ?_
  refine lv_sipush (v := 160) hx hb dX10_append_11 (by decide) ?_
  refine lv_icmp_ge (tgt := 49) hx hb dX10_append_14 (by decide) (fun c_7 => absurd c_7 (by decide)) (fun c_7 => ?_)
  refine lv_aload_n hx hb dX10_append_17 rfl (lv_at hl 1 rfl) ?_
  refine x_get (ci := 10) (C := RX10) (T := TX10) (N := 2) (v := .ref (ad 12)) B h hin10 1 0 rfl rfl (by decide) (by decide +kernel) rfl dX10_append_18 ?_
  refine lv_aload_n hx hb dX10_append_21 rfl (lv_at hl 1 rfl) ?_
  refine x_get (ci := 10) (C := RX10) (T := TX10) (N := 2) (v := .int 13) B h hin10 1 1 rfl rfl (by decide) (by decide +kernel) rfl dX10_append_22 ?_
  refine lv_iload_n hx hb dX10_append_25 rfl (lv_at hl 2 rfl) ?_
  refine lv_iload_n hx hb dX10_append_26 rfl (lv_at hl 0 rfl) ?_
  refine lv_iushr hx hb dX10_append_27 rfl ?_
  refine lv_topi (fun v_8 _ => ?_)
  refine lv_sipush (v := 255) hx hb dX10_append_28 (by decide) ?_
  refine lv_iand hx hb dX10_append_31 ?_
  refine x_iast B h 12 0 rfl rfl (vp_in_iff.mpr (by decide)) dX10_append_32 (fun H locs f_9 h => ?_)
  have h : Hp D A s.heap (WX cI cJ cB cZ ad (Tape_bytes := f_9) (Tape_size := 13)) H locs := h
  refine lv_aload_n hx hb dX10_append_33 rfl (lv_at hl 1 rfl) ?_
  refine lv_dup hx hb dX10_append_34 rfl ?_
  refine x_get (ci := 10) (C := RX10) (T := TX10) (N := 2) (v := .int 13) B h hin10 1 1 rfl rfl (by decide) (by decide +kernel) rfl dX10_append_35 ?_
  refine lv_iconst (v := 1) hx hb dX10_append_38 (by decide) ?_
  refine lv_iadd hx hb dX10_append_39 ?_
  refine lv_topi (fun v_10 ev_10 => ?_)
  obtain rfl : v_10 = 14 := ev_10.trans (by decide)
  refine x_put (ci := 10) (C := RX10) (T := TX10) (N := 2) (v := .int 14) (ty := .int) B h hin10 tyX10 tyX10_ok nmX10 1 1 rfl rfl (by decide) (by decide +kernel) rfl rfl rfl rfl (Nat.le_of_ble_eq_true rfl) dX10_append_40 (fun H locs h => ?_)
  have h : Hp D A s.heap (WX cI cJ cB cZ ad (Tape_bytes := f_9) (Tape_size := 14)) H locs := h
  refine lv_iinc (v := 8) (lv' := [(2, .int 8), (0, .ref (ad 1)), (1, .int p1)]) hx hb dX10_append_43 hl (k := 0) rfl (by decide) (by decide) rfl (fun ls hl => ?_)
  refine lv_goto (tgt := 3) hx hb dX10_append_46 (by decide) ?_
  refine lv_iload_n hx hb dX10_append_3 rfl (lv_at hl 0 rfl) ?_
  refine lv_if_lt (tgt := 49) hx hb dX10_append_4 (by decide) (fun c_11 => absurd c_11 (by decide)) (fun c_11 => ?_)
  refine lv_aload_n hx hb dX10_append_7 rfl (lv_at hl 1 rfl) ?_
  refine x_get (ci := 10) (C := RX10) (T := TX10) (N := 2) (v := .int 14) B h hin10 1 1 rfl rfl (by decide) (by decide +kernel) rfl dX10_append_8 ?_
  refine lv_sipush (v := 160) hx hb dX10_append_11 (by decide) ?_
  refine lv_icmp_ge (tgt := 49) hx hb dX10_append_14 (by decide) (fun c_12 => absurd c_12 (by decide)) (fun c_12 => ?_)
  refine lv_aload_n hx hb dX10_append_17 rfl (lv_at hl 1 rfl) ?_
  refine x_get (ci := 10) (C := RX10) (T := TX10) (N := 2) (v := .ref (ad 12)) B h hin10 1 0 rfl rfl (by decide) (by decide +kernel) rfl dX10_append_18 ?_
  refine lv_aload_n hx hb dX10_append_21 rfl (lv_at hl 1 rfl) ?_
  refine x_get (ci := 10) (C := RX10) (T := TX10) (N := 2) (v := .int 14) B h hin10 1 1 rfl rfl (by decide) (by decide +kernel) rfl dX10_append_22 ?_
  refine lv_iload_n hx hb dX10_append_25 rfl (lv_at hl 2 rfl) ?_
  refine lv_iload_n hx hb dX10_append_26 rfl (lv_at hl 0 rfl) ?_
  refine lv_iushr hx hb dX10_append_27 rfl ?_
  refine lv_topi (fun v_13 _ => ?_)
  refine lv_sipush (v := 255) hx hb dX10_append_28 (by decide) ?_
  refine lv_iand hx hb dX10_append_31 ?_
  refine x_iast B h 12 0 rfl rfl (vp_in_iff.mpr (by decide)) dX10_append_32 (fun H locs f_14 h => ?_)
  have h : Hp D A s.heap (WX cI cJ cB cZ ad (Tape_bytes := f_14) (Tape_size := 14)) H locs := h
  refine lv_aload_n hx hb dX10_append_33 rfl (lv_at hl 1 rfl) ?_
  refine lv_dup hx hb dX10_append_34 rfl ?_
  refine x_get (ci := 10) (C := RX10) (T := TX10) (N := 2) (v := .int 14) B h hin10 1 1 rfl rfl (by decide) (by decide +kernel) rfl dX10_append_35 ?_
  refine lv_iconst (v := 1) hx hb dX10_append_38 (by decide) ?_
  refine lv_iadd hx hb dX10_append_39 ?_
  refine lv_topi (fun v_15 ev_15 => ?_)
  obtain rfl : v_15 = 15 := ev_15.trans (by decide)
  refine x_put (ci := 10) (C := RX10) (T := TX10) (N := 2) (v := .int 15) (ty := .int) B h hin10 tyX10 tyX10_ok nmX10 1 1 rfl rfl (by decide) (by decide +kernel) rfl rfl rfl rfl (Nat.le_of_ble_eq_true rfl) dX10_append_40 (fun H locs h => ?_)
  have h : Hp D A s.heap (WX cI cJ cB cZ ad (Tape_bytes := f_14) (Tape_size := 15)) H locs := h
  refine lv_iinc (v := 0) (lv' := [(2, .int 0), (0, .ref (ad 1)), (1, .int p1)]) hx hb dX10_append_43 hl (k := 0) rfl (by decide) (by decide) rfl (fun ls hl => ?_)
  refine lv_goto (tgt := 3) hx hb dX10_append_46 (by decide) ?_
  refine lv_iload_n hx hb dX10_append_3 rfl (lv_at hl 0 rfl) ?_
  refine lv_if_lt (tgt := 49) hx hb dX10_append_4 (by decide) (fun c_16 => absurd c_16 (by decide)) (fun c_16 => ?_)
  refine lv_aload_n hx hb dX10_append_7 rfl (lv_at hl 1 rfl) ?_
  refine x_get (ci := 10) (C := RX10) (T := TX10) (N := 2) (v := .int 15) B h hin10 1 1 rfl rfl (by decide) (by decide +kernel) rfl dX10_append_8 ?_
  refine lv_sipush (v := 160) hx hb dX10_append_11 (by decide) ?_
  refine lv_icmp_ge (tgt := 49) hx hb dX10_append_14 (by decide) (fun c_17 => absurd c_17 (by decide)) (fun c_17 => ?_)
  refine lv_aload_n hx hb dX10_append_17 rfl (lv_at hl 1 rfl) ?_
  refine x_get (ci := 10) (C := RX10) (T := TX10) (N := 2) (v := .ref (ad 12)) B h hin10 1 0 rfl rfl (by decide) (by decide +kernel) rfl dX10_append_18 ?_
  refine lv_aload_n hx hb dX10_append_21 rfl (lv_at hl 1 rfl) ?_
  refine x_get (ci := 10) (C := RX10) (T := TX10) (N := 2) (v := .int 15) B h hin10 1 1 rfl rfl (by decide) (by decide +kernel) rfl dX10_append_22 ?_
  refine lv_iload_n hx hb dX10_append_25 rfl (lv_at hl 2 rfl) ?_
  refine lv_iload_n hx hb dX10_append_26 rfl (lv_at hl 0 rfl) ?_
  refine lv_iushr hx hb dX10_append_27 rfl ?_
  refine lv_topi (fun v_18 _ => ?_)
  refine lv_sipush (v := 255) hx hb dX10_append_28 (by decide) ?_
  refine lv_iand hx hb dX10_append_31 ?_
  refine x_iast B h 12 0 rfl rfl (vp_in_iff.mpr (by decide)) dX10_append_32 (fun H locs f_19 h => ?_)
  have h : Hp D A s.heap (WX cI cJ cB cZ ad (Tape_bytes := f_19) (Tape_size := 15)) H locs := h
  refine lv_aload_n hx hb dX10_append_33 rfl (lv_at hl 1 rfl) ?_
  refine lv_dup hx hb dX10_append_34 rfl ?_
  refine x_get (ci := 10) (C := RX10) (T := TX10) (N := 2) (v := .int 15) B h hin10 1 1 rfl rfl (by decide) (by decide +kernel) rfl dX10_append_35 ?_
  refine lv_iconst (v := 1) hx hb dX10_append_38 (by decide) ?_
  refine lv_iadd hx hb dX10_append_39 ?_
  refine lv_topi (fun v_20 ev_20 => ?_)
  obtain rfl : v_20 = 16 := ev_20.trans (by decide)
  refine x_put (ci := 10) (C := RX10) (T := TX10) (N := 2) (v := .int 16) (ty := .int) B h hin10 tyX10 tyX10_ok nmX10 1 1 rfl rfl (by decide) (by decide +kernel) rfl rfl rfl rfl (Nat.le_of_ble_eq_true rfl) dX10_append_40 (fun H locs h => ?_)
  have h : Hp D A s.heap (WX cI cJ cB cZ ad (Tape_bytes := f_19) (Tape_size := 16)) H locs := h
  refine lv_iinc (v := (-8)) (lv' := [(2, .int (-8)), (0, .ref (ad 1)), (1, .int p1)]) hx hb dX10_append_43 hl (k := 0) rfl (by decide) (by decide) rfl (fun ls hl => ?_)
  refine lv_goto (tgt := 3) hx hb dX10_append_46 (by decide) ?_
  refine lv_iload_n hx hb dX10_append_3 rfl (lv_at hl 0 rfl) ?_
  refine lv_if_lt (tgt := 49) hx hb dX10_append_4 (by decide) (fun c_21 => ?_) (fun c_21 => absurd c_21 (by decide))
  exact x_vret (w1 := (fun u : (Nat → Int32) => (WX cI cJ cB cZ ad (Tape_bytes := u) (Tape_size := 16)))) (f_19) B h hr trivial dX10_append_49
set_option maxHeartbeats 4000000 in
set_option maxRecDepth 100000 in
theorem k4_X10_append (l : Launch) (D : va_G) (cI cJ cB cZ : ClassId) (ad bd : Nat → Nat) (p1 : Int32) (u_6 : Nat → Int32) : MetV l yX10_append wsX10_append 0 0 0 0 D (TYS cI cJ cB cZ) (WX cI cJ cB cZ ad (Tape_bytes := u_6) (Tape_size := 16)) [.ref (ad 1), .int p1] (fun _ : (Nat → Int32) => True) (fun u : (Nat → Int32) => (WX cI cJ cB cZ ad (Tape_bytes := u) (Tape_size := 20))) := by
  refine x_startV (ty := .int) (cc := cX10_append) (by decide) rfl (Nat.le_of_ble_eq_true rfl) ?_
  intro p e s m args below meth c A ls B hr hnm h hl
  have hx := B.1.1
  have hb := B.1.2.1
  have hml := B.1.2.2.1
  have hts := B.1.2.2.2.2
  have hown : s.vm.findClass RX10 = some m.cls := B.1.2.2.2.1
  have hin10 : ∀ w ∈ u_ws RX10 TX10 2, w ∈ wsX10_append := by decide +kernel
  have hl : lv_has ls 3 [(0, .ref (ad 1)), (1, .int p1)] := hl
  refine lv_bipush (v := 24) hx hb dX10_append_0 (by decide) ?_
  refine lv_istore_n (lv' := [(2, .int 24), (0, .ref (ad 1)), (1, .int p1)]) hx hb dX10_append_2 rfl hl (by decide) rfl (fun ls hl => ?_)
  refine lv_iload_n hx hb dX10_append_3 rfl (lv_at hl 0 rfl) ?_
  refine lv_if_lt (tgt := 49) hx hb dX10_append_4 (by decide) (fun c_1 => absurd c_1 (by decide)) (fun c_1 => ?_)
  refine lv_aload_n hx hb dX10_append_7 rfl (lv_at hl 1 rfl) ?_
  refine x_get (ci := 10) (C := RX10) (T := TX10) (N := 2) (v := .int 16) B h hin10 1 1 rfl rfl (by decide) (by decide +kernel) rfl dX10_append_8 ?_
  refine lv_sipush (v := 160) hx hb dX10_append_11 (by decide) ?_
  refine lv_icmp_ge (tgt := 49) hx hb dX10_append_14 (by decide) (fun c_2 => absurd c_2 (by decide)) (fun c_2 => ?_)
  refine lv_aload_n hx hb dX10_append_17 rfl (lv_at hl 1 rfl) ?_
  refine x_get (ci := 10) (C := RX10) (T := TX10) (N := 2) (v := .ref (ad 12)) B h hin10 1 0 rfl rfl (by decide) (by decide +kernel) rfl dX10_append_18 ?_
  refine lv_aload_n hx hb dX10_append_21 rfl (lv_at hl 1 rfl) ?_
  refine x_get (ci := 10) (C := RX10) (T := TX10) (N := 2) (v := .int 16) B h hin10 1 1 rfl rfl (by decide) (by decide +kernel) rfl dX10_append_22 ?_
  refine lv_iload_n hx hb dX10_append_25 rfl (lv_at hl 2 rfl) ?_
  refine lv_iload_n hx hb dX10_append_26 rfl (lv_at hl 0 rfl) ?_
  refine lv_iushr hx hb dX10_append_27 rfl ?_
  refine lv_topi (fun v_3 _ => ?_)
  refine lv_sipush (v := 255) hx hb dX10_append_28 (by decide) ?_
  refine lv_iand hx hb dX10_append_31 ?_
  refine x_iast B h 12 0 rfl rfl (vp_in_iff.mpr (by decide)) dX10_append_32 (fun H locs f_4 h => ?_)
  have h : Hp D A s.heap (WX cI cJ cB cZ ad (Tape_bytes := f_4) (Tape_size := 16)) H locs := h
  refine lv_aload_n hx hb dX10_append_33 rfl (lv_at hl 1 rfl) ?_
  refine lv_dup hx hb dX10_append_34 rfl ?_
  refine x_get (ci := 10) (C := RX10) (T := TX10) (N := 2) (v := .int 16) B h hin10 1 1 rfl rfl (by decide) (by decide +kernel) rfl dX10_append_35 ?_
  refine lv_iconst (v := 1) hx hb dX10_append_38 (by decide) ?_
  refine lv_iadd hx hb dX10_append_39 ?_
  refine lv_topi (fun v_5 ev_5 => ?_)
  obtain rfl : v_5 = 17 := ev_5.trans (by decide)
  refine x_put (ci := 10) (C := RX10) (T := TX10) (N := 2) (v := .int 17) (ty := .int) B h hin10 tyX10 tyX10_ok nmX10 1 1 rfl rfl (by decide) (by decide +kernel) rfl rfl rfl rfl (Nat.le_of_ble_eq_true rfl) dX10_append_40 (fun H locs h => ?_)
  have h : Hp D A s.heap (WX cI cJ cB cZ ad (Tape_bytes := f_4) (Tape_size := 17)) H locs := h
  refine lv_iinc (v := 16) (lv' := [(2, .int 16), (0, .ref (ad 1)), (1, .int p1)]) hx hb dX10_append_43 hl (k := 0) rfl (by decide) (by decide) rfl (fun ls hl => ?_)
  refine lv_goto (tgt := 3) hx hb dX10_append_46 (by decide) ?_
  refine lv_iload_n hx hb dX10_append_3 rfl (lv_at hl 0 rfl) ?_
  refine lv_if_lt (tgt := 49) hx hb dX10_append_4 (by decide) (fun c_6 => absurd c_6 (by decide)) (fun c_6 => ?_)
  refine lv_aload_n hx hb dX10_append_7 rfl (lv_at hl 1 rfl) ?_
  refine x_get (ci := 10) (C := RX10) (T := TX10) (N := 2) (v := .int 17) B h hin10 1 1 rfl rfl (by decide) (by decide +kernel) rfl dX10_append_8 ?_
  refine lv_sipush (v := 160) hx hb dX10_append_11 (by decide) ?_
  refine lv_icmp_ge (tgt := 49) hx hb dX10_append_14 (by decide) (fun c_7 => absurd c_7 (by decide)) (fun c_7 => ?_)
  refine lv_aload_n hx hb dX10_append_17 rfl (lv_at hl 1 rfl) ?_
  refine x_get (ci := 10) (C := RX10) (T := TX10) (N := 2) (v := .ref (ad 12)) B h hin10 1 0 rfl rfl (by decide) (by decide +kernel) rfl dX10_append_18 ?_
  refine lv_aload_n hx hb dX10_append_21 rfl (lv_at hl 1 rfl) ?_
  refine x_get (ci := 10) (C := RX10) (T := TX10) (N := 2) (v := .int 17) B h hin10 1 1 rfl rfl (by decide) (by decide +kernel) rfl dX10_append_22 ?_
  refine lv_iload_n hx hb dX10_append_25 rfl (lv_at hl 2 rfl) ?_
  refine lv_iload_n hx hb dX10_append_26 rfl (lv_at hl 0 rfl) ?_
  refine lv_iushr hx hb dX10_append_27 rfl ?_
  refine lv_topi (fun v_8 _ => ?_)
  refine lv_sipush (v := 255) hx hb dX10_append_28 (by decide) ?_
  refine lv_iand hx hb dX10_append_31 ?_
  refine x_iast B h 12 0 rfl rfl (vp_in_iff.mpr (by decide)) dX10_append_32 (fun H locs f_9 h => ?_)
  have h : Hp D A s.heap (WX cI cJ cB cZ ad (Tape_bytes := f_9) (Tape_size := 17)) H locs := h
  refine lv_aload_n hx hb dX10_append_33 rfl (lv_at hl 1 rfl) ?_
  refine lv_dup hx hb dX10_append_34 rfl ?_
  refine x_get (ci := 10) (C := RX10) (T := TX10) (N := 2) (v := .int 17) B h hin10 1 1 rfl rfl (by decide) (by decide +kernel) rfl dX10_append_35 ?_
  refine lv_iconst (v := 1) hx hb dX10_append_38 (by decide) ?_
  refine lv_iadd hx hb dX10_append_39 ?_
  refine lv_topi (fun v_10 ev_10 => ?_)
  obtain rfl : v_10 = 18 := ev_10.trans (by decide)
  refine x_put (ci := 10) (C := RX10) (T := TX10) (N := 2) (v := .int 18) (ty := .int) B h hin10 tyX10 tyX10_ok nmX10 1 1 rfl rfl (by decide) (by decide +kernel) rfl rfl rfl rfl (Nat.le_of_ble_eq_true rfl) dX10_append_40 (fun H locs h => ?_)
  have h : Hp D A s.heap (WX cI cJ cB cZ ad (Tape_bytes := f_9) (Tape_size := 18)) H locs := h
  refine lv_iinc (v := 8) (lv' := [(2, .int 8), (0, .ref (ad 1)), (1, .int p1)]) hx hb dX10_append_43 hl (k := 0) rfl (by decide) (by decide) rfl (fun ls hl => ?_)
  refine lv_goto (tgt := 3) hx hb dX10_append_46 (by decide) ?_
  refine lv_iload_n hx hb dX10_append_3 rfl (lv_at hl 0 rfl) ?_
  refine lv_if_lt (tgt := 49) hx hb dX10_append_4 (by decide) (fun c_11 => absurd c_11 (by decide)) (fun c_11 => ?_)
  refine lv_aload_n hx hb dX10_append_7 rfl (lv_at hl 1 rfl) ?_
  refine x_get (ci := 10) (C := RX10) (T := TX10) (N := 2) (v := .int 18) B h hin10 1 1 rfl rfl (by decide) (by decide +kernel) rfl dX10_append_8 ?_
  refine lv_sipush (v := 160) hx hb dX10_append_11 (by decide) ?_
  refine lv_icmp_ge (tgt := 49) hx hb dX10_append_14 (by decide) (fun c_12 => absurd c_12 (by decide)) (fun c_12 => ?_)
  refine lv_aload_n hx hb dX10_append_17 rfl (lv_at hl 1 rfl) ?_
  refine x_get (ci := 10) (C := RX10) (T := TX10) (N := 2) (v := .ref (ad 12)) B h hin10 1 0 rfl rfl (by decide) (by decide +kernel) rfl dX10_append_18 ?_
  refine lv_aload_n hx hb dX10_append_21 rfl (lv_at hl 1 rfl) ?_
  refine x_get (ci := 10) (C := RX10) (T := TX10) (N := 2) (v := .int 18) B h hin10 1 1 rfl rfl (by decide) (by decide +kernel) rfl dX10_append_22 ?_
  refine lv_iload_n hx hb dX10_append_25 rfl (lv_at hl 2 rfl) ?_
  refine lv_iload_n hx hb dX10_append_26 rfl (lv_at hl 0 rfl) ?_
  refine lv_iushr hx hb dX10_append_27 rfl ?_
  refine lv_topi (fun v_13 _ => ?_)
  refine lv_sipush (v := 255) hx hb dX10_append_28 (by decide) ?_
  refine lv_iand hx hb dX10_append_31 ?_
  refine x_iast B h 12 0 rfl rfl (vp_in_iff.mpr (by decide)) dX10_append_32 (fun H locs f_14 h => ?_)
  have h : Hp D A s.heap (WX cI cJ cB cZ ad (Tape_bytes := f_14) (Tape_size := 18)) H locs := h
  refine lv_aload_n hx hb dX10_append_33 rfl (lv_at hl 1 rfl) ?_
  refine lv_dup hx hb dX10_append_34 rfl ?_
  refine x_get (ci := 10) (C := RX10) (T := TX10) (N := 2) (v := .int 18) B h hin10 1 1 rfl rfl (by decide) (by decide +kernel) rfl dX10_append_35 ?_
  refine lv_iconst (v := 1) hx hb dX10_append_38 (by decide) ?_
  refine lv_iadd hx hb dX10_append_39 ?_
  refine lv_topi (fun v_15 ev_15 => ?_)
  obtain rfl : v_15 = 19 := ev_15.trans (by decide)
  refine x_put (ci := 10) (C := RX10) (T := TX10) (N := 2) (v := .int 19) (ty := .int) B h hin10 tyX10 tyX10_ok nmX10 1 1 rfl rfl (by decide) (by decide +kernel) rfl rfl rfl rfl (Nat.le_of_ble_eq_true rfl) dX10_append_40 (fun H locs h => ?_)
  have h : Hp D A s.heap (WX cI cJ cB cZ ad (Tape_bytes := f_14) (Tape_size := 19)) H locs := h
  refine lv_iinc (v := 0) (lv' := [(2, .int 0), (0, .ref (ad 1)), (1, .int p1)]) hx hb dX10_append_43 hl (k := 0) rfl (by decide) (by decide) rfl (fun ls hl => ?_)
  refine lv_goto (tgt := 3) hx hb dX10_append_46 (by decide) ?_
  refine lv_iload_n hx hb dX10_append_3 rfl (lv_at hl 0 rfl) ?_
  refine lv_if_lt (tgt := 49) hx hb dX10_append_4 (by decide) (fun c_16 => absurd c_16 (by decide)) (fun c_16 => ?_)
  refine lv_aload_n hx hb dX10_append_7 rfl (lv_at hl 1 rfl) ?_
  refine x_get (ci := 10) (C := RX10) (T := TX10) (N := 2) (v := .int 19) B h hin10 1 1 rfl rfl (by decide) (by decide +kernel) rfl dX10_append_8 ?_
  refine lv_sipush (v := 160) hx hb dX10_append_11 (by decide) ?_
  refine lv_icmp_ge (tgt := 49) hx hb dX10_append_14 (by decide) (fun c_17 => absurd c_17 (by decide)) (fun c_17 => ?_)
  refine lv_aload_n hx hb dX10_append_17 rfl (lv_at hl 1 rfl) ?_
  refine x_get (ci := 10) (C := RX10) (T := TX10) (N := 2) (v := .ref (ad 12)) B h hin10 1 0 rfl rfl (by decide) (by decide +kernel) rfl dX10_append_18 ?_
  refine lv_aload_n hx hb dX10_append_21 rfl (lv_at hl 1 rfl) ?_
  refine x_get (ci := 10) (C := RX10) (T := TX10) (N := 2) (v := .int 19) B h hin10 1 1 rfl rfl (by decide) (by decide +kernel) rfl dX10_append_22 ?_
  refine lv_iload_n hx hb dX10_append_25 rfl (lv_at hl 2 rfl) ?_
  refine lv_iload_n hx hb dX10_append_26 rfl (lv_at hl 0 rfl) ?_
  refine lv_iushr hx hb dX10_append_27 rfl ?_
  refine lv_topi (fun v_18 _ => ?_)
  refine lv_sipush (v := 255) hx hb dX10_append_28 (by decide) ?_
  refine lv_iand hx hb dX10_append_31 ?_
  refine x_iast B h 12 0 rfl rfl (vp_in_iff.mpr (by decide)) dX10_append_32 (fun H locs f_19 h => ?_)
  have h : Hp D A s.heap (WX cI cJ cB cZ ad (Tape_bytes := f_19) (Tape_size := 19)) H locs := h
  refine lv_aload_n hx hb dX10_append_33 rfl (lv_at hl 1 rfl) ?_
  refine lv_dup hx hb dX10_append_34 rfl ?_
  refine x_get (ci := 10) (C := RX10) (T := TX10) (N := 2) (v := .int 19) B h hin10 1 1 rfl rfl (by decide) (by decide +kernel) rfl dX10_append_35 ?_
  refine lv_iconst (v := 1) hx hb dX10_append_38 (by decide) ?_
  refine lv_iadd hx hb dX10_append_39 ?_
  refine lv_topi (fun v_20 ev_20 => ?_)
  obtain rfl : v_20 = 20 := ev_20.trans (by decide)
  refine x_put (ci := 10) (C := RX10) (T := TX10) (N := 2) (v := .int 20) (ty := .int) B h hin10 tyX10 tyX10_ok nmX10 1 1 rfl rfl (by decide) (by decide +kernel) rfl rfl rfl rfl (Nat.le_of_ble_eq_true rfl) dX10_append_40 (fun H locs h => ?_)
  have h : Hp D A s.heap (WX cI cJ cB cZ ad (Tape_bytes := f_19) (Tape_size := 20)) H locs := h
  refine lv_iinc (v := (-8)) (lv' := [(2, .int (-8)), (0, .ref (ad 1)), (1, .int p1)]) hx hb dX10_append_43 hl (k := 0) rfl (by decide) (by decide) rfl (fun ls hl => ?_)
  refine lv_goto (tgt := 3) hx hb dX10_append_46 (by decide) ?_
  refine lv_iload_n hx hb dX10_append_3 rfl (lv_at hl 0 rfl) ?_
  refine lv_if_lt (tgt := 49) hx hb dX10_append_4 (by decide) (fun c_21 => ?_) (fun c_21 => absurd c_21 (by decide))
  exact x_vret (w1 := (fun u : (Nat → Int32) => (WX cI cJ cB cZ ad (Tape_bytes := u) (Tape_size := 20)))) (f_19) B h hr trivial dX10_append_49
set_option maxHeartbeats 4000000 in
set_option maxRecDepth 100000 in
theorem k5_X11_feed (l : Launch) (D : va_G) (cI cJ cB cZ : ClassId) (ad bd : Nat → Nat) (p1 : Int32) (p2 : Int32) (p3 : Int32) (p4 : Int32) (p5 : Int32) : MetI l yX11_feed wsX11_feed 1 22 0 0 D (TYS cI cJ cB cZ) (WX cI cJ cB cZ ad) [.ref (ad 0), .int p1, .int p2, .int p3, .int p4, .int p5] (fun (r : Int32) (_ : (Nat → Int32)) => r = 20) (fun u : (Nat → Int32) => (WX cI cJ cB cZ ad (Tape_bytes := u) (Tape_size := 20))) := by
  refine x_startI (ty := .int) (cc := cX11_feed) (by decide) rfl (Nat.le_of_ble_eq_true rfl) ?_
  intro p e s m args below meth c A ls B hr hnm h hl
  have hx := B.1.1
  have hb := B.1.2.1
  have hml := B.1.2.2.1
  have hts := B.1.2.2.2.2
  have hown : s.vm.findClass RX11 = some m.cls := B.1.2.2.2.1
  have hin10 : ∀ w ∈ u_ws RX10 TX10 2, w ∈ wsX11_feed := by decide +kernel
  have hin11 : ∀ w ∈ u_ws RX11 TX11 11, w ∈ wsX11_feed := by decide +kernel
  have hl : lv_has ls 6 [(0, .ref (ad 0)), (1, .int p1), (2, .int p2), (3, .int p3), (4, .int p4), (5, .int p5)] := hl
  refine lv_aload_n hx hb dX11_feed_0 rfl (lv_at hl 0 rfl) ?_
  refine x_get (ci := 11) (C := RX11) (T := TX11) (N := 11) (v := .ref (ad 1)) B h hin11 0 0 rfl rfl (by decide) (by decide +kernel) rfl dX11_feed_1 ?_
  refine x_get (ci := 10) (C := RX10) (T := TX10) (N := 2) (v := .int 0) B h hin10 1 1 rfl rfl (by decide) (by decide +kernel) rfl dX11_feed_4 ?_
  refine lv_bipush (v := 20) hx hb dX11_feed_7 (by decide) ?_
  refine lv_iadd hx hb dX11_feed_9 ?_
  refine lv_topi (fun v_1 ev_1 => ?_)
  obtain rfl : v_1 = 20 := ev_1.trans (by decide)
  refine lv_sipush (v := 160) hx hb dX11_feed_10 (by decide) ?_
  refine lv_icmp_le (tgt := 18) hx hb dX11_feed_13 (by decide) (fun c_2 => ?_) (fun c_2 => absurd c_2 (by decide))
  refine lv_aload_n hx hb dX11_feed_18 rfl (lv_at hl 0 rfl) ?_
  refine x_get (ci := 11) (C := RX11) (T := TX11) (N := 11) (v := .ref (ad 1)) B h hin11 0 0 rfl rfl (by decide) (by decide +kernel) rfl dX11_feed_19 ?_
  refine lv_iload_n hx hb dX11_feed_22 rfl (lv_at hl 1 rfl) ?_
  refine x_cVVF (n := 1) (As := [.int p1]) (rest := []) B h (k0_X10_append l D cI cJ cB cZ ad bd p1) ⟨⟨_, rfl⟩, by decide +kernel, Nat.le_of_ble_eq_true rfl, Nat.le_of_ble_eq_true rfl⟩ gX11_feed_X10_append (show ((WX cI cJ cB cZ ad) : va_W)[1]? = some (_, .inr (10, _)) from rfl) rfl rfl hl.1 rfl (Nat.le_of_ble_eq_true rfl) dX11_feed_23 ⟨Nat.le_of_ble_eq_true rfl, Nat.le_of_ble_eq_true rfl⟩ (fun u_3 H locs hp_3 h => ?_)
  have h : Hp D A s.heap (WX cI cJ cB cZ ad (Tape_bytes := u_3) (Tape_size := 4)) H locs := h
  refine lv_aload_n hx hb dX11_feed_26 rfl (lv_at hl 0 rfl) ?_
  refine x_get (ci := 11) (C := RX11) (T := TX11) (N := 11) (v := .ref (ad 1)) B h hin11 0 0 rfl rfl (by decide) (by decide +kernel) rfl dX11_feed_27 ?_
  refine lv_iload_n hx hb dX11_feed_30 rfl (lv_at hl 2 rfl) ?_
  refine x_cVVF (n := 1) (As := [.int p2]) (rest := []) B h (k1_X10_append l D cI cJ cB cZ ad bd p2 u_3) ⟨⟨_, rfl⟩, by decide +kernel, Nat.le_of_ble_eq_true rfl, Nat.le_of_ble_eq_true rfl⟩ gX11_feed_X10_append (show ((WX cI cJ cB cZ ad (Tape_bytes := u_3) (Tape_size := 4)) : va_W)[1]? = some (_, .inr (10, _)) from rfl) rfl rfl hl.1 rfl (Nat.le_of_ble_eq_true rfl) dX11_feed_31 ⟨Nat.le_of_ble_eq_true rfl, Nat.le_of_ble_eq_true rfl⟩ (fun u_4 H locs hp_4 h => ?_)
  have h : Hp D A s.heap (WX cI cJ cB cZ ad (Tape_bytes := u_4) (Tape_size := 8)) H locs := h
  refine lv_aload_n hx hb dX11_feed_34 rfl (lv_at hl 0 rfl) ?_
  refine x_get (ci := 11) (C := RX11) (T := TX11) (N := 11) (v := .ref (ad 1)) B h hin11 0 0 rfl rfl (by decide) (by decide +kernel) rfl dX11_feed_35 ?_
  refine lv_iload_n hx hb dX11_feed_38 rfl (lv_at hl 3 rfl) ?_
  refine x_cVVF (n := 1) (As := [.int p3]) (rest := []) B h (k2_X10_append l D cI cJ cB cZ ad bd p3 u_4) ⟨⟨_, rfl⟩, by decide +kernel, Nat.le_of_ble_eq_true rfl, Nat.le_of_ble_eq_true rfl⟩ gX11_feed_X10_append (show ((WX cI cJ cB cZ ad (Tape_bytes := u_4) (Tape_size := 8)) : va_W)[1]? = some (_, .inr (10, _)) from rfl) rfl rfl hl.1 rfl (Nat.le_of_ble_eq_true rfl) dX11_feed_39 ⟨Nat.le_of_ble_eq_true rfl, Nat.le_of_ble_eq_true rfl⟩ (fun u_5 H locs hp_5 h => ?_)
  have h : Hp D A s.heap (WX cI cJ cB cZ ad (Tape_bytes := u_5) (Tape_size := 12)) H locs := h
  refine lv_aload_n hx hb dX11_feed_42 rfl (lv_at hl 0 rfl) ?_
  refine x_get (ci := 11) (C := RX11) (T := TX11) (N := 11) (v := .ref (ad 1)) B h hin11 0 0 rfl rfl (by decide) (by decide +kernel) rfl dX11_feed_43 ?_
  refine lv_iload hx hb dX11_feed_46 (lv_at hl 4 rfl) ?_
  refine x_cVVF (n := 1) (As := [.int p4]) (rest := []) B h (k3_X10_append l D cI cJ cB cZ ad bd p4 u_5) ⟨⟨_, rfl⟩, by decide +kernel, Nat.le_of_ble_eq_true rfl, Nat.le_of_ble_eq_true rfl⟩ gX11_feed_X10_append (show ((WX cI cJ cB cZ ad (Tape_bytes := u_5) (Tape_size := 12)) : va_W)[1]? = some (_, .inr (10, _)) from rfl) rfl rfl hl.1 rfl (Nat.le_of_ble_eq_true rfl) dX11_feed_48 ⟨Nat.le_of_ble_eq_true rfl, Nat.le_of_ble_eq_true rfl⟩ (fun u_6 H locs hp_6 h => ?_)
  have h : Hp D A s.heap (WX cI cJ cB cZ ad (Tape_bytes := u_6) (Tape_size := 16)) H locs := h
  refine lv_aload_n hx hb dX11_feed_51 rfl (lv_at hl 0 rfl) ?_
  refine x_get (ci := 11) (C := RX11) (T := TX11) (N := 11) (v := .ref (ad 1)) B h hin11 0 0 rfl rfl (by decide) (by decide +kernel) rfl dX11_feed_52 ?_
  refine lv_iload hx hb dX11_feed_55 (lv_at hl 5 rfl) ?_
  refine x_cVVF (n := 1) (As := [.int p5]) (rest := []) B h (k4_X10_append l D cI cJ cB cZ ad bd p5 u_6) ⟨⟨_, rfl⟩, by decide +kernel, Nat.le_of_ble_eq_true rfl, Nat.le_of_ble_eq_true rfl⟩ gX11_feed_X10_append (show ((WX cI cJ cB cZ ad (Tape_bytes := u_6) (Tape_size := 16)) : va_W)[1]? = some (_, .inr (10, _)) from rfl) rfl rfl hl.1 rfl (Nat.le_of_ble_eq_true rfl) dX11_feed_57 ⟨Nat.le_of_ble_eq_true rfl, Nat.le_of_ble_eq_true rfl⟩ (fun u_7 H locs hp_7 h => ?_)
  have h : Hp D A s.heap (WX cI cJ cB cZ ad (Tape_bytes := u_7) (Tape_size := 20)) H locs := h
  refine lv_aload_n hx hb dX11_feed_60 rfl (lv_at hl 0 rfl) ?_
  refine x_get (ci := 11) (C := RX11) (T := TX11) (N := 11) (v := .ref (ad 1)) B h hin11 0 0 rfl rfl (by decide) (by decide +kernel) rfl dX11_feed_61 ?_
  refine x_get (ci := 10) (C := RX10) (T := TX10) (N := 2) (v := .int 20) B h hin10 1 1 rfl rfl (by decide) (by decide +kernel) rfl dX11_feed_64 ?_
  exact x_iret (w1 := (fun u : (Nat → Int32) => (WX cI cJ cB cZ ad (Tape_bytes := u) (Tape_size := 20)))) (u_7) B h hr rfl rfl dX11_feed_67
set_option maxHeartbeats 4000000 in
set_option maxRecDepth 100000 in
theorem k6_X12_puts (l : Launch) (D : va_G) (cI cJ cB cZ : ClassId) (ad bd : Nat → Nat) (p1 : Int32) : MetV l yX12_puts wsX12_puts 0 0 0 0 D (TYS cI cJ cB cZ) (WM cI cJ cB cZ bd) [.ref (bd 0), .int p1] (fun _ : (Nat → Int32) => True) (fun u : (Nat → Int32) => (WM cI cJ cB cZ bd (tape := u) (taped := 4))) := by
  refine x_startV (ty := .int) (cc := cX12_puts) (by decide) rfl (Nat.le_of_ble_eq_true rfl) ?_
  intro p e s m args below meth c A ls B hr hnm h hl
  have hx := B.1.1
  have hb := B.1.2.1
  have hml := B.1.2.2.1
  have hts := B.1.2.2.2.2
  have hown : s.vm.findClass RX12 = some m.cls := B.1.2.2.2.1
  have hin12 : ∀ w ∈ u_ws RX12 TX12 31, w ∈ wsX12_puts := by decide +kernel
  have hl : lv_has ls 3 [(0, .ref (bd 0)), (1, .int p1)] := hl
  refine lv_bipush (v := 24) hx hb dX12_puts_0 (by decide) ?_
  refine lv_istore_n (lv' := [(2, .int 24), (0, .ref (bd 0)), (1, .int p1)]) hx hb dX12_puts_2 rfl hl (by decide) rfl (fun ls hl => ?_)
  refine lv_iload_n hx hb dX12_puts_3 rfl (lv_at hl 0 rfl) ?_
  refine lv_if_lt (tgt := 36) hx hb dX12_puts_4 (by decide) (fun c_1 => absurd c_1 (by decide)) (fun c_1 => ?_)
  refine lv_aload_n hx hb dX12_puts_7 rfl (lv_at hl 1 rfl) ?_
  refine x_get (ci := 12) (C := RX12) (T := TX12) (N := 31) (v := .ref (bd 1)) B h hin12 0 0 rfl rfl (by decide) (by decide +kernel) rfl dX12_puts_8 ?_
  refine lv_aload_n hx hb dX12_puts_11 rfl (lv_at hl 1 rfl) ?_
  refine x_get (ci := 12) (C := RX12) (T := TX12) (N := 31) (v := .int 0) B h hin12 0 1 rfl rfl (by decide) (by decide +kernel) rfl dX12_puts_12 ?_
  refine lv_iload_n hx hb dX12_puts_15 rfl (lv_at hl 2 rfl) ?_
  refine lv_iload_n hx hb dX12_puts_16 rfl (lv_at hl 0 rfl) ?_
  refine lv_ishr hx hb dX12_puts_17 ?_
  refine lv_topi (fun v_2 _ => ?_)
  refine lv_i2b hx hb dX12_puts_18 rfl ?_
  refine lv_topi (fun v_3 _ => ?_)
  refine x_bast B h 1 2 rfl rfl (vp_in_iff.mpr (by decide)) dX12_puts_19 (fun H locs f_4 h => ?_)
  have h : Hp D A s.heap (WM cI cJ cB cZ bd (tape := f_4)) H locs := h
  refine lv_aload_n hx hb dX12_puts_20 rfl (lv_at hl 1 rfl) ?_
  refine lv_dup hx hb dX12_puts_21 rfl ?_
  refine x_get (ci := 12) (C := RX12) (T := TX12) (N := 31) (v := .int 0) B h hin12 0 1 rfl rfl (by decide) (by decide +kernel) rfl dX12_puts_22 ?_
  refine lv_iconst (v := 1) hx hb dX12_puts_25 (by decide) ?_
  refine lv_iadd hx hb dX12_puts_26 ?_
  refine lv_topi (fun v_5 ev_5 => ?_)
  obtain rfl : v_5 = 1 := ev_5.trans (by decide)
  refine x_put (ci := 12) (C := RX12) (T := TX12) (N := 31) (v := .int 1) (ty := .int) B h hin12 tyX12 tyX12_ok nmX12 0 1 rfl rfl (by decide) (by decide +kernel) rfl rfl rfl rfl (Nat.le_of_ble_eq_true rfl) dX12_puts_27 (fun H locs h => ?_)
  have h : Hp D A s.heap (WM cI cJ cB cZ bd (tape := f_4) (taped := 1)) H locs := h
  refine lv_iinc (v := 16) (lv' := [(2, .int 16), (0, .ref (bd 0)), (1, .int p1)]) hx hb dX12_puts_30 hl (k := 0) rfl (by decide) (by decide) rfl (fun ls hl => ?_)
  refine lv_goto (tgt := 3) hx hb dX12_puts_33 (by decide) ?_
  refine lv_iload_n hx hb dX12_puts_3 rfl (lv_at hl 0 rfl) ?_
  refine lv_if_lt (tgt := 36) hx hb dX12_puts_4 (by decide) (fun c_6 => absurd c_6 (by decide)) (fun c_6 => ?_)
  refine lv_aload_n hx hb dX12_puts_7 rfl (lv_at hl 1 rfl) ?_
  refine x_get (ci := 12) (C := RX12) (T := TX12) (N := 31) (v := .ref (bd 1)) B h hin12 0 0 rfl rfl (by decide) (by decide +kernel) rfl dX12_puts_8 ?_
  refine lv_aload_n hx hb dX12_puts_11 rfl (lv_at hl 1 rfl) ?_
  refine x_get (ci := 12) (C := RX12) (T := TX12) (N := 31) (v := .int 1) B h hin12 0 1 rfl rfl (by decide) (by decide +kernel) rfl dX12_puts_12 ?_
  refine lv_iload_n hx hb dX12_puts_15 rfl (lv_at hl 2 rfl) ?_
  refine lv_iload_n hx hb dX12_puts_16 rfl (lv_at hl 0 rfl) ?_
  refine lv_ishr hx hb dX12_puts_17 ?_
  refine lv_topi (fun v_7 _ => ?_)
  refine lv_i2b hx hb dX12_puts_18 rfl ?_
  refine lv_topi (fun v_8 _ => ?_)
  refine x_bast B h 1 2 rfl rfl (vp_in_iff.mpr (by decide)) dX12_puts_19 (fun H locs f_9 h => ?_)
  have h : Hp D A s.heap (WM cI cJ cB cZ bd (tape := f_9) (taped := 1)) H locs := h
  refine lv_aload_n hx hb dX12_puts_20 rfl (lv_at hl 1 rfl) ?_
  refine lv_dup hx hb dX12_puts_21 rfl ?_
  refine x_get (ci := 12) (C := RX12) (T := TX12) (N := 31) (v := .int 1) B h hin12 0 1 rfl rfl (by decide) (by decide +kernel) rfl dX12_puts_22 ?_
  refine lv_iconst (v := 1) hx hb dX12_puts_25 (by decide) ?_
  refine lv_iadd hx hb dX12_puts_26 ?_
  refine lv_topi (fun v_10 ev_10 => ?_)
  obtain rfl : v_10 = 2 := ev_10.trans (by decide)
  refine x_put (ci := 12) (C := RX12) (T := TX12) (N := 31) (v := .int 2) (ty := .int) B h hin12 tyX12 tyX12_ok nmX12 0 1 rfl rfl (by decide) (by decide +kernel) rfl rfl rfl rfl (Nat.le_of_ble_eq_true rfl) dX12_puts_27 (fun H locs h => ?_)
  have h : Hp D A s.heap (WM cI cJ cB cZ bd (tape := f_9) (taped := 2)) H locs := h
  refine lv_iinc (v := 8) (lv' := [(2, .int 8), (0, .ref (bd 0)), (1, .int p1)]) hx hb dX12_puts_30 hl (k := 0) rfl (by decide) (by decide) rfl (fun ls hl => ?_)
  refine lv_goto (tgt := 3) hx hb dX12_puts_33 (by decide) ?_
  refine lv_iload_n hx hb dX12_puts_3 rfl (lv_at hl 0 rfl) ?_
  refine lv_if_lt (tgt := 36) hx hb dX12_puts_4 (by decide) (fun c_11 => absurd c_11 (by decide)) (fun c_11 => ?_)
  refine lv_aload_n hx hb dX12_puts_7 rfl (lv_at hl 1 rfl) ?_
  refine x_get (ci := 12) (C := RX12) (T := TX12) (N := 31) (v := .ref (bd 1)) B h hin12 0 0 rfl rfl (by decide) (by decide +kernel) rfl dX12_puts_8 ?_
  refine lv_aload_n hx hb dX12_puts_11 rfl (lv_at hl 1 rfl) ?_
  refine x_get (ci := 12) (C := RX12) (T := TX12) (N := 31) (v := .int 2) B h hin12 0 1 rfl rfl (by decide) (by decide +kernel) rfl dX12_puts_12 ?_
  refine lv_iload_n hx hb dX12_puts_15 rfl (lv_at hl 2 rfl) ?_
  refine lv_iload_n hx hb dX12_puts_16 rfl (lv_at hl 0 rfl) ?_
  refine lv_ishr hx hb dX12_puts_17 ?_
  refine lv_topi (fun v_12 _ => ?_)
  refine lv_i2b hx hb dX12_puts_18 rfl ?_
  refine lv_topi (fun v_13 _ => ?_)
  refine x_bast B h 1 2 rfl rfl (vp_in_iff.mpr (by decide)) dX12_puts_19 (fun H locs f_14 h => ?_)
  have h : Hp D A s.heap (WM cI cJ cB cZ bd (tape := f_14) (taped := 2)) H locs := h
  refine lv_aload_n hx hb dX12_puts_20 rfl (lv_at hl 1 rfl) ?_
  refine lv_dup hx hb dX12_puts_21 rfl ?_
  refine x_get (ci := 12) (C := RX12) (T := TX12) (N := 31) (v := .int 2) B h hin12 0 1 rfl rfl (by decide) (by decide +kernel) rfl dX12_puts_22 ?_
  refine lv_iconst (v := 1) hx hb dX12_puts_25 (by decide) ?_
  refine lv_iadd hx hb dX12_puts_26 ?_
  refine lv_topi (fun v_15 ev_15 => ?_)
  obtain rfl : v_15 = 3 := ev_15.trans (by decide)
  refine x_put (ci := 12) (C := RX12) (T := TX12) (N := 31) (v := .int 3) (ty := .int) B h hin12 tyX12 tyX12_ok nmX12 0 1 rfl rfl (by decide) (by decide +kernel) rfl rfl rfl rfl (Nat.le_of_ble_eq_true rfl) dX12_puts_27 (fun H locs h => ?_)
  have h : Hp D A s.heap (WM cI cJ cB cZ bd (tape := f_14) (taped := 3)) H locs := h
  refine lv_iinc (v := 0) (lv' := [(2, .int 0), (0, .ref (bd 0)), (1, .int p1)]) hx hb dX12_puts_30 hl (k := 0) rfl (by decide) (by decide) rfl (fun ls hl => ?_)
  refine lv_goto (tgt := 3) hx hb dX12_puts_33 (by decide) ?_
  refine lv_iload_n hx hb dX12_puts_3 rfl (lv_at hl 0 rfl) ?_
  refine lv_if_lt (tgt := 36) hx hb dX12_puts_4 (by decide) (fun c_16 => absurd c_16 (by decide)) (fun c_16 => ?_)
  refine lv_aload_n hx hb dX12_puts_7 rfl (lv_at hl 1 rfl) ?_
  refine x_get (ci := 12) (C := RX12) (T := TX12) (N := 31) (v := .ref (bd 1)) B h hin12 0 0 rfl rfl (by decide) (by decide +kernel) rfl dX12_puts_8 ?_
  refine lv_aload_n hx hb dX12_puts_11 rfl (lv_at hl 1 rfl) ?_
  refine x_get (ci := 12) (C := RX12) (T := TX12) (N := 31) (v := .int 3) B h hin12 0 1 rfl rfl (by decide) (by decide +kernel) rfl dX12_puts_12 ?_
  refine lv_iload_n hx hb dX12_puts_15 rfl (lv_at hl 2 rfl) ?_
  refine lv_iload_n hx hb dX12_puts_16 rfl (lv_at hl 0 rfl) ?_
  refine lv_ishr hx hb dX12_puts_17 ?_
  refine lv_topi (fun v_17 _ => ?_)
  refine lv_i2b hx hb dX12_puts_18 rfl ?_
  refine lv_topi (fun v_18 _ => ?_)
  refine x_bast B h 1 2 rfl rfl (vp_in_iff.mpr (by decide)) dX12_puts_19 (fun H locs f_19 h => ?_)
  have h : Hp D A s.heap (WM cI cJ cB cZ bd (tape := f_19) (taped := 3)) H locs := h
  refine lv_aload_n hx hb dX12_puts_20 rfl (lv_at hl 1 rfl) ?_
  refine lv_dup hx hb dX12_puts_21 rfl ?_
  refine x_get (ci := 12) (C := RX12) (T := TX12) (N := 31) (v := .int 3) B h hin12 0 1 rfl rfl (by decide) (by decide +kernel) rfl dX12_puts_22 ?_
  refine lv_iconst (v := 1) hx hb dX12_puts_25 (by decide) ?_
  refine lv_iadd hx hb dX12_puts_26 ?_
  refine lv_topi (fun v_20 ev_20 => ?_)
  obtain rfl : v_20 = 4 := ev_20.trans (by decide)
  refine x_put (ci := 12) (C := RX12) (T := TX12) (N := 31) (v := .int 4) (ty := .int) B h hin12 tyX12 tyX12_ok nmX12 0 1 rfl rfl (by decide) (by decide +kernel) rfl rfl rfl rfl (Nat.le_of_ble_eq_true rfl) dX12_puts_27 (fun H locs h => ?_)
  have h : Hp D A s.heap (WM cI cJ cB cZ bd (tape := f_19) (taped := 4)) H locs := h
  refine lv_iinc (v := (-8)) (lv' := [(2, .int (-8)), (0, .ref (bd 0)), (1, .int p1)]) hx hb dX12_puts_30 hl (k := 0) rfl (by decide) (by decide) rfl (fun ls hl => ?_)
  refine lv_goto (tgt := 3) hx hb dX12_puts_33 (by decide) ?_
  refine lv_iload_n hx hb dX12_puts_3 rfl (lv_at hl 0 rfl) ?_
  refine lv_if_lt (tgt := 36) hx hb dX12_puts_4 (by decide) (fun c_21 => ?_) (fun c_21 => absurd c_21 (by decide))
  exact x_vret (w1 := (fun u : (Nat → Int32) => (WM cI cJ cB cZ bd (tape := u) (taped := 4)))) (f_19) B h hr trivial dX12_puts_36
set_option maxHeartbeats 4000000 in
set_option maxRecDepth 100000 in
theorem k7_X12_puts (l : Launch) (D : va_G) (cI cJ cB cZ : ClassId) (ad bd : Nat → Nat) (p1 : Int32) (u_3 : Nat → Int32) : MetV l yX12_puts wsX12_puts 0 0 0 0 D (TYS cI cJ cB cZ) (WM cI cJ cB cZ bd (tape := u_3) (taped := 4)) [.ref (bd 0), .int p1] (fun _ : (Nat → Int32) => True) (fun u : (Nat → Int32) => (WM cI cJ cB cZ bd (tape := u) (taped := 8))) := by
  refine x_startV (ty := .int) (cc := cX12_puts) (by decide) rfl (Nat.le_of_ble_eq_true rfl) ?_
  intro p e s m args below meth c A ls B hr hnm h hl
  have hx := B.1.1
  have hb := B.1.2.1
  have hml := B.1.2.2.1
  have hts := B.1.2.2.2.2
  have hown : s.vm.findClass RX12 = some m.cls := B.1.2.2.2.1
  have hin12 : ∀ w ∈ u_ws RX12 TX12 31, w ∈ wsX12_puts := by decide +kernel
  have hl : lv_has ls 3 [(0, .ref (bd 0)), (1, .int p1)] := hl
  refine lv_bipush (v := 24) hx hb dX12_puts_0 (by decide) ?_
  refine lv_istore_n (lv' := [(2, .int 24), (0, .ref (bd 0)), (1, .int p1)]) hx hb dX12_puts_2 rfl hl (by decide) rfl (fun ls hl => ?_)
  refine lv_iload_n hx hb dX12_puts_3 rfl (lv_at hl 0 rfl) ?_
  refine lv_if_lt (tgt := 36) hx hb dX12_puts_4 (by decide) (fun c_1 => absurd c_1 (by decide)) (fun c_1 => ?_)
  refine lv_aload_n hx hb dX12_puts_7 rfl (lv_at hl 1 rfl) ?_
  refine x_get (ci := 12) (C := RX12) (T := TX12) (N := 31) (v := .ref (bd 1)) B h hin12 0 0 rfl rfl (by decide) (by decide +kernel) rfl dX12_puts_8 ?_
  refine lv_aload_n hx hb dX12_puts_11 rfl (lv_at hl 1 rfl) ?_
  refine x_get (ci := 12) (C := RX12) (T := TX12) (N := 31) (v := .int 4) B h hin12 0 1 rfl rfl (by decide) (by decide +kernel) rfl dX12_puts_12 ?_
  refine lv_iload_n hx hb dX12_puts_15 rfl (lv_at hl 2 rfl) ?_
  refine lv_iload_n hx hb dX12_puts_16 rfl (lv_at hl 0 rfl) ?_
  refine lv_ishr hx hb dX12_puts_17 ?_
  refine lv_topi (fun v_2 _ => ?_)
  refine lv_i2b hx hb dX12_puts_18 rfl ?_
  refine lv_topi (fun v_3 _ => ?_)
  refine x_bast B h 1 2 rfl rfl (vp_in_iff.mpr (by decide)) dX12_puts_19 (fun H locs f_4 h => ?_)
  have h : Hp D A s.heap (WM cI cJ cB cZ bd (tape := f_4) (taped := 4)) H locs := h
  refine lv_aload_n hx hb dX12_puts_20 rfl (lv_at hl 1 rfl) ?_
  refine lv_dup hx hb dX12_puts_21 rfl ?_
  refine x_get (ci := 12) (C := RX12) (T := TX12) (N := 31) (v := .int 4) B h hin12 0 1 rfl rfl (by decide) (by decide +kernel) rfl dX12_puts_22 ?_
  refine lv_iconst (v := 1) hx hb dX12_puts_25 (by decide) ?_
  refine lv_iadd hx hb dX12_puts_26 ?_
  refine lv_topi (fun v_5 ev_5 => ?_)
  obtain rfl : v_5 = 5 := ev_5.trans (by decide)
  refine x_put (ci := 12) (C := RX12) (T := TX12) (N := 31) (v := .int 5) (ty := .int) B h hin12 tyX12 tyX12_ok nmX12 0 1 rfl rfl (by decide) (by decide +kernel) rfl rfl rfl rfl (Nat.le_of_ble_eq_true rfl) dX12_puts_27 (fun H locs h => ?_)
  have h : Hp D A s.heap (WM cI cJ cB cZ bd (tape := f_4) (taped := 5)) H locs := h
  refine lv_iinc (v := 16) (lv' := [(2, .int 16), (0, .ref (bd 0)), (1, .int p1)]) hx hb dX12_puts_30 hl (k := 0) rfl (by decide) (by decide) rfl (fun ls hl => ?_)
  refine lv_goto (tgt := 3) hx hb dX12_puts_33 (by decide) ?_
  refine lv_iload_n hx hb dX12_puts_3 rfl (lv_at hl 0 rfl) ?_
  refine lv_if_lt (tgt := 36) hx hb dX12_puts_4 (by decide) (fun c_6 => absurd c_6 (by decide)) (fun c_6 => ?_)
  refine lv_aload_n hx hb dX12_puts_7 rfl (lv_at hl 1 rfl) ?_
  refine x_get (ci := 12) (C := RX12) (T := TX12) (N := 31) (v := .ref (bd 1)) B h hin12 0 0 rfl rfl (by decide) (by decide +kernel) rfl dX12_puts_8 ?_
  refine lv_aload_n hx hb dX12_puts_11 rfl (lv_at hl 1 rfl) ?_
  refine x_get (ci := 12) (C := RX12) (T := TX12) (N := 31) (v := .int 5) B h hin12 0 1 rfl rfl (by decide) (by decide +kernel) rfl dX12_puts_12 ?_
  refine lv_iload_n hx hb dX12_puts_15 rfl (lv_at hl 2 rfl) ?_
  refine lv_iload_n hx hb dX12_puts_16 rfl (lv_at hl 0 rfl) ?_
  refine lv_ishr hx hb dX12_puts_17 ?_
  refine lv_topi (fun v_7 _ => ?_)
  refine lv_i2b hx hb dX12_puts_18 rfl ?_
  refine lv_topi (fun v_8 _ => ?_)
  refine x_bast B h 1 2 rfl rfl (vp_in_iff.mpr (by decide)) dX12_puts_19 (fun H locs f_9 h => ?_)
  have h : Hp D A s.heap (WM cI cJ cB cZ bd (tape := f_9) (taped := 5)) H locs := h
  refine lv_aload_n hx hb dX12_puts_20 rfl (lv_at hl 1 rfl) ?_
  refine lv_dup hx hb dX12_puts_21 rfl ?_
  refine x_get (ci := 12) (C := RX12) (T := TX12) (N := 31) (v := .int 5) B h hin12 0 1 rfl rfl (by decide) (by decide +kernel) rfl dX12_puts_22 ?_
  refine lv_iconst (v := 1) hx hb dX12_puts_25 (by decide) ?_
  refine lv_iadd hx hb dX12_puts_26 ?_
  refine lv_topi (fun v_10 ev_10 => ?_)
  obtain rfl : v_10 = 6 := ev_10.trans (by decide)
  refine x_put (ci := 12) (C := RX12) (T := TX12) (N := 31) (v := .int 6) (ty := .int) B h hin12 tyX12 tyX12_ok nmX12 0 1 rfl rfl (by decide) (by decide +kernel) rfl rfl rfl rfl (Nat.le_of_ble_eq_true rfl) dX12_puts_27 (fun H locs h => ?_)
  have h : Hp D A s.heap (WM cI cJ cB cZ bd (tape := f_9) (taped := 6)) H locs := h
  refine lv_iinc (v := 8) (lv' := [(2, .int 8), (0, .ref (bd 0)), (1, .int p1)]) hx hb dX12_puts_30 hl (k := 0) rfl (by decide) (by decide) rfl (fun ls hl => ?_)
  refine lv_goto (tgt := 3) hx hb dX12_puts_33 (by decide) ?_
  refine lv_iload_n hx hb dX12_puts_3 rfl (lv_at hl 0 rfl) ?_
  refine lv_if_lt (tgt := 36) hx hb dX12_puts_4 (by decide) (fun c_11 => absurd c_11 (by decide)) (fun c_11 => ?_)
  refine lv_aload_n hx hb dX12_puts_7 rfl (lv_at hl 1 rfl) ?_
  refine x_get (ci := 12) (C := RX12) (T := TX12) (N := 31) (v := .ref (bd 1)) B h hin12 0 0 rfl rfl (by decide) (by decide +kernel) rfl dX12_puts_8 ?_
  refine lv_aload_n hx hb dX12_puts_11 rfl (lv_at hl 1 rfl) ?_
  refine x_get (ci := 12) (C := RX12) (T := TX12) (N := 31) (v := .int 6) B h hin12 0 1 rfl rfl (by decide) (by decide +kernel) rfl dX12_puts_12 ?_
  refine lv_iload_n hx hb dX12_puts_15 rfl (lv_at hl 2 rfl) ?_
  refine lv_iload_n hx hb dX12_puts_16 rfl (lv_at hl 0 rfl) ?_
  refine lv_ishr hx hb dX12_puts_17 ?_
  refine lv_topi (fun v_12 _ => ?_)
  refine lv_i2b hx hb dX12_puts_18 rfl ?_
  refine lv_topi (fun v_13 _ => ?_)
  refine x_bast B h 1 2 rfl rfl (vp_in_iff.mpr (by decide)) dX12_puts_19 (fun H locs f_14 h => ?_)
  have h : Hp D A s.heap (WM cI cJ cB cZ bd (tape := f_14) (taped := 6)) H locs := h
  refine lv_aload_n hx hb dX12_puts_20 rfl (lv_at hl 1 rfl) ?_
  refine lv_dup hx hb dX12_puts_21 rfl ?_
  refine x_get (ci := 12) (C := RX12) (T := TX12) (N := 31) (v := .int 6) B h hin12 0 1 rfl rfl (by decide) (by decide +kernel) rfl dX12_puts_22 ?_
  refine lv_iconst (v := 1) hx hb dX12_puts_25 (by decide) ?_
  refine lv_iadd hx hb dX12_puts_26 ?_
  refine lv_topi (fun v_15 ev_15 => ?_)
  obtain rfl : v_15 = 7 := ev_15.trans (by decide)
  refine x_put (ci := 12) (C := RX12) (T := TX12) (N := 31) (v := .int 7) (ty := .int) B h hin12 tyX12 tyX12_ok nmX12 0 1 rfl rfl (by decide) (by decide +kernel) rfl rfl rfl rfl (Nat.le_of_ble_eq_true rfl) dX12_puts_27 (fun H locs h => ?_)
  have h : Hp D A s.heap (WM cI cJ cB cZ bd (tape := f_14) (taped := 7)) H locs := h
  refine lv_iinc (v := 0) (lv' := [(2, .int 0), (0, .ref (bd 0)), (1, .int p1)]) hx hb dX12_puts_30 hl (k := 0) rfl (by decide) (by decide) rfl (fun ls hl => ?_)
  refine lv_goto (tgt := 3) hx hb dX12_puts_33 (by decide) ?_
  refine lv_iload_n hx hb dX12_puts_3 rfl (lv_at hl 0 rfl) ?_
  refine lv_if_lt (tgt := 36) hx hb dX12_puts_4 (by decide) (fun c_16 => absurd c_16 (by decide)) (fun c_16 => ?_)
  refine lv_aload_n hx hb dX12_puts_7 rfl (lv_at hl 1 rfl) ?_
  refine x_get (ci := 12) (C := RX12) (T := TX12) (N := 31) (v := .ref (bd 1)) B h hin12 0 0 rfl rfl (by decide) (by decide +kernel) rfl dX12_puts_8 ?_
  refine lv_aload_n hx hb dX12_puts_11 rfl (lv_at hl 1 rfl) ?_
  refine x_get (ci := 12) (C := RX12) (T := TX12) (N := 31) (v := .int 7) B h hin12 0 1 rfl rfl (by decide) (by decide +kernel) rfl dX12_puts_12 ?_
  refine lv_iload_n hx hb dX12_puts_15 rfl (lv_at hl 2 rfl) ?_
  refine lv_iload_n hx hb dX12_puts_16 rfl (lv_at hl 0 rfl) ?_
  refine lv_ishr hx hb dX12_puts_17 ?_
  refine lv_topi (fun v_17 _ => ?_)
  refine lv_i2b hx hb dX12_puts_18 rfl ?_
  refine lv_topi (fun v_18 _ => ?_)
  refine x_bast B h 1 2 rfl rfl (vp_in_iff.mpr (by decide)) dX12_puts_19 (fun H locs f_19 h => ?_)
  have h : Hp D A s.heap (WM cI cJ cB cZ bd (tape := f_19) (taped := 7)) H locs := h
  refine lv_aload_n hx hb dX12_puts_20 rfl (lv_at hl 1 rfl) ?_
  refine lv_dup hx hb dX12_puts_21 rfl ?_
  refine x_get (ci := 12) (C := RX12) (T := TX12) (N := 31) (v := .int 7) B h hin12 0 1 rfl rfl (by decide) (by decide +kernel) rfl dX12_puts_22 ?_
  refine lv_iconst (v := 1) hx hb dX12_puts_25 (by decide) ?_
  refine lv_iadd hx hb dX12_puts_26 ?_
  refine lv_topi (fun v_20 ev_20 => ?_)
  obtain rfl : v_20 = 8 := ev_20.trans (by decide)
  refine x_put (ci := 12) (C := RX12) (T := TX12) (N := 31) (v := .int 8) (ty := .int) B h hin12 tyX12 tyX12_ok nmX12 0 1 rfl rfl (by decide) (by decide +kernel) rfl rfl rfl rfl (Nat.le_of_ble_eq_true rfl) dX12_puts_27 (fun H locs h => ?_)
  have h : Hp D A s.heap (WM cI cJ cB cZ bd (tape := f_19) (taped := 8)) H locs := h
  refine lv_iinc (v := (-8)) (lv' := [(2, .int (-8)), (0, .ref (bd 0)), (1, .int p1)]) hx hb dX12_puts_30 hl (k := 0) rfl (by decide) (by decide) rfl (fun ls hl => ?_)
  refine lv_goto (tgt := 3) hx hb dX12_puts_33 (by decide) ?_
  refine lv_iload_n hx hb dX12_puts_3 rfl (lv_at hl 0 rfl) ?_
  refine lv_if_lt (tgt := 36) hx hb dX12_puts_4 (by decide) (fun c_21 => ?_) (fun c_21 => absurd c_21 (by decide))
  exact x_vret (w1 := (fun u : (Nat → Int32) => (WM cI cJ cB cZ bd (tape := u) (taped := 8)))) (f_19) B h hr trivial dX12_puts_36
set_option maxHeartbeats 4000000 in
set_option maxRecDepth 100000 in
theorem k8_X12_puts (l : Launch) (D : va_G) (cI cJ cB cZ : ClassId) (ad bd : Nat → Nat) (p1 : Int32) (u_4 : Nat → Int32) : MetV l yX12_puts wsX12_puts 0 0 0 0 D (TYS cI cJ cB cZ) (WM cI cJ cB cZ bd (tape := u_4) (taped := 8)) [.ref (bd 0), .int p1] (fun _ : (Nat → Int32) => True) (fun u : (Nat → Int32) => (WM cI cJ cB cZ bd (tape := u) (taped := 12))) := by
  refine x_startV (ty := .int) (cc := cX12_puts) (by decide) rfl (Nat.le_of_ble_eq_true rfl) ?_
  intro p e s m args below meth c A ls B hr hnm h hl
  have hx := B.1.1
  have hb := B.1.2.1
  have hml := B.1.2.2.1
  have hts := B.1.2.2.2.2
  have hown : s.vm.findClass RX12 = some m.cls := B.1.2.2.2.1
  have hin12 : ∀ w ∈ u_ws RX12 TX12 31, w ∈ wsX12_puts := by decide +kernel
  have hl : lv_has ls 3 [(0, .ref (bd 0)), (1, .int p1)] := hl
  refine lv_bipush (v := 24) hx hb dX12_puts_0 (by decide) ?_
  refine lv_istore_n (lv' := [(2, .int 24), (0, .ref (bd 0)), (1, .int p1)]) hx hb dX12_puts_2 rfl hl (by decide) rfl (fun ls hl => ?_)
  refine lv_iload_n hx hb dX12_puts_3 rfl (lv_at hl 0 rfl) ?_
  refine lv_if_lt (tgt := 36) hx hb dX12_puts_4 (by decide) (fun c_1 => absurd c_1 (by decide)) (fun c_1 => ?_)
  refine lv_aload_n hx hb dX12_puts_7 rfl (lv_at hl 1 rfl) ?_
  refine x_get (ci := 12) (C := RX12) (T := TX12) (N := 31) (v := .ref (bd 1)) B h hin12 0 0 rfl rfl (by decide) (by decide +kernel) rfl dX12_puts_8 ?_
  refine lv_aload_n hx hb dX12_puts_11 rfl (lv_at hl 1 rfl) ?_
  refine x_get (ci := 12) (C := RX12) (T := TX12) (N := 31) (v := .int 8) B h hin12 0 1 rfl rfl (by decide) (by decide +kernel) rfl dX12_puts_12 ?_
  refine lv_iload_n hx hb dX12_puts_15 rfl (lv_at hl 2 rfl) ?_
  refine lv_iload_n hx hb dX12_puts_16 rfl (lv_at hl 0 rfl) ?_
  refine lv_ishr hx hb dX12_puts_17 ?_
  refine lv_topi (fun v_2 _ => ?_)
  refine lv_i2b hx hb dX12_puts_18 rfl ?_
  refine lv_topi (fun v_3 _ => ?_)
  refine x_bast B h 1 2 rfl rfl (vp_in_iff.mpr (by decide)) dX12_puts_19 (fun H locs f_4 h => ?_)
  have h : Hp D A s.heap (WM cI cJ cB cZ bd (tape := f_4) (taped := 8)) H locs := h
  refine lv_aload_n hx hb dX12_puts_20 rfl (lv_at hl 1 rfl) ?_
  refine lv_dup hx hb dX12_puts_21 rfl ?_
  refine x_get (ci := 12) (C := RX12) (T := TX12) (N := 31) (v := .int 8) B h hin12 0 1 rfl rfl (by decide) (by decide +kernel) rfl dX12_puts_22 ?_
  refine lv_iconst (v := 1) hx hb dX12_puts_25 (by decide) ?_
  refine lv_iadd hx hb dX12_puts_26 ?_
  refine lv_topi (fun v_5 ev_5 => ?_)
  obtain rfl : v_5 = 9 := ev_5.trans (by decide)
  refine x_put (ci := 12) (C := RX12) (T := TX12) (N := 31) (v := .int 9) (ty := .int) B h hin12 tyX12 tyX12_ok nmX12 0 1 rfl rfl (by decide) (by decide +kernel) rfl rfl rfl rfl (Nat.le_of_ble_eq_true rfl) dX12_puts_27 (fun H locs h => ?_)
  have h : Hp D A s.heap (WM cI cJ cB cZ bd (tape := f_4) (taped := 9)) H locs := h
  refine lv_iinc (v := 16) (lv' := [(2, .int 16), (0, .ref (bd 0)), (1, .int p1)]) hx hb dX12_puts_30 hl (k := 0) rfl (by decide) (by decide) rfl (fun ls hl => ?_)
  refine lv_goto (tgt := 3) hx hb dX12_puts_33 (by decide) ?_
  refine lv_iload_n hx hb dX12_puts_3 rfl (lv_at hl 0 rfl) ?_
  refine lv_if_lt (tgt := 36) hx hb dX12_puts_4 (by decide) (fun c_6 => absurd c_6 (by decide)) (fun c_6 => ?_)
  refine lv_aload_n hx hb dX12_puts_7 rfl (lv_at hl 1 rfl) ?_
  refine x_get (ci := 12) (C := RX12) (T := TX12) (N := 31) (v := .ref (bd 1)) B h hin12 0 0 rfl rfl (by decide) (by decide +kernel) rfl dX12_puts_8 ?_
  refine lv_aload_n hx hb dX12_puts_11 rfl (lv_at hl 1 rfl) ?_
  refine x_get (ci := 12) (C := RX12) (T := TX12) (N := 31) (v := .int 9) B h hin12 0 1 rfl rfl (by decide) (by decide +kernel) rfl dX12_puts_12 ?_
  refine lv_iload_n hx hb dX12_puts_15 rfl (lv_at hl 2 rfl) ?_
  refine lv_iload_n hx hb dX12_puts_16 rfl (lv_at hl 0 rfl) ?_
  refine lv_ishr hx hb dX12_puts_17 ?_
  refine lv_topi (fun v_7 _ => ?_)
  refine lv_i2b hx hb dX12_puts_18 rfl ?_
  refine lv_topi (fun v_8 _ => ?_)
  refine x_bast B h 1 2 rfl rfl (vp_in_iff.mpr (by decide)) dX12_puts_19 (fun H locs f_9 h => ?_)
  have h : Hp D A s.heap (WM cI cJ cB cZ bd (tape := f_9) (taped := 9)) H locs := h
  refine lv_aload_n hx hb dX12_puts_20 rfl (lv_at hl 1 rfl) ?_
  refine lv_dup hx hb dX12_puts_21 rfl ?_
  refine x_get (ci := 12) (C := RX12) (T := TX12) (N := 31) (v := .int 9) B h hin12 0 1 rfl rfl (by decide) (by decide +kernel) rfl dX12_puts_22 ?_
  refine lv_iconst (v := 1) hx hb dX12_puts_25 (by decide) ?_
  refine lv_iadd hx hb dX12_puts_26 ?_
  refine lv_topi (fun v_10 ev_10 => ?_)
  obtain rfl : v_10 = 10 := ev_10.trans (by decide)
  refine x_put (ci := 12) (C := RX12) (T := TX12) (N := 31) (v := .int 10) (ty := .int) B h hin12 tyX12 tyX12_ok nmX12 0 1 rfl rfl (by decide) (by decide +kernel) rfl rfl rfl rfl (Nat.le_of_ble_eq_true rfl) dX12_puts_27 (fun H locs h => ?_)
  have h : Hp D A s.heap (WM cI cJ cB cZ bd (tape := f_9) (taped := 10)) H locs := h
  refine lv_iinc (v := 8) (lv' := [(2, .int 8), (0, .ref (bd 0)), (1, .int p1)]) hx hb dX12_puts_30 hl (k := 0) rfl (by decide) (by decide) rfl (fun ls hl => ?_)
  refine lv_goto (tgt := 3) hx hb dX12_puts_33 (by decide) ?_
  refine lv_iload_n hx hb dX12_puts_3 rfl (lv_at hl 0 rfl) ?_
  refine lv_if_lt (tgt := 36) hx hb dX12_puts_4 (by decide) (fun c_11 => absurd c_11 (by decide)) (fun c_11 => ?_)
  refine lv_aload_n hx hb dX12_puts_7 rfl (lv_at hl 1 rfl) ?_
  refine x_get (ci := 12) (C := RX12) (T := TX12) (N := 31) (v := .ref (bd 1)) B h hin12 0 0 rfl rfl (by decide) (by decide +kernel) rfl dX12_puts_8 ?_
  refine lv_aload_n hx hb dX12_puts_11 rfl (lv_at hl 1 rfl) ?_
  refine x_get (ci := 12) (C := RX12) (T := TX12) (N := 31) (v := .int 10) B h hin12 0 1 rfl rfl (by decide) (by decide +kernel) rfl dX12_puts_12 ?_
  refine lv_iload_n hx hb dX12_puts_15 rfl (lv_at hl 2 rfl) ?_
  refine lv_iload_n hx hb dX12_puts_16 rfl (lv_at hl 0 rfl) ?_
  refine lv_ishr hx hb dX12_puts_17 ?_
  refine lv_topi (fun v_12 _ => ?_)
  refine lv_i2b hx hb dX12_puts_18 rfl ?_
  refine lv_topi (fun v_13 _ => ?_)
  refine x_bast B h 1 2 rfl rfl (vp_in_iff.mpr (by decide)) dX12_puts_19 (fun H locs f_14 h => ?_)
  have h : Hp D A s.heap (WM cI cJ cB cZ bd (tape := f_14) (taped := 10)) H locs := h
  refine lv_aload_n hx hb dX12_puts_20 rfl (lv_at hl 1 rfl) ?_
  refine lv_dup hx hb dX12_puts_21 rfl ?_
  refine x_get (ci := 12) (C := RX12) (T := TX12) (N := 31) (v := .int 10) B h hin12 0 1 rfl rfl (by decide) (by decide +kernel) rfl dX12_puts_22 ?_
  refine lv_iconst (v := 1) hx hb dX12_puts_25 (by decide) ?_
  refine lv_iadd hx hb dX12_puts_26 ?_
  refine lv_topi (fun v_15 ev_15 => ?_)
  obtain rfl : v_15 = 11 := ev_15.trans (by decide)
  refine x_put (ci := 12) (C := RX12) (T := TX12) (N := 31) (v := .int 11) (ty := .int) B h hin12 tyX12 tyX12_ok nmX12 0 1 rfl rfl (by decide) (by decide +kernel) rfl rfl rfl rfl (Nat.le_of_ble_eq_true rfl) dX12_puts_27 (fun H locs h => ?_)
  have h : Hp D A s.heap (WM cI cJ cB cZ bd (tape := f_14) (taped := 11)) H locs := h
  refine lv_iinc (v := 0) (lv' := [(2, .int 0), (0, .ref (bd 0)), (1, .int p1)]) hx hb dX12_puts_30 hl (k := 0) rfl (by decide) (by decide) rfl (fun ls hl => ?_)
  refine lv_goto (tgt := 3) hx hb dX12_puts_33 (by decide) ?_
  refine lv_iload_n hx hb dX12_puts_3 rfl (lv_at hl 0 rfl) ?_
  refine lv_if_lt (tgt := 36) hx hb dX12_puts_4 (by decide) (fun c_16 => absurd c_16 (by decide)) (fun c_16 => ?_)
  refine lv_aload_n hx hb dX12_puts_7 rfl (lv_at hl 1 rfl) ?_
  refine x_get (ci := 12) (C := RX12) (T := TX12) (N := 31) (v := .ref (bd 1)) B h hin12 0 0 rfl rfl (by decide) (by decide +kernel) rfl dX12_puts_8 ?_
  refine lv_aload_n hx hb dX12_puts_11 rfl (lv_at hl 1 rfl) ?_
  refine x_get (ci := 12) (C := RX12) (T := TX12) (N := 31) (v := .int 11) B h hin12 0 1 rfl rfl (by decide) (by decide +kernel) rfl dX12_puts_12 ?_
  refine lv_iload_n hx hb dX12_puts_15 rfl (lv_at hl 2 rfl) ?_
  refine lv_iload_n hx hb dX12_puts_16 rfl (lv_at hl 0 rfl) ?_
  refine lv_ishr hx hb dX12_puts_17 ?_
  refine lv_topi (fun v_17 _ => ?_)
  refine lv_i2b hx hb dX12_puts_18 rfl ?_
  refine lv_topi (fun v_18 _ => ?_)
  refine x_bast B h 1 2 rfl rfl (vp_in_iff.mpr (by decide)) dX12_puts_19 (fun H locs f_19 h => ?_)
  have h : Hp D A s.heap (WM cI cJ cB cZ bd (tape := f_19) (taped := 11)) H locs := h
  refine lv_aload_n hx hb dX12_puts_20 rfl (lv_at hl 1 rfl) ?_
  refine lv_dup hx hb dX12_puts_21 rfl ?_
  refine x_get (ci := 12) (C := RX12) (T := TX12) (N := 31) (v := .int 11) B h hin12 0 1 rfl rfl (by decide) (by decide +kernel) rfl dX12_puts_22 ?_
  refine lv_iconst (v := 1) hx hb dX12_puts_25 (by decide) ?_
  refine lv_iadd hx hb dX12_puts_26 ?_
  refine lv_topi (fun v_20 ev_20 => ?_)
  obtain rfl : v_20 = 12 := ev_20.trans (by decide)
  refine x_put (ci := 12) (C := RX12) (T := TX12) (N := 31) (v := .int 12) (ty := .int) B h hin12 tyX12 tyX12_ok nmX12 0 1 rfl rfl (by decide) (by decide +kernel) rfl rfl rfl rfl (Nat.le_of_ble_eq_true rfl) dX12_puts_27 (fun H locs h => ?_)
  have h : Hp D A s.heap (WM cI cJ cB cZ bd (tape := f_19) (taped := 12)) H locs := h
  refine lv_iinc (v := (-8)) (lv' := [(2, .int (-8)), (0, .ref (bd 0)), (1, .int p1)]) hx hb dX12_puts_30 hl (k := 0) rfl (by decide) (by decide) rfl (fun ls hl => ?_)
  refine lv_goto (tgt := 3) hx hb dX12_puts_33 (by decide) ?_
  refine lv_iload_n hx hb dX12_puts_3 rfl (lv_at hl 0 rfl) ?_
  refine lv_if_lt (tgt := 36) hx hb dX12_puts_4 (by decide) (fun c_21 => ?_) (fun c_21 => absurd c_21 (by decide))
  exact x_vret (w1 := (fun u : (Nat → Int32) => (WM cI cJ cB cZ bd (tape := u) (taped := 12)))) (f_19) B h hr trivial dX12_puts_36
