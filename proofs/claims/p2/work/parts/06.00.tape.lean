/-! ===== from any state: the tape of both sides ===== -/
/-- one place of a row of values changed -/
def uI {α : Type} (f : Nat → α) (k : Nat) (v : α) : Nat → α := fun j => cond (Nat.beq j k) v (f j)
theorem uI_self {α : Type} (f : Nat → α) (k : Nat) : uI f k (f k) = f := by
  funext j
  unfold uI
  cases h : Nat.beq j k
  · rfl
  · rw [Nat.eq_of_beq_eq_true h]; rfl
theorem uI_at {α : Type} (f : Nat → α) (k : Nat) (v : α) : uI f k v k = v := by
  unfold uI
  rw [Nat.beq_refl]; rfl
theorem uI_uI {α : Type} (f : Nat → α) (k : Nat) (v w : α) : uI (uI f k v) k w = uI f k w := by
  funext j
  unfold uI
  cases h : Nat.beq j k <;> rfl
/-- the world WX with any contents: ints, longs, rows of ints, rows of longs -/
def GX (cI cJ cB cZ : ClassId) (ad : Nat → Nat) (si : Nat → Int32) (sj : Nat → Int64) (ai : Nat → Nat → Int32) (aj : Nat → Nat → Int64) : va_W := WX cI cJ cB cZ ad (D_x := si 0) (Tape_bytes := ai 0) (Tape_size := si 1) (Reader_told := ai 1) (Reader_simplices := si 2) (Reader_place := si 3) (Shape_size := si 4) (Shape_letters := ai 2) (Shape_dims := ai 3) (Shape_numbers := ai 4) (Shape_faces := aj 0) (Shape_cofaces := aj 1) (Shape_ofDim := aj 2) (Pairs_partner := ai 5) (Pairs_there := sj 0) (Pairs_lower := sj 1) (Pairs_upper := sj 2) (Pairs_changes := si 5) (Peel_open := sj 3) (Peel_single := sj 4) (Heights_height := ai 6) (Heights_order := ai 7) (Heights_ordered := si 6) (Heights_measuredAt := si 7) (Flow_value := aj 3) (Flow_ways := aj 4) (Flow_row := ai 8) (Flow_skip := sj 5) (Boundary_torsions := aj 5) (History_partners := ai 9) (History_present := aj 6) (History_size := si 8) (History_next := si 9) (Kept_partners := ai 10) (Kept_filled := sj 6) (Matrix_cells := aj 7) (Matrix_work := aj 8) (Matrix_diagonal := aj 9) (Matrix_rows := si 10) (Matrix_columns := si 11) (Matrix_minor := sj 7)
/-- the world WM with any contents: ints, longs, rows of ints, rows of longs -/
def GM (cI cJ cB cZ : ClassId) (bd : Nat → Nat) (ti : Nat → Int32) (tj : Nat → Int64) (bi : Nat → Nat → Int32) (bj : Nat → Nat → Int64) : va_W := WM cI cJ cB cZ bd (tape := bi 0) (taped := ti 0) (p_ := ti 1) (fault := ti 2) (isTold := bi 1) (many := ti 3) (letters := bi 2) (numberOf := bi 3) (partner := bi 4) (isGone := bi 5) (height := bi 6) (from_ := bi 7) (past := bi 8) (pastMany := ti 4) (isOpen := bi 9) (ways := bj 0) (weight := bj 1) (row := bi 10) (rowMany := ti 5) (reach := bj 2) (chain := bj 3) (isTaken := bi 11) (table := bj 4) (high := ti 6) (wide := ti 7) (steps := bj 5) (x := ti 8) (choice := bi 12) (partnerThen := bi 13) (isKept := bi 14) (kept := bi 15)
theorem dX10_append_0 : decode cX10_append 0 = .ok (.bipush 24, 2) := by decide +kernel
theorem dX10_append_2 : decode cX10_append 2 = .ok (.istore_n 2, 1) := by decide +kernel
theorem dX10_append_3 : decode cX10_append 3 = .ok (.iload_n 2, 1) := by decide +kernel
theorem dX10_append_4 : decode cX10_append 4 = .ok (.ifCond .lt 45, 3) := by decide +kernel
theorem dX10_append_7 : decode cX10_append 7 = .ok (.aload_n 0, 1) := by decide +kernel
theorem dX10_append_8 : decode cX10_append 8 = .ok (.getfield 15, 3) := by decide +kernel
theorem dX10_append_11 : decode cX10_append 11 = .ok (.sipush 160, 3) := by decide +kernel
theorem dX10_append_14 : decode cX10_append 14 = .ok (.if_icmp .ge 35, 3) := by decide +kernel
theorem dX10_append_17 : decode cX10_append 17 = .ok (.aload_n 0, 1) := by decide +kernel
theorem dX10_append_18 : decode cX10_append 18 = .ok (.getfield 9, 3) := by decide +kernel
theorem dX10_append_21 : decode cX10_append 21 = .ok (.aload_n 0, 1) := by decide +kernel
theorem dX10_append_22 : decode cX10_append 22 = .ok (.getfield 15, 3) := by decide +kernel
theorem dX10_append_25 : decode cX10_append 25 = .ok (.iload_n 1, 1) := by decide +kernel
theorem dX10_append_26 : decode cX10_append 26 = .ok (.iload_n 2, 1) := by decide +kernel
theorem dX10_append_27 : decode cX10_append 27 = .ok (.iushr, 1) := by decide +kernel
theorem dX10_append_28 : decode cX10_append 28 = .ok (.sipush 255, 3) := by decide +kernel
theorem dX10_append_31 : decode cX10_append 31 = .ok (.iand, 1) := by decide +kernel
theorem dX10_append_32 : decode cX10_append 32 = .ok (.iastore, 1) := by decide +kernel
theorem dX10_append_33 : decode cX10_append 33 = .ok (.aload_n 0, 1) := by decide +kernel
theorem dX10_append_34 : decode cX10_append 34 = .ok (.dup, 1) := by decide +kernel
theorem dX10_append_35 : decode cX10_append 35 = .ok (.getfield 15, 3) := by decide +kernel
theorem dX10_append_38 : decode cX10_append 38 = .ok (.iconst 1, 1) := by decide +kernel
theorem dX10_append_39 : decode cX10_append 39 = .ok (.iadd, 1) := by decide +kernel
theorem dX10_append_40 : decode cX10_append 40 = .ok (.putfield 15, 3) := by decide +kernel
theorem dX10_append_43 : decode cX10_append 43 = .ok (.iinc 2 (-8), 3) := by decide +kernel
theorem dX10_append_46 : decode cX10_append 46 = .ok (.goto (-43), 3) := by decide +kernel
theorem dX10_append_49 : decode cX10_append 49 = .ok (.return_, 1) := by decide +kernel
theorem dX11_feed_0 : decode cX11_feed 0 = .ok (.aload_n 0, 1) := by decide +kernel
theorem dX11_feed_1 : decode cX11_feed 1 = .ok (.getfield 10, 3) := by decide +kernel
theorem dX11_feed_4 : decode cX11_feed 4 = .ok (.getfield 87, 3) := by decide +kernel
theorem dX11_feed_7 : decode cX11_feed 7 = .ok (.bipush 20, 2) := by decide +kernel
theorem dX11_feed_9 : decode cX11_feed 9 = .ok (.iadd, 1) := by decide +kernel
theorem dX11_feed_10 : decode cX11_feed 10 = .ok (.sipush 160, 3) := by decide +kernel
theorem dX11_feed_13 : decode cX11_feed 13 = .ok (.if_icmp .le 5, 3) := by decide +kernel
theorem dX11_feed_16 : decode cX11_feed 16 = .ok (.iconst (-1), 1) := by decide +kernel
theorem dX11_feed_17 : decode cX11_feed 17 = .ok (.ireturn, 1) := by decide +kernel
theorem dX11_feed_18 : decode cX11_feed 18 = .ok (.aload_n 0, 1) := by decide +kernel
theorem dX11_feed_19 : decode cX11_feed 19 = .ok (.getfield 10, 3) := by decide +kernel
theorem dX11_feed_22 : decode cX11_feed 22 = .ok (.iload_n 1, 1) := by decide +kernel
theorem dX11_feed_23 : decode cX11_feed 23 = .ok (.invokevirtual 91, 3) := by decide +kernel
theorem dX11_feed_26 : decode cX11_feed 26 = .ok (.aload_n 0, 1) := by decide +kernel
theorem dX11_feed_27 : decode cX11_feed 27 = .ok (.getfield 10, 3) := by decide +kernel
theorem dX11_feed_30 : decode cX11_feed 30 = .ok (.iload_n 2, 1) := by decide +kernel
theorem dX11_feed_31 : decode cX11_feed 31 = .ok (.invokevirtual 91, 3) := by decide +kernel
theorem dX11_feed_34 : decode cX11_feed 34 = .ok (.aload_n 0, 1) := by decide +kernel
theorem dX11_feed_35 : decode cX11_feed 35 = .ok (.getfield 10, 3) := by decide +kernel
theorem dX11_feed_38 : decode cX11_feed 38 = .ok (.iload_n 3, 1) := by decide +kernel
theorem dX11_feed_39 : decode cX11_feed 39 = .ok (.invokevirtual 91, 3) := by decide +kernel
theorem dX11_feed_42 : decode cX11_feed 42 = .ok (.aload_n 0, 1) := by decide +kernel
theorem dX11_feed_43 : decode cX11_feed 43 = .ok (.getfield 10, 3) := by decide +kernel
theorem dX11_feed_46 : decode cX11_feed 46 = .ok (.iload 4, 2) := by decide +kernel
theorem dX11_feed_48 : decode cX11_feed 48 = .ok (.invokevirtual 91, 3) := by decide +kernel
theorem dX11_feed_51 : decode cX11_feed 51 = .ok (.aload_n 0, 1) := by decide +kernel
theorem dX11_feed_52 : decode cX11_feed 52 = .ok (.getfield 10, 3) := by decide +kernel
theorem dX11_feed_55 : decode cX11_feed 55 = .ok (.iload 5, 2) := by decide +kernel
theorem dX11_feed_57 : decode cX11_feed 57 = .ok (.invokevirtual 91, 3) := by decide +kernel
theorem dX11_feed_60 : decode cX11_feed 60 = .ok (.aload_n 0, 1) := by decide +kernel
theorem dX11_feed_61 : decode cX11_feed 61 = .ok (.getfield 10, 3) := by decide +kernel
theorem dX11_feed_64 : decode cX11_feed 64 = .ok (.getfield 87, 3) := by decide +kernel
theorem dX11_feed_67 : decode cX11_feed 67 = .ok (.ireturn, 1) := by decide +kernel
theorem dX11_end_0 : decode cX11_end 0 = .ok (.iload_n 1, 1) := by decide +kernel
theorem dX11_end_1 : decode cX11_end 1 = .ok (.ifCond .lt 14, 3) := by decide +kernel
theorem dX11_end_4 : decode cX11_end 4 = .ok (.iload_n 1, 1) := by decide +kernel
theorem dX11_end_5 : decode cX11_end 5 = .ok (.aload_n 0, 1) := by decide +kernel
theorem dX11_end_6 : decode cX11_end 6 = .ok (.getfield 10, 3) := by decide +kernel
theorem dX11_end_9 : decode cX11_end 9 = .ok (.getfield 87, 3) := by decide +kernel
theorem dX11_end_12 : decode cX11_end 12 = .ok (.if_icmp .le 5, 3) := by decide +kernel
theorem dX11_end_15 : decode cX11_end 15 = .ok (.iconst (-1), 1) := by decide +kernel
theorem dX11_end_16 : decode cX11_end 16 = .ok (.ireturn, 1) := by decide +kernel
theorem dX11_end_17 : decode cX11_end 17 = .ok (.aload_n 0, 1) := by decide +kernel
theorem dX11_end_18 : decode cX11_end 18 = .ok (.getfield 10, 3) := by decide +kernel
theorem dX11_end_21 : decode cX11_end 21 = .ok (.iload_n 1, 1) := by decide +kernel
theorem dX11_end_22 : decode cX11_end 22 = .ok (.putfield 87, 3) := by decide +kernel
theorem dX11_end_25 : decode cX11_end 25 = .ok (.iload_n 1, 1) := by decide +kernel
theorem dX11_end_26 : decode cX11_end 26 = .ok (.ireturn, 1) := by decide +kernel
theorem dX12_feed_0 : decode cX12_feed 0 = .ok (.aload_n 0, 1) := by decide +kernel
theorem dX12_feed_1 : decode cX12_feed 1 = .ok (.getfield 83, 3) := by decide +kernel
theorem dX12_feed_4 : decode cX12_feed 4 = .ok (.bipush 20, 2) := by decide +kernel
theorem dX12_feed_6 : decode cX12_feed 6 = .ok (.iadd, 1) := by decide +kernel
theorem dX12_feed_7 : decode cX12_feed 7 = .ok (.sipush 160, 3) := by decide +kernel
theorem dX12_feed_10 : decode cX12_feed 10 = .ok (.if_icmp .le 5, 3) := by decide +kernel
theorem dX12_feed_13 : decode cX12_feed 13 = .ok (.iconst (-1), 1) := by decide +kernel
theorem dX12_feed_14 : decode cX12_feed 14 = .ok (.ireturn, 1) := by decide +kernel
theorem dX12_feed_15 : decode cX12_feed 15 = .ok (.aload_n 0, 1) := by decide +kernel
theorem dX12_feed_16 : decode cX12_feed 16 = .ok (.iload_n 1, 1) := by decide +kernel
theorem dX12_feed_17 : decode cX12_feed 17 = .ok (.invokevirtual 87, 3) := by decide +kernel
theorem dX12_feed_20 : decode cX12_feed 20 = .ok (.aload_n 0, 1) := by decide +kernel
theorem dX12_feed_21 : decode cX12_feed 21 = .ok (.iload_n 2, 1) := by decide +kernel
theorem dX12_feed_22 : decode cX12_feed 22 = .ok (.invokevirtual 87, 3) := by decide +kernel
theorem dX12_feed_25 : decode cX12_feed 25 = .ok (.aload_n 0, 1) := by decide +kernel
theorem dX12_feed_26 : decode cX12_feed 26 = .ok (.iload_n 3, 1) := by decide +kernel
theorem dX12_feed_27 : decode cX12_feed 27 = .ok (.invokevirtual 87, 3) := by decide +kernel
theorem dX12_feed_30 : decode cX12_feed 30 = .ok (.aload_n 0, 1) := by decide +kernel
theorem dX12_feed_31 : decode cX12_feed 31 = .ok (.iload 4, 2) := by decide +kernel
theorem dX12_feed_33 : decode cX12_feed 33 = .ok (.invokevirtual 87, 3) := by decide +kernel
theorem dX12_feed_36 : decode cX12_feed 36 = .ok (.aload_n 0, 1) := by decide +kernel
theorem dX12_feed_37 : decode cX12_feed 37 = .ok (.iload 5, 2) := by decide +kernel
theorem dX12_feed_39 : decode cX12_feed 39 = .ok (.invokevirtual 87, 3) := by decide +kernel
theorem dX12_feed_42 : decode cX12_feed 42 = .ok (.aload_n 0, 1) := by decide +kernel
theorem dX12_feed_43 : decode cX12_feed 43 = .ok (.getfield 83, 3) := by decide +kernel
theorem dX12_feed_46 : decode cX12_feed 46 = .ok (.ireturn, 1) := by decide +kernel
theorem dX12_puts_0 : decode cX12_puts 0 = .ok (.bipush 24, 2) := by decide +kernel
theorem dX12_puts_2 : decode cX12_puts 2 = .ok (.istore_n 2, 1) := by decide +kernel
theorem dX12_puts_3 : decode cX12_puts 3 = .ok (.iload_n 2, 1) := by decide +kernel
theorem dX12_puts_4 : decode cX12_puts 4 = .ok (.ifCond .lt 32, 3) := by decide +kernel
theorem dX12_puts_7 : decode cX12_puts 7 = .ok (.aload_n 0, 1) := by decide +kernel
theorem dX12_puts_8 : decode cX12_puts 8 = .ok (.getfield 13, 3) := by decide +kernel
theorem dX12_puts_11 : decode cX12_puts 11 = .ok (.aload_n 0, 1) := by decide +kernel
theorem dX12_puts_12 : decode cX12_puts 12 = .ok (.getfield 83, 3) := by decide +kernel
theorem dX12_puts_15 : decode cX12_puts 15 = .ok (.iload_n 1, 1) := by decide +kernel
theorem dX12_puts_16 : decode cX12_puts 16 = .ok (.iload_n 2, 1) := by decide +kernel
theorem dX12_puts_17 : decode cX12_puts 17 = .ok (.ishr, 1) := by decide +kernel
theorem dX12_puts_18 : decode cX12_puts 18 = .ok (.i2b, 1) := by decide +kernel
theorem dX12_puts_19 : decode cX12_puts 19 = .ok (.bastore, 1) := by decide +kernel
theorem dX12_puts_20 : decode cX12_puts 20 = .ok (.aload_n 0, 1) := by decide +kernel
theorem dX12_puts_21 : decode cX12_puts 21 = .ok (.dup, 1) := by decide +kernel
theorem dX12_puts_22 : decode cX12_puts 22 = .ok (.getfield 83, 3) := by decide +kernel
theorem dX12_puts_25 : decode cX12_puts 25 = .ok (.iconst 1, 1) := by decide +kernel
theorem dX12_puts_26 : decode cX12_puts 26 = .ok (.iadd, 1) := by decide +kernel
theorem dX12_puts_27 : decode cX12_puts 27 = .ok (.putfield 83, 3) := by decide +kernel
theorem dX12_puts_30 : decode cX12_puts 30 = .ok (.iinc 2 (-8), 3) := by decide +kernel
theorem dX12_puts_33 : decode cX12_puts 33 = .ok (.goto (-30), 3) := by decide +kernel
theorem dX12_puts_36 : decode cX12_puts 36 = .ok (.return_, 1) := by decide +kernel
theorem dX12_end_0 : decode cX12_end 0 = .ok (.iload_n 1, 1) := by decide +kernel
theorem dX12_end_1 : decode cX12_end 1 = .ok (.ifCond .lt 11, 3) := by decide +kernel
theorem dX12_end_4 : decode cX12_end 4 = .ok (.iload_n 1, 1) := by decide +kernel
theorem dX12_end_5 : decode cX12_end 5 = .ok (.aload_n 0, 1) := by decide +kernel
theorem dX12_end_6 : decode cX12_end 6 = .ok (.getfield 83, 3) := by decide +kernel
theorem dX12_end_9 : decode cX12_end 9 = .ok (.if_icmp .le 5, 3) := by decide +kernel
theorem dX12_end_12 : decode cX12_end 12 = .ok (.iconst (-1), 1) := by decide +kernel
theorem dX12_end_13 : decode cX12_end 13 = .ok (.ireturn, 1) := by decide +kernel
theorem dX12_end_14 : decode cX12_end 14 = .ok (.aload_n 0, 1) := by decide +kernel
theorem dX12_end_15 : decode cX12_end 15 = .ok (.iload_n 1, 1) := by decide +kernel
theorem dX12_end_16 : decode cX12_end 16 = .ok (.putfield 83, 3) := by decide +kernel
theorem dX12_end_19 : decode cX12_end 19 = .ok (.iload_n 1, 1) := by decide +kernel
theorem dX12_end_20 : decode cX12_end 20 = .ok (.ireturn, 1) := by decide +kernel
set_option maxRecDepth 20000 in
theorem ggX11_feed_X10_append : GoodIn wsX11_feed wsX10_append := goodIn_r _ [7, 8, 9, 21, 22] (by decide +kernel) (by decide +kernel)
set_option maxRecDepth 20000 in
theorem gX11_feed_X10_append : GoodIn wsX11_feed (wsV RX11 91 RX10 yX10_append wsX10_append) := goodIn_app (goodIn_of _ (by decide +kernel)) ggX11_feed_X10_append
set_option maxRecDepth 20000 in
theorem ggX12_feed_X12_puts : GoodIn wsX12_feed wsX12_puts := goodIn_r _ [6, 7, 1, 8, 9, 10, 11, 12, 13, 14, 15, 16, 17, 18, 19, 20, 21, 22, 23, 24, 25, 26, 27, 28, 29, 30, 31, 32, 33, 34, 35, 36, 37, 38] (by decide +kernel) (by decide +kernel)
set_option maxRecDepth 20000 in
theorem gX12_feed_X12_puts : GoodIn wsX12_feed (wsV RX12 87 RX12 yX12_puts wsX12_puts) := goodIn_app (goodIn_of _ (by decide +kernel)) ggX12_feed_X12_puts
set_option maxHeartbeats 4000000 in
set_option maxRecDepth 100000 in
theorem gk_append (l : Launch) (D : va_G) (cI cJ cB cZ : ClassId) (ad : Nat → Nat) (si : Nat → Int32) (sj : Nat → Int64) (ai : Nat → Nat → Int32) (aj : Nat → Nat → Int64) (n : Nat) (hn : n ≤ 156) (p1 : Int32) : MetV l yX10_append wsX10_append 0 0 0 0 D (TYS cI cJ cB cZ) (GX cI cJ cB cZ ad (uI si 1 (nI n)) sj ai aj) [.ref (ad 1), .int p1] (fun _ : (Nat → Int32) => True) (fun u : (Nat → Int32) => (GX cI cJ cB cZ ad (uI si 1 (nI (n + 4))) sj (uI ai 0 u) aj)) := by
  refine x_startV (ty := .int) (cc := cX10_append) (by decide) rfl (Nat.le_of_ble_eq_true rfl) ?_
  intro p e s m args below meth c A ls B hr hnm h hl
  have hx := B.1.1
  have hb := B.1.2.1
  have hin10 : ∀ w ∈ u_ws RX10 TX10 2, w ∈ wsX10_append := by decide +kernel
  have hl : lv_has ls 3 [(0, .ref (ad 1)), (1, .int p1)] := hl
  refine lv_bipush (v := 24) hx hb dX10_append_0 (by decide) ?_
  refine lv_istore_n (lv' := [(2, .int 24), (0, .ref (ad 1)), (1, .int p1)]) hx hb dX10_append_2 rfl hl (by decide) rfl (fun ls hl => ?_)
  refine lv_iload_n hx hb dX10_append_3 rfl (lv_at hl 0 rfl) ?_
  refine lv_if_lt (tgt := 49) hx hb dX10_append_4 (by decide) (fun c_1 => absurd c_1 (by decide)) (fun c_1 => ?_)
  refine lv_aload_n hx hb dX10_append_7 rfl (lv_at hl 1 rfl) ?_
  refine x_get (ci := 10) (C := RX10) (T := TX10) (N := 2) (v := .int (nI n)) B h hin10 1 1 rfl rfl (by decide) (by decide +kernel) rfl dX10_append_8 ?_
  refine lv_sipush (v := 160) hx hb dX10_append_11 (by decide) ?_
  refine lv_icmp_ge (tgt := 49) hx hb dX10_append_14 (by decide) (fun c_2 => absurd (show nI 160 ≤ nI n from c_2) (nI_ge (a := n) (b := 160) (by omega) (by omega))) (fun c_2 => ?_)
  refine lv_aload_n hx hb dX10_append_17 rfl (lv_at hl 1 rfl) ?_
  refine x_get (ci := 10) (C := RX10) (T := TX10) (N := 2) (v := .ref (ad 12)) B h hin10 1 0 rfl rfl (by decide) (by decide +kernel) rfl dX10_append_18 ?_
  refine lv_aload_n hx hb dX10_append_21 rfl (lv_at hl 1 rfl) ?_
  refine x_get (ci := 10) (C := RX10) (T := TX10) (N := 2) (v := .int (nI n)) B h hin10 1 1 rfl rfl (by decide) (by decide +kernel) rfl dX10_append_22 ?_
  refine lv_iload_n hx hb dX10_append_25 rfl (lv_at hl 2 rfl) ?_
  refine lv_iload_n hx hb dX10_append_26 rfl (lv_at hl 0 rfl) ?_
  refine lv_iushr hx hb dX10_append_27 rfl ?_
  refine lv_topi (fun v_3 _ => ?_)
  refine lv_sipush (v := 255) hx hb dX10_append_28 (by decide) ?_
  refine lv_iand hx hb dX10_append_31 ?_
  refine lv_topi (fun v_4 _ => ?_)
  refine x_iast B h 12 0 rfl rfl (vp_in_nI (show n < 160 by omega) (by decide)) dX10_append_32 (fun H locs f_5 h => ?_)
  have h : Hp D A s.heap (GX cI cJ cB cZ ad (uI si 1 (nI n)) sj (uI ai 0 f_5) aj) H locs := h
  refine lv_aload_n hx hb dX10_append_33 rfl (lv_at hl 1 rfl) ?_
  refine lv_dup hx hb dX10_append_34 rfl ?_
  refine x_get (ci := 10) (C := RX10) (T := TX10) (N := 2) (v := .int (nI n)) B h hin10 1 1 rfl rfl (by decide) (by decide +kernel) rfl dX10_append_35 ?_
  refine lv_iconst (v := 1) hx hb dX10_append_38 (by decide) ?_
  refine lv_iadd hx hb dX10_append_39 ?_
  refine lv_topi (fun v_6 ev_6 => ?_)
  obtain rfl : v_6 = nI (n + 1) := ev_6.trans (nI_add n 1)
  refine x_put (ci := 10) (C := RX10) (T := TX10) (N := 2) (v := .int (nI (n + 1))) (ty := .int) B h hin10 tyX10 tyX10_ok nmX10 1 1 rfl rfl (by decide) (by decide +kernel) rfl rfl rfl rfl (Nat.le_of_ble_eq_true rfl) dX10_append_40 (fun H locs h => ?_)
  have h : Hp D A s.heap (GX cI cJ cB cZ ad (uI si 1 (nI (n + 1))) sj (uI ai 0 f_5) aj) H locs := h
  refine lv_iinc (v := 16) (lv' := [(2, .int 16), (0, .ref (ad 1)), (1, .int p1)]) hx hb dX10_append_43 hl (k := 0) rfl (by decide) (by decide) rfl (fun ls hl => ?_)
  refine lv_goto (tgt := 3) hx hb dX10_append_46 (by decide) ?_
  refine lv_iload_n hx hb dX10_append_3 rfl (lv_at hl 0 rfl) ?_
  refine lv_if_lt (tgt := 49) hx hb dX10_append_4 (by decide) (fun c_7 => absurd c_7 (by decide)) (fun c_7 => ?_)
  refine lv_aload_n hx hb dX10_append_7 rfl (lv_at hl 1 rfl) ?_
  refine x_get (ci := 10) (C := RX10) (T := TX10) (N := 2) (v := .int (nI (n + 1))) B h hin10 1 1 rfl rfl (by decide) (by decide +kernel) rfl dX10_append_8 ?_
  refine lv_sipush (v := 160) hx hb dX10_append_11 (by decide) ?_
  refine lv_icmp_ge (tgt := 49) hx hb dX10_append_14 (by decide) (fun c_8 => absurd (show nI 160 ≤ nI (n + 1) from c_8) (nI_ge (a := (n + 1)) (b := 160) (by omega) (by omega))) (fun c_8 => ?_)
  refine lv_aload_n hx hb dX10_append_17 rfl (lv_at hl 1 rfl) ?_
  refine x_get (ci := 10) (C := RX10) (T := TX10) (N := 2) (v := .ref (ad 12)) B h hin10 1 0 rfl rfl (by decide) (by decide +kernel) rfl dX10_append_18 ?_
  refine lv_aload_n hx hb dX10_append_21 rfl (lv_at hl 1 rfl) ?_
  refine x_get (ci := 10) (C := RX10) (T := TX10) (N := 2) (v := .int (nI (n + 1))) B h hin10 1 1 rfl rfl (by decide) (by decide +kernel) rfl dX10_append_22 ?_
  refine lv_iload_n hx hb dX10_append_25 rfl (lv_at hl 2 rfl) ?_
  refine lv_iload_n hx hb dX10_append_26 rfl (lv_at hl 0 rfl) ?_
  refine lv_iushr hx hb dX10_append_27 rfl ?_
  refine lv_topi (fun v_9 _ => ?_)
  refine lv_sipush (v := 255) hx hb dX10_append_28 (by decide) ?_
  refine lv_iand hx hb dX10_append_31 ?_
  refine lv_topi (fun v_10 _ => ?_)
  refine x_iast B h 12 0 rfl rfl (vp_in_nI (show n + 1 < 160 by omega) (by decide)) dX10_append_32 (fun H locs f_11 h => ?_)
  have h : Hp D A s.heap (GX cI cJ cB cZ ad (uI si 1 (nI (n + 1))) sj (uI ai 0 f_11) aj) H locs := h
  refine lv_aload_n hx hb dX10_append_33 rfl (lv_at hl 1 rfl) ?_
  refine lv_dup hx hb dX10_append_34 rfl ?_
  refine x_get (ci := 10) (C := RX10) (T := TX10) (N := 2) (v := .int (nI (n + 1))) B h hin10 1 1 rfl rfl (by decide) (by decide +kernel) rfl dX10_append_35 ?_
  refine lv_iconst (v := 1) hx hb dX10_append_38 (by decide) ?_
  refine lv_iadd hx hb dX10_append_39 ?_
  refine lv_topi (fun v_12 ev_12 => ?_)
  obtain rfl : v_12 = nI (n + 2) := ev_12.trans (nI_add (n + 1) 1)
  refine x_put (ci := 10) (C := RX10) (T := TX10) (N := 2) (v := .int (nI (n + 2))) (ty := .int) B h hin10 tyX10 tyX10_ok nmX10 1 1 rfl rfl (by decide) (by decide +kernel) rfl rfl rfl rfl (Nat.le_of_ble_eq_true rfl) dX10_append_40 (fun H locs h => ?_)
  have h : Hp D A s.heap (GX cI cJ cB cZ ad (uI si 1 (nI (n + 2))) sj (uI ai 0 f_11) aj) H locs := h
  refine lv_iinc (v := 8) (lv' := [(2, .int 8), (0, .ref (ad 1)), (1, .int p1)]) hx hb dX10_append_43 hl (k := 0) rfl (by decide) (by decide) rfl (fun ls hl => ?_)
  refine lv_goto (tgt := 3) hx hb dX10_append_46 (by decide) ?_
  refine lv_iload_n hx hb dX10_append_3 rfl (lv_at hl 0 rfl) ?_
  refine lv_if_lt (tgt := 49) hx hb dX10_append_4 (by decide) (fun c_13 => absurd c_13 (by decide)) (fun c_13 => ?_)
  refine lv_aload_n hx hb dX10_append_7 rfl (lv_at hl 1 rfl) ?_
  refine x_get (ci := 10) (C := RX10) (T := TX10) (N := 2) (v := .int (nI (n + 2))) B h hin10 1 1 rfl rfl (by decide) (by decide +kernel) rfl dX10_append_8 ?_
  refine lv_sipush (v := 160) hx hb dX10_append_11 (by decide) ?_
  refine lv_icmp_ge (tgt := 49) hx hb dX10_append_14 (by decide) (fun c_14 => absurd (show nI 160 ≤ nI (n + 2) from c_14) (nI_ge (a := (n + 2)) (b := 160) (by omega) (by omega))) (fun c_14 => ?_)
  refine lv_aload_n hx hb dX10_append_17 rfl (lv_at hl 1 rfl) ?_
  refine x_get (ci := 10) (C := RX10) (T := TX10) (N := 2) (v := .ref (ad 12)) B h hin10 1 0 rfl rfl (by decide) (by decide +kernel) rfl dX10_append_18 ?_
  refine lv_aload_n hx hb dX10_append_21 rfl (lv_at hl 1 rfl) ?_
  refine x_get (ci := 10) (C := RX10) (T := TX10) (N := 2) (v := .int (nI (n + 2))) B h hin10 1 1 rfl rfl (by decide) (by decide +kernel) rfl dX10_append_22 ?_
  refine lv_iload_n hx hb dX10_append_25 rfl (lv_at hl 2 rfl) ?_
  refine lv_iload_n hx hb dX10_append_26 rfl (lv_at hl 0 rfl) ?_
  refine lv_iushr hx hb dX10_append_27 rfl ?_
  refine lv_topi (fun v_15 _ => ?_)
  refine lv_sipush (v := 255) hx hb dX10_append_28 (by decide) ?_
  refine lv_iand hx hb dX10_append_31 ?_
  refine lv_topi (fun v_16 _ => ?_)
  refine x_iast B h 12 0 rfl rfl (vp_in_nI (show n + 2 < 160 by omega) (by decide)) dX10_append_32 (fun H locs f_17 h => ?_)
  have h : Hp D A s.heap (GX cI cJ cB cZ ad (uI si 1 (nI (n + 2))) sj (uI ai 0 f_17) aj) H locs := h
  refine lv_aload_n hx hb dX10_append_33 rfl (lv_at hl 1 rfl) ?_
  refine lv_dup hx hb dX10_append_34 rfl ?_
  refine x_get (ci := 10) (C := RX10) (T := TX10) (N := 2) (v := .int (nI (n + 2))) B h hin10 1 1 rfl rfl (by decide) (by decide +kernel) rfl dX10_append_35 ?_
  refine lv_iconst (v := 1) hx hb dX10_append_38 (by decide) ?_
  refine lv_iadd hx hb dX10_append_39 ?_
  refine lv_topi (fun v_18 ev_18 => ?_)
  obtain rfl : v_18 = nI (n + 3) := ev_18.trans (nI_add (n + 2) 1)
  refine x_put (ci := 10) (C := RX10) (T := TX10) (N := 2) (v := .int (nI (n + 3))) (ty := .int) B h hin10 tyX10 tyX10_ok nmX10 1 1 rfl rfl (by decide) (by decide +kernel) rfl rfl rfl rfl (Nat.le_of_ble_eq_true rfl) dX10_append_40 (fun H locs h => ?_)
  have h : Hp D A s.heap (GX cI cJ cB cZ ad (uI si 1 (nI (n + 3))) sj (uI ai 0 f_17) aj) H locs := h
  refine lv_iinc (v := 0) (lv' := [(2, .int 0), (0, .ref (ad 1)), (1, .int p1)]) hx hb dX10_append_43 hl (k := 0) rfl (by decide) (by decide) rfl (fun ls hl => ?_)
  refine lv_goto (tgt := 3) hx hb dX10_append_46 (by decide) ?_
  refine lv_iload_n hx hb dX10_append_3 rfl (lv_at hl 0 rfl) ?_
  refine lv_if_lt (tgt := 49) hx hb dX10_append_4 (by decide) (fun c_19 => absurd c_19 (by decide)) (fun c_19 => ?_)
  refine lv_aload_n hx hb dX10_append_7 rfl (lv_at hl 1 rfl) ?_
  refine x_get (ci := 10) (C := RX10) (T := TX10) (N := 2) (v := .int (nI (n + 3))) B h hin10 1 1 rfl rfl (by decide) (by decide +kernel) rfl dX10_append_8 ?_
  refine lv_sipush (v := 160) hx hb dX10_append_11 (by decide) ?_
  refine lv_icmp_ge (tgt := 49) hx hb dX10_append_14 (by decide) (fun c_20 => absurd (show nI 160 ≤ nI (n + 3) from c_20) (nI_ge (a := (n + 3)) (b := 160) (by omega) (by omega))) (fun c_20 => ?_)
  refine lv_aload_n hx hb dX10_append_17 rfl (lv_at hl 1 rfl) ?_
  refine x_get (ci := 10) (C := RX10) (T := TX10) (N := 2) (v := .ref (ad 12)) B h hin10 1 0 rfl rfl (by decide) (by decide +kernel) rfl dX10_append_18 ?_
  refine lv_aload_n hx hb dX10_append_21 rfl (lv_at hl 1 rfl) ?_
  refine x_get (ci := 10) (C := RX10) (T := TX10) (N := 2) (v := .int (nI (n + 3))) B h hin10 1 1 rfl rfl (by decide) (by decide +kernel) rfl dX10_append_22 ?_
  refine lv_iload_n hx hb dX10_append_25 rfl (lv_at hl 2 rfl) ?_
  refine lv_iload_n hx hb dX10_append_26 rfl (lv_at hl 0 rfl) ?_
  refine lv_iushr hx hb dX10_append_27 rfl ?_
  refine lv_topi (fun v_21 _ => ?_)
  refine lv_sipush (v := 255) hx hb dX10_append_28 (by decide) ?_
  refine lv_iand hx hb dX10_append_31 ?_
  refine lv_topi (fun v_22 _ => ?_)
  refine x_iast B h 12 0 rfl rfl (vp_in_nI (show n + 3 < 160 by omega) (by decide)) dX10_append_32 (fun H locs f_23 h => ?_)
  have h : Hp D A s.heap (GX cI cJ cB cZ ad (uI si 1 (nI (n + 3))) sj (uI ai 0 f_23) aj) H locs := h
  refine lv_aload_n hx hb dX10_append_33 rfl (lv_at hl 1 rfl) ?_
  refine lv_dup hx hb dX10_append_34 rfl ?_
  refine x_get (ci := 10) (C := RX10) (T := TX10) (N := 2) (v := .int (nI (n + 3))) B h hin10 1 1 rfl rfl (by decide) (by decide +kernel) rfl dX10_append_35 ?_
  refine lv_iconst (v := 1) hx hb dX10_append_38 (by decide) ?_
  refine lv_iadd hx hb dX10_append_39 ?_
  refine lv_topi (fun v_24 ev_24 => ?_)
  obtain rfl : v_24 = nI (n + 4) := ev_24.trans (nI_add (n + 3) 1)
  refine x_put (ci := 10) (C := RX10) (T := TX10) (N := 2) (v := .int (nI (n + 4))) (ty := .int) B h hin10 tyX10 tyX10_ok nmX10 1 1 rfl rfl (by decide) (by decide +kernel) rfl rfl rfl rfl (Nat.le_of_ble_eq_true rfl) dX10_append_40 (fun H locs h => ?_)
  have h : Hp D A s.heap (GX cI cJ cB cZ ad (uI si 1 (nI (n + 4))) sj (uI ai 0 f_23) aj) H locs := h
  refine lv_iinc (v := (-8)) (lv' := [(2, .int (-8)), (0, .ref (ad 1)), (1, .int p1)]) hx hb dX10_append_43 hl (k := 0) rfl (by decide) (by decide) rfl (fun ls hl => ?_)
  refine lv_goto (tgt := 3) hx hb dX10_append_46 (by decide) ?_
  refine lv_iload_n hx hb dX10_append_3 rfl (lv_at hl 0 rfl) ?_
  refine lv_if_lt (tgt := 49) hx hb dX10_append_4 (by decide) (fun c_25 => ?_) (fun c_25 => absurd c_25 (by decide))
  exact x_vret (w1 := (fun u : (Nat → Int32) => (GX cI cJ cB cZ ad (uI si 1 (nI (n + 4))) sj (uI ai 0 u) aj))) f_23 B h hr trivial dX10_append_49
set_option maxHeartbeats 4000000 in
set_option maxRecDepth 100000 in
theorem gk_puts (l : Launch) (D : va_G) (cI cJ cB cZ : ClassId) (bd : Nat → Nat) (ti : Nat → Int32) (tj : Nat → Int64) (bi : Nat → Nat → Int32) (bj : Nat → Nat → Int64) (n : Nat) (hn : n ≤ 156) (p1 : Int32) : MetV l yX12_puts wsX12_puts 0 0 0 0 D (TYS cI cJ cB cZ) (GM cI cJ cB cZ bd (uI ti 0 (nI n)) tj bi bj) [.ref (bd 0), .int p1] (fun _ : (Nat → Int32) => True) (fun u : (Nat → Int32) => (GM cI cJ cB cZ bd (uI ti 0 (nI (n + 4))) tj (uI bi 0 u) bj)) := by
  refine x_startV (ty := .int) (cc := cX12_puts) (by decide) rfl (Nat.le_of_ble_eq_true rfl) ?_
  intro p e s m args below meth c A ls B hr hnm h hl
  have hx := B.1.1
  have hb := B.1.2.1
  have hin12 : ∀ w ∈ u_ws RX12 TX12 31, w ∈ wsX12_puts := by decide +kernel
  have hl : lv_has ls 3 [(0, .ref (bd 0)), (1, .int p1)] := hl
  refine lv_bipush (v := 24) hx hb dX12_puts_0 (by decide) ?_
  refine lv_istore_n (lv' := [(2, .int 24), (0, .ref (bd 0)), (1, .int p1)]) hx hb dX12_puts_2 rfl hl (by decide) rfl (fun ls hl => ?_)
  refine lv_iload_n hx hb dX12_puts_3 rfl (lv_at hl 0 rfl) ?_
  refine lv_if_lt (tgt := 36) hx hb dX12_puts_4 (by decide) (fun c_1 => absurd c_1 (by decide)) (fun c_1 => ?_)
  refine lv_aload_n hx hb dX12_puts_7 rfl (lv_at hl 1 rfl) ?_
  refine x_get (ci := 12) (C := RX12) (T := TX12) (N := 31) (v := .ref (bd 1)) B h hin12 0 0 rfl rfl (by decide) (by decide +kernel) rfl dX12_puts_8 ?_
  refine lv_aload_n hx hb dX12_puts_11 rfl (lv_at hl 1 rfl) ?_
  refine x_get (ci := 12) (C := RX12) (T := TX12) (N := 31) (v := .int (nI n)) B h hin12 0 1 rfl rfl (by decide) (by decide +kernel) rfl dX12_puts_12 ?_
  refine lv_iload_n hx hb dX12_puts_15 rfl (lv_at hl 2 rfl) ?_
  refine lv_iload_n hx hb dX12_puts_16 rfl (lv_at hl 0 rfl) ?_
  refine lv_ishr hx hb dX12_puts_17 ?_
  refine lv_topi (fun v_2 _ => ?_)
  refine lv_i2b hx hb dX12_puts_18 rfl ?_
  refine lv_topi (fun v_3 _ => ?_)
  refine x_bast B h 1 2 rfl rfl (vp_in_nI (show n < 160 by omega) (by decide)) dX12_puts_19 (fun H locs f_4 h => ?_)
  have h : Hp D A s.heap (GM cI cJ cB cZ bd (uI ti 0 (nI n)) tj (uI bi 0 f_4) bj) H locs := h
  refine lv_aload_n hx hb dX12_puts_20 rfl (lv_at hl 1 rfl) ?_
  refine lv_dup hx hb dX12_puts_21 rfl ?_
  refine x_get (ci := 12) (C := RX12) (T := TX12) (N := 31) (v := .int (nI n)) B h hin12 0 1 rfl rfl (by decide) (by decide +kernel) rfl dX12_puts_22 ?_
  refine lv_iconst (v := 1) hx hb dX12_puts_25 (by decide) ?_
  refine lv_iadd hx hb dX12_puts_26 ?_
  refine lv_topi (fun v_5 ev_5 => ?_)
  obtain rfl : v_5 = nI (n + 1) := ev_5.trans (nI_add n 1)
  refine x_put (ci := 12) (C := RX12) (T := TX12) (N := 31) (v := .int (nI (n + 1))) (ty := .int) B h hin12 tyX12 tyX12_ok nmX12 0 1 rfl rfl (by decide) (by decide +kernel) rfl rfl rfl rfl (Nat.le_of_ble_eq_true rfl) dX12_puts_27 (fun H locs h => ?_)
  have h : Hp D A s.heap (GM cI cJ cB cZ bd (uI ti 0 (nI (n + 1))) tj (uI bi 0 f_4) bj) H locs := h
  refine lv_iinc (v := 16) (lv' := [(2, .int 16), (0, .ref (bd 0)), (1, .int p1)]) hx hb dX12_puts_30 hl (k := 0) rfl (by decide) (by decide) rfl (fun ls hl => ?_)
  refine lv_goto (tgt := 3) hx hb dX12_puts_33 (by decide) ?_
  refine lv_iload_n hx hb dX12_puts_3 rfl (lv_at hl 0 rfl) ?_
  refine lv_if_lt (tgt := 36) hx hb dX12_puts_4 (by decide) (fun c_6 => absurd c_6 (by decide)) (fun c_6 => ?_)
  refine lv_aload_n hx hb dX12_puts_7 rfl (lv_at hl 1 rfl) ?_
  refine x_get (ci := 12) (C := RX12) (T := TX12) (N := 31) (v := .ref (bd 1)) B h hin12 0 0 rfl rfl (by decide) (by decide +kernel) rfl dX12_puts_8 ?_
  refine lv_aload_n hx hb dX12_puts_11 rfl (lv_at hl 1 rfl) ?_
  refine x_get (ci := 12) (C := RX12) (T := TX12) (N := 31) (v := .int (nI (n + 1))) B h hin12 0 1 rfl rfl (by decide) (by decide +kernel) rfl dX12_puts_12 ?_
  refine lv_iload_n hx hb dX12_puts_15 rfl (lv_at hl 2 rfl) ?_
  refine lv_iload_n hx hb dX12_puts_16 rfl (lv_at hl 0 rfl) ?_
  refine lv_ishr hx hb dX12_puts_17 ?_
  refine lv_topi (fun v_7 _ => ?_)
  refine lv_i2b hx hb dX12_puts_18 rfl ?_
  refine lv_topi (fun v_8 _ => ?_)
  refine x_bast B h 1 2 rfl rfl (vp_in_nI (show n + 1 < 160 by omega) (by decide)) dX12_puts_19 (fun H locs f_9 h => ?_)
  have h : Hp D A s.heap (GM cI cJ cB cZ bd (uI ti 0 (nI (n + 1))) tj (uI bi 0 f_9) bj) H locs := h
  refine lv_aload_n hx hb dX12_puts_20 rfl (lv_at hl 1 rfl) ?_
  refine lv_dup hx hb dX12_puts_21 rfl ?_
  refine x_get (ci := 12) (C := RX12) (T := TX12) (N := 31) (v := .int (nI (n + 1))) B h hin12 0 1 rfl rfl (by decide) (by decide +kernel) rfl dX12_puts_22 ?_
  refine lv_iconst (v := 1) hx hb dX12_puts_25 (by decide) ?_
  refine lv_iadd hx hb dX12_puts_26 ?_
  refine lv_topi (fun v_10 ev_10 => ?_)
  obtain rfl : v_10 = nI (n + 2) := ev_10.trans (nI_add (n + 1) 1)
  refine x_put (ci := 12) (C := RX12) (T := TX12) (N := 31) (v := .int (nI (n + 2))) (ty := .int) B h hin12 tyX12 tyX12_ok nmX12 0 1 rfl rfl (by decide) (by decide +kernel) rfl rfl rfl rfl (Nat.le_of_ble_eq_true rfl) dX12_puts_27 (fun H locs h => ?_)
  have h : Hp D A s.heap (GM cI cJ cB cZ bd (uI ti 0 (nI (n + 2))) tj (uI bi 0 f_9) bj) H locs := h
  refine lv_iinc (v := 8) (lv' := [(2, .int 8), (0, .ref (bd 0)), (1, .int p1)]) hx hb dX12_puts_30 hl (k := 0) rfl (by decide) (by decide) rfl (fun ls hl => ?_)
  refine lv_goto (tgt := 3) hx hb dX12_puts_33 (by decide) ?_
  refine lv_iload_n hx hb dX12_puts_3 rfl (lv_at hl 0 rfl) ?_
  refine lv_if_lt (tgt := 36) hx hb dX12_puts_4 (by decide) (fun c_11 => absurd c_11 (by decide)) (fun c_11 => ?_)
  refine lv_aload_n hx hb dX12_puts_7 rfl (lv_at hl 1 rfl) ?_
  refine x_get (ci := 12) (C := RX12) (T := TX12) (N := 31) (v := .ref (bd 1)) B h hin12 0 0 rfl rfl (by decide) (by decide +kernel) rfl dX12_puts_8 ?_
  refine lv_aload_n hx hb dX12_puts_11 rfl (lv_at hl 1 rfl) ?_
  refine x_get (ci := 12) (C := RX12) (T := TX12) (N := 31) (v := .int (nI (n + 2))) B h hin12 0 1 rfl rfl (by decide) (by decide +kernel) rfl dX12_puts_12 ?_
  refine lv_iload_n hx hb dX12_puts_15 rfl (lv_at hl 2 rfl) ?_
  refine lv_iload_n hx hb dX12_puts_16 rfl (lv_at hl 0 rfl) ?_
  refine lv_ishr hx hb dX12_puts_17 ?_
  refine lv_topi (fun v_12 _ => ?_)
  refine lv_i2b hx hb dX12_puts_18 rfl ?_
  refine lv_topi (fun v_13 _ => ?_)
  refine x_bast B h 1 2 rfl rfl (vp_in_nI (show n + 2 < 160 by omega) (by decide)) dX12_puts_19 (fun H locs f_14 h => ?_)
  have h : Hp D A s.heap (GM cI cJ cB cZ bd (uI ti 0 (nI (n + 2))) tj (uI bi 0 f_14) bj) H locs := h
  refine lv_aload_n hx hb dX12_puts_20 rfl (lv_at hl 1 rfl) ?_
  refine lv_dup hx hb dX12_puts_21 rfl ?_
  refine x_get (ci := 12) (C := RX12) (T := TX12) (N := 31) (v := .int (nI (n + 2))) B h hin12 0 1 rfl rfl (by decide) (by decide +kernel) rfl dX12_puts_22 ?_
  refine lv_iconst (v := 1) hx hb dX12_puts_25 (by decide) ?_
  refine lv_iadd hx hb dX12_puts_26 ?_
  refine lv_topi (fun v_15 ev_15 => ?_)
  obtain rfl : v_15 = nI (n + 3) := ev_15.trans (nI_add (n + 2) 1)
  refine x_put (ci := 12) (C := RX12) (T := TX12) (N := 31) (v := .int (nI (n + 3))) (ty := .int) B h hin12 tyX12 tyX12_ok nmX12 0 1 rfl rfl (by decide) (by decide +kernel) rfl rfl rfl rfl (Nat.le_of_ble_eq_true rfl) dX12_puts_27 (fun H locs h => ?_)
  have h : Hp D A s.heap (GM cI cJ cB cZ bd (uI ti 0 (nI (n + 3))) tj (uI bi 0 f_14) bj) H locs := h
  refine lv_iinc (v := 0) (lv' := [(2, .int 0), (0, .ref (bd 0)), (1, .int p1)]) hx hb dX12_puts_30 hl (k := 0) rfl (by decide) (by decide) rfl (fun ls hl => ?_)
  refine lv_goto (tgt := 3) hx hb dX12_puts_33 (by decide) ?_
  refine lv_iload_n hx hb dX12_puts_3 rfl (lv_at hl 0 rfl) ?_
  refine lv_if_lt (tgt := 36) hx hb dX12_puts_4 (by decide) (fun c_16 => absurd c_16 (by decide)) (fun c_16 => ?_)
  refine lv_aload_n hx hb dX12_puts_7 rfl (lv_at hl 1 rfl) ?_
  refine x_get (ci := 12) (C := RX12) (T := TX12) (N := 31) (v := .ref (bd 1)) B h hin12 0 0 rfl rfl (by decide) (by decide +kernel) rfl dX12_puts_8 ?_
  refine lv_aload_n hx hb dX12_puts_11 rfl (lv_at hl 1 rfl) ?_
  refine x_get (ci := 12) (C := RX12) (T := TX12) (N := 31) (v := .int (nI (n + 3))) B h hin12 0 1 rfl rfl (by decide) (by decide +kernel) rfl dX12_puts_12 ?_
  refine lv_iload_n hx hb dX12_puts_15 rfl (lv_at hl 2 rfl) ?_
  refine lv_iload_n hx hb dX12_puts_16 rfl (lv_at hl 0 rfl) ?_
  refine lv_ishr hx hb dX12_puts_17 ?_
  refine lv_topi (fun v_17 _ => ?_)
  refine lv_i2b hx hb dX12_puts_18 rfl ?_
  refine lv_topi (fun v_18 _ => ?_)
  refine x_bast B h 1 2 rfl rfl (vp_in_nI (show n + 3 < 160 by omega) (by decide)) dX12_puts_19 (fun H locs f_19 h => ?_)
  have h : Hp D A s.heap (GM cI cJ cB cZ bd (uI ti 0 (nI (n + 3))) tj (uI bi 0 f_19) bj) H locs := h
  refine lv_aload_n hx hb dX12_puts_20 rfl (lv_at hl 1 rfl) ?_
  refine lv_dup hx hb dX12_puts_21 rfl ?_
  refine x_get (ci := 12) (C := RX12) (T := TX12) (N := 31) (v := .int (nI (n + 3))) B h hin12 0 1 rfl rfl (by decide) (by decide +kernel) rfl dX12_puts_22 ?_
  refine lv_iconst (v := 1) hx hb dX12_puts_25 (by decide) ?_
  refine lv_iadd hx hb dX12_puts_26 ?_
  refine lv_topi (fun v_20 ev_20 => ?_)
  obtain rfl : v_20 = nI (n + 4) := ev_20.trans (nI_add (n + 3) 1)
  refine x_put (ci := 12) (C := RX12) (T := TX12) (N := 31) (v := .int (nI (n + 4))) (ty := .int) B h hin12 tyX12 tyX12_ok nmX12 0 1 rfl rfl (by decide) (by decide +kernel) rfl rfl rfl rfl (Nat.le_of_ble_eq_true rfl) dX12_puts_27 (fun H locs h => ?_)
  have h : Hp D A s.heap (GM cI cJ cB cZ bd (uI ti 0 (nI (n + 4))) tj (uI bi 0 f_19) bj) H locs := h
  refine lv_iinc (v := (-8)) (lv' := [(2, .int (-8)), (0, .ref (bd 0)), (1, .int p1)]) hx hb dX12_puts_30 hl (k := 0) rfl (by decide) (by decide) rfl (fun ls hl => ?_)
  refine lv_goto (tgt := 3) hx hb dX12_puts_33 (by decide) ?_
  refine lv_iload_n hx hb dX12_puts_3 rfl (lv_at hl 0 rfl) ?_
  refine lv_if_lt (tgt := 36) hx hb dX12_puts_4 (by decide) (fun c_21 => ?_) (fun c_21 => absurd c_21 (by decide))
  exact x_vret (w1 := (fun u : (Nat → Int32) => (GM cI cJ cB cZ bd (uI ti 0 (nI (n + 4))) tj (uI bi 0 u) bj))) f_19 B h hr trivial dX12_puts_36
set_option maxHeartbeats 4000000 in
set_option maxRecDepth 100000 in
theorem gk_feedX (l : Launch) (D : va_G) (cI cJ cB cZ : ClassId) (ad : Nat → Nat) (si : Nat → Int32) (sj : Nat → Int64) (ai : Nat → Nat → Int32) (aj : Nat → Nat → Int64) (n : Nat) (hn : n + 20 ≤ 160) (p1 p2 p3 p4 p5 : Int32) : MetI l yX11_feed wsX11_feed 1 22 0 0 D (TYS cI cJ cB cZ) (GX cI cJ cB cZ ad (uI si 1 (nI n)) sj ai aj) [.ref (ad 0), .int p1, .int p2, .int p3, .int p4, .int p5] (fun (r : Int32) (_ : (Nat → Int32)) => r = (nI (n + 20))) (fun u : (Nat → Int32) => (GX cI cJ cB cZ ad (uI si 1 (nI (n + 20))) sj (uI ai 0 u) aj)) := by
  refine x_startI (ty := .int) (cc := cX11_feed) (by decide) rfl (Nat.le_of_ble_eq_true rfl) ?_
  intro p e s m args below meth c A ls B hr hnm h hl
  have hx := B.1.1
  have hb := B.1.2.1
  have hin10 : ∀ w ∈ u_ws RX10 TX10 2, w ∈ wsX11_feed := by decide +kernel
  have hin11 : ∀ w ∈ u_ws RX11 TX11 11, w ∈ wsX11_feed := by decide +kernel
  have hl : lv_has ls 6 [(0, .ref (ad 0)), (1, .int p1), (2, .int p2), (3, .int p3), (4, .int p4), (5, .int p5)] := hl
  refine lv_aload_n hx hb dX11_feed_0 rfl (lv_at hl 0 rfl) ?_
  refine x_get (ci := 11) (C := RX11) (T := TX11) (N := 11) (v := .ref (ad 1)) B h hin11 0 0 rfl rfl (by decide) (by decide +kernel) rfl dX11_feed_1 ?_
  refine x_get (ci := 10) (C := RX10) (T := TX10) (N := 2) (v := .int (nI n)) B h hin10 1 1 rfl rfl (by decide) (by decide +kernel) rfl dX11_feed_4 ?_
  refine lv_bipush (v := 20) hx hb dX11_feed_7 (by decide) ?_
  refine lv_iadd hx hb dX11_feed_9 ?_
  refine lv_topi (fun v_1 ev_1 => ?_)
  obtain rfl : v_1 = nI (n + 20) := ev_1.trans (nI_add n 20)
  refine lv_sipush (v := 160) hx hb dX11_feed_10 (by decide) ?_
  refine lv_icmp_le (tgt := 18) hx hb dX11_feed_13 (by decide) (fun c_2 => ?_) (fun c_2 => absurd (show nI (n + 20) ≤ nI 160 from nI_le (by omega) (by omega)) c_2)
  refine lv_aload_n hx hb dX11_feed_18 rfl (lv_at hl 0 rfl) ?_
  refine x_get (ci := 11) (C := RX11) (T := TX11) (N := 11) (v := .ref (ad 1)) B h hin11 0 0 rfl rfl (by decide) (by decide +kernel) rfl dX11_feed_19 ?_
  refine lv_iload_n hx hb dX11_feed_22 rfl (lv_at hl 1 rfl) ?_
  refine x_cVVF (n := 1) (As := [.int p1]) (rest := []) B h (gk_append l D cI cJ cB cZ ad si sj ai aj n (by omega) p1) ⟨⟨_, rfl⟩, by decide +kernel, Nat.le_of_ble_eq_true rfl, Nat.le_of_ble_eq_true rfl⟩ gX11_feed_X10_append (show ((GX cI cJ cB cZ ad (uI si 1 (nI n)) sj ai aj) : va_W)[1]? = some (_, .inr (10, _)) from rfl) rfl rfl hl.1 rfl (Nat.le_of_ble_eq_true rfl) dX11_feed_23 ⟨Nat.le_of_ble_eq_true rfl, Nat.le_of_ble_eq_true rfl⟩ (fun u_3 H locs hp_3 h => ?_)
  have h : Hp D A s.heap (GX cI cJ cB cZ ad (uI si 1 (nI (n + 4))) sj (uI ai 0 u_3) aj) H locs := h
  refine lv_aload_n hx hb dX11_feed_26 rfl (lv_at hl 0 rfl) ?_
  refine x_get (ci := 11) (C := RX11) (T := TX11) (N := 11) (v := .ref (ad 1)) B h hin11 0 0 rfl rfl (by decide) (by decide +kernel) rfl dX11_feed_27 ?_
  refine lv_iload_n hx hb dX11_feed_30 rfl (lv_at hl 2 rfl) ?_
  refine x_cVVF (n := 1) (As := [.int p2]) (rest := []) B h (gk_append l D cI cJ cB cZ ad si sj (uI ai 0 u_3) aj (n + 4) (by omega) p2) ⟨⟨_, rfl⟩, by decide +kernel, Nat.le_of_ble_eq_true rfl, Nat.le_of_ble_eq_true rfl⟩ gX11_feed_X10_append (show ((GX cI cJ cB cZ ad (uI si 1 (nI (n + 4))) sj (uI ai 0 u_3) aj) : va_W)[1]? = some (_, .inr (10, _)) from rfl) rfl rfl hl.1 rfl (Nat.le_of_ble_eq_true rfl) dX11_feed_31 ⟨Nat.le_of_ble_eq_true rfl, Nat.le_of_ble_eq_true rfl⟩ (fun u_4 H locs hp_4 h => ?_)
  have h : Hp D A s.heap (GX cI cJ cB cZ ad (uI si 1 (nI (n + 8))) sj (uI ai 0 u_4) aj) H locs := h
  refine lv_aload_n hx hb dX11_feed_34 rfl (lv_at hl 0 rfl) ?_
  refine x_get (ci := 11) (C := RX11) (T := TX11) (N := 11) (v := .ref (ad 1)) B h hin11 0 0 rfl rfl (by decide) (by decide +kernel) rfl dX11_feed_35 ?_
  refine lv_iload_n hx hb dX11_feed_38 rfl (lv_at hl 3 rfl) ?_
  refine x_cVVF (n := 1) (As := [.int p3]) (rest := []) B h (gk_append l D cI cJ cB cZ ad si sj (uI ai 0 u_4) aj (n + 8) (by omega) p3) ⟨⟨_, rfl⟩, by decide +kernel, Nat.le_of_ble_eq_true rfl, Nat.le_of_ble_eq_true rfl⟩ gX11_feed_X10_append (show ((GX cI cJ cB cZ ad (uI si 1 (nI (n + 8))) sj (uI ai 0 u_4) aj) : va_W)[1]? = some (_, .inr (10, _)) from rfl) rfl rfl hl.1 rfl (Nat.le_of_ble_eq_true rfl) dX11_feed_39 ⟨Nat.le_of_ble_eq_true rfl, Nat.le_of_ble_eq_true rfl⟩ (fun u_5 H locs hp_5 h => ?_)
  have h : Hp D A s.heap (GX cI cJ cB cZ ad (uI si 1 (nI (n + 12))) sj (uI ai 0 u_5) aj) H locs := h
  refine lv_aload_n hx hb dX11_feed_42 rfl (lv_at hl 0 rfl) ?_
  refine x_get (ci := 11) (C := RX11) (T := TX11) (N := 11) (v := .ref (ad 1)) B h hin11 0 0 rfl rfl (by decide) (by decide +kernel) rfl dX11_feed_43 ?_
  refine lv_iload hx hb dX11_feed_46 (lv_at hl 4 rfl) ?_
  refine x_cVVF (n := 1) (As := [.int p4]) (rest := []) B h (gk_append l D cI cJ cB cZ ad si sj (uI ai 0 u_5) aj (n + 12) (by omega) p4) ⟨⟨_, rfl⟩, by decide +kernel, Nat.le_of_ble_eq_true rfl, Nat.le_of_ble_eq_true rfl⟩ gX11_feed_X10_append (show ((GX cI cJ cB cZ ad (uI si 1 (nI (n + 12))) sj (uI ai 0 u_5) aj) : va_W)[1]? = some (_, .inr (10, _)) from rfl) rfl rfl hl.1 rfl (Nat.le_of_ble_eq_true rfl) dX11_feed_48 ⟨Nat.le_of_ble_eq_true rfl, Nat.le_of_ble_eq_true rfl⟩ (fun u_6 H locs hp_6 h => ?_)
  have h : Hp D A s.heap (GX cI cJ cB cZ ad (uI si 1 (nI (n + 16))) sj (uI ai 0 u_6) aj) H locs := h
  refine lv_aload_n hx hb dX11_feed_51 rfl (lv_at hl 0 rfl) ?_
  refine x_get (ci := 11) (C := RX11) (T := TX11) (N := 11) (v := .ref (ad 1)) B h hin11 0 0 rfl rfl (by decide) (by decide +kernel) rfl dX11_feed_52 ?_
  refine lv_iload hx hb dX11_feed_55 (lv_at hl 5 rfl) ?_
  refine x_cVVF (n := 1) (As := [.int p5]) (rest := []) B h (gk_append l D cI cJ cB cZ ad si sj (uI ai 0 u_6) aj (n + 16) (by omega) p5) ⟨⟨_, rfl⟩, by decide +kernel, Nat.le_of_ble_eq_true rfl, Nat.le_of_ble_eq_true rfl⟩ gX11_feed_X10_append (show ((GX cI cJ cB cZ ad (uI si 1 (nI (n + 16))) sj (uI ai 0 u_6) aj) : va_W)[1]? = some (_, .inr (10, _)) from rfl) rfl rfl hl.1 rfl (Nat.le_of_ble_eq_true rfl) dX11_feed_57 ⟨Nat.le_of_ble_eq_true rfl, Nat.le_of_ble_eq_true rfl⟩ (fun u_7 H locs hp_7 h => ?_)
  have h : Hp D A s.heap (GX cI cJ cB cZ ad (uI si 1 (nI (n + 20))) sj (uI ai 0 u_7) aj) H locs := h
  refine lv_aload_n hx hb dX11_feed_60 rfl (lv_at hl 0 rfl) ?_
  refine x_get (ci := 11) (C := RX11) (T := TX11) (N := 11) (v := .ref (ad 1)) B h hin11 0 0 rfl rfl (by decide) (by decide +kernel) rfl dX11_feed_61 ?_
  refine x_get (ci := 10) (C := RX10) (T := TX10) (N := 2) (v := .int (nI (n + 20))) B h hin10 1 1 rfl rfl (by decide) (by decide +kernel) rfl dX11_feed_64 ?_
  exact x_iret (w1 := (fun u : (Nat → Int32) => (GX cI cJ cB cZ ad (uI si 1 (nI (n + 20))) sj (uI ai 0 u) aj))) u_7 B h hr rfl rfl dX11_feed_67
set_option maxHeartbeats 4000000 in
set_option maxRecDepth 100000 in
theorem gk_feedX_no (l : Launch) (D : va_G) (cI cJ cB cZ : ClassId) (ad : Nat → Nat) (si : Nat → Int32) (sj : Nat → Int64) (ai : Nat → Nat → Int32) (aj : Nat → Nat → Int64) (n : Nat) (hn : 160 < n + 20) (hm : n ≤ 160) (p1 p2 p3 p4 p5 : Int32) : MetI l yX11_feed wsX11_feed 0 0 0 0 D (TYS cI cJ cB cZ) (GX cI cJ cB cZ ad (uI si 1 (nI n)) sj ai aj) [.ref (ad 0), .int p1, .int p2, .int p3, .int p4, .int p5] (fun (r : Int32) (_ : Unit) => r = (-1)) (fun _ : Unit => (GX cI cJ cB cZ ad (uI si 1 (nI n)) sj ai aj)) := by
  refine x_startI (ty := .int) (cc := cX11_feed) (by decide) rfl (Nat.le_of_ble_eq_true rfl) ?_
  intro p e s m args below meth c A ls B hr hnm h hl
  have hx := B.1.1
  have hb := B.1.2.1
  have hin10 : ∀ w ∈ u_ws RX10 TX10 2, w ∈ wsX11_feed := by decide +kernel
  have hin11 : ∀ w ∈ u_ws RX11 TX11 11, w ∈ wsX11_feed := by decide +kernel
  have hl : lv_has ls 6 [(0, .ref (ad 0)), (1, .int p1), (2, .int p2), (3, .int p3), (4, .int p4), (5, .int p5)] := hl
  refine lv_aload_n hx hb dX11_feed_0 rfl (lv_at hl 0 rfl) ?_
  refine x_get (ci := 11) (C := RX11) (T := TX11) (N := 11) (v := .ref (ad 1)) B h hin11 0 0 rfl rfl (by decide) (by decide +kernel) rfl dX11_feed_1 ?_
  refine x_get (ci := 10) (C := RX10) (T := TX10) (N := 2) (v := .int (nI n)) B h hin10 1 1 rfl rfl (by decide) (by decide +kernel) rfl dX11_feed_4 ?_
  refine lv_bipush (v := 20) hx hb dX11_feed_7 (by decide) ?_
  refine lv_iadd hx hb dX11_feed_9 ?_
  refine lv_topi (fun v_1 ev_1 => ?_)
  obtain rfl : v_1 = nI (n + 20) := ev_1.trans (nI_add n 20)
  refine lv_sipush (v := 160) hx hb dX11_feed_10 (by decide) ?_
  refine lv_icmp_le (tgt := 18) hx hb dX11_feed_13 (by decide) (fun c_2 => absurd (show nI (n + 20) ≤ nI 160 from c_2) (nI_ge (a := 160) (b := (n + 20)) (by omega) (by omega))) (fun c_2 => ?_)
  refine lv_iconst (v := (-1)) hx hb dX11_feed_16 (by decide) ?_
  exact x_iret (w1 := (fun _ : Unit => (GX cI cJ cB cZ ad (uI si 1 (nI n)) sj ai aj))) () B h hr rfl rfl dX11_feed_17
set_option maxHeartbeats 4000000 in
set_option maxRecDepth 100000 in
theorem gk_feedM (l : Launch) (D : va_G) (cI cJ cB cZ : ClassId) (bd : Nat → Nat) (ti : Nat → Int32) (tj : Nat → Int64) (bi : Nat → Nat → Int32) (bj : Nat → Nat → Int64) (n : Nat) (hn : n + 20 ≤ 160) (p1 p2 p3 p4 p5 : Int32) : MetI l yX12_feed wsX12_feed 1 22 0 0 D (TYS cI cJ cB cZ) (GM cI cJ cB cZ bd (uI ti 0 (nI n)) tj bi bj) [.ref (bd 0), .int p1, .int p2, .int p3, .int p4, .int p5] (fun (r : Int32) (_ : (Nat → Int32)) => r = (nI (n + 20))) (fun u : (Nat → Int32) => (GM cI cJ cB cZ bd (uI ti 0 (nI (n + 20))) tj (uI bi 0 u) bj)) := by
  refine x_startI (ty := .int) (cc := cX12_feed) (by decide) rfl (Nat.le_of_ble_eq_true rfl) ?_
  intro p e s m args below meth c A ls B hr hnm h hl
  have hx := B.1.1
  have hb := B.1.2.1
  have hin12 : ∀ w ∈ u_ws RX12 TX12 31, w ∈ wsX12_feed := by decide +kernel
  have hl : lv_has ls 6 [(0, .ref (bd 0)), (1, .int p1), (2, .int p2), (3, .int p3), (4, .int p4), (5, .int p5)] := hl
  refine lv_aload_n hx hb dX12_feed_0 rfl (lv_at hl 0 rfl) ?_
  refine x_get (ci := 12) (C := RX12) (T := TX12) (N := 31) (v := .int (nI n)) B h hin12 0 1 rfl rfl (by decide) (by decide +kernel) rfl dX12_feed_1 ?_
  refine lv_bipush (v := 20) hx hb dX12_feed_4 (by decide) ?_
  refine lv_iadd hx hb dX12_feed_6 ?_
  refine lv_topi (fun v_1 ev_1 => ?_)
  obtain rfl : v_1 = nI (n + 20) := ev_1.trans (nI_add n 20)
  refine lv_sipush (v := 160) hx hb dX12_feed_7 (by decide) ?_
  refine lv_icmp_le (tgt := 15) hx hb dX12_feed_10 (by decide) (fun c_2 => ?_) (fun c_2 => absurd (show nI (n + 20) ≤ nI 160 from nI_le (by omega) (by omega)) c_2)
  refine lv_aload_n hx hb dX12_feed_15 rfl (lv_at hl 0 rfl) ?_
  refine lv_iload_n hx hb dX12_feed_16 rfl (lv_at hl 1 rfl) ?_
  refine x_cVVF (n := 1) (As := [.int p1]) (rest := []) B h (gk_puts l D cI cJ cB cZ bd ti tj bi bj n (by omega) p1) ⟨⟨_, rfl⟩, by decide +kernel, Nat.le_of_ble_eq_true rfl, Nat.le_of_ble_eq_true rfl⟩ gX12_feed_X12_puts (show ((GM cI cJ cB cZ bd (uI ti 0 (nI n)) tj bi bj) : va_W)[0]? = some (_, .inr (12, _)) from rfl) rfl rfl hl.1 rfl (Nat.le_of_ble_eq_true rfl) dX12_feed_17 ⟨Nat.le_of_ble_eq_true rfl, Nat.le_of_ble_eq_true rfl⟩ (fun u_3 H locs hp_3 h => ?_)
  have h : Hp D A s.heap (GM cI cJ cB cZ bd (uI ti 0 (nI (n + 4))) tj (uI bi 0 u_3) bj) H locs := h
  refine lv_aload_n hx hb dX12_feed_20 rfl (lv_at hl 0 rfl) ?_
  refine lv_iload_n hx hb dX12_feed_21 rfl (lv_at hl 2 rfl) ?_
  refine x_cVVF (n := 1) (As := [.int p2]) (rest := []) B h (gk_puts l D cI cJ cB cZ bd ti tj (uI bi 0 u_3) bj (n + 4) (by omega) p2) ⟨⟨_, rfl⟩, by decide +kernel, Nat.le_of_ble_eq_true rfl, Nat.le_of_ble_eq_true rfl⟩ gX12_feed_X12_puts (show ((GM cI cJ cB cZ bd (uI ti 0 (nI (n + 4))) tj (uI bi 0 u_3) bj) : va_W)[0]? = some (_, .inr (12, _)) from rfl) rfl rfl hl.1 rfl (Nat.le_of_ble_eq_true rfl) dX12_feed_22 ⟨Nat.le_of_ble_eq_true rfl, Nat.le_of_ble_eq_true rfl⟩ (fun u_4 H locs hp_4 h => ?_)
  have h : Hp D A s.heap (GM cI cJ cB cZ bd (uI ti 0 (nI (n + 8))) tj (uI bi 0 u_4) bj) H locs := h
  refine lv_aload_n hx hb dX12_feed_25 rfl (lv_at hl 0 rfl) ?_
  refine lv_iload_n hx hb dX12_feed_26 rfl (lv_at hl 3 rfl) ?_
  refine x_cVVF (n := 1) (As := [.int p3]) (rest := []) B h (gk_puts l D cI cJ cB cZ bd ti tj (uI bi 0 u_4) bj (n + 8) (by omega) p3) ⟨⟨_, rfl⟩, by decide +kernel, Nat.le_of_ble_eq_true rfl, Nat.le_of_ble_eq_true rfl⟩ gX12_feed_X12_puts (show ((GM cI cJ cB cZ bd (uI ti 0 (nI (n + 8))) tj (uI bi 0 u_4) bj) : va_W)[0]? = some (_, .inr (12, _)) from rfl) rfl rfl hl.1 rfl (Nat.le_of_ble_eq_true rfl) dX12_feed_27 ⟨Nat.le_of_ble_eq_true rfl, Nat.le_of_ble_eq_true rfl⟩ (fun u_5 H locs hp_5 h => ?_)
  have h : Hp D A s.heap (GM cI cJ cB cZ bd (uI ti 0 (nI (n + 12))) tj (uI bi 0 u_5) bj) H locs := h
  refine lv_aload_n hx hb dX12_feed_30 rfl (lv_at hl 0 rfl) ?_
  refine lv_iload hx hb dX12_feed_31 (lv_at hl 4 rfl) ?_
  refine x_cVVF (n := 1) (As := [.int p4]) (rest := []) B h (gk_puts l D cI cJ cB cZ bd ti tj (uI bi 0 u_5) bj (n + 12) (by omega) p4) ⟨⟨_, rfl⟩, by decide +kernel, Nat.le_of_ble_eq_true rfl, Nat.le_of_ble_eq_true rfl⟩ gX12_feed_X12_puts (show ((GM cI cJ cB cZ bd (uI ti 0 (nI (n + 12))) tj (uI bi 0 u_5) bj) : va_W)[0]? = some (_, .inr (12, _)) from rfl) rfl rfl hl.1 rfl (Nat.le_of_ble_eq_true rfl) dX12_feed_33 ⟨Nat.le_of_ble_eq_true rfl, Nat.le_of_ble_eq_true rfl⟩ (fun u_6 H locs hp_6 h => ?_)
  have h : Hp D A s.heap (GM cI cJ cB cZ bd (uI ti 0 (nI (n + 16))) tj (uI bi 0 u_6) bj) H locs := h
  refine lv_aload_n hx hb dX12_feed_36 rfl (lv_at hl 0 rfl) ?_
  refine lv_iload hx hb dX12_feed_37 (lv_at hl 5 rfl) ?_
  refine x_cVVF (n := 1) (As := [.int p5]) (rest := []) B h (gk_puts l D cI cJ cB cZ bd ti tj (uI bi 0 u_6) bj (n + 16) (by omega) p5) ⟨⟨_, rfl⟩, by decide +kernel, Nat.le_of_ble_eq_true rfl, Nat.le_of_ble_eq_true rfl⟩ gX12_feed_X12_puts (show ((GM cI cJ cB cZ bd (uI ti 0 (nI (n + 16))) tj (uI bi 0 u_6) bj) : va_W)[0]? = some (_, .inr (12, _)) from rfl) rfl rfl hl.1 rfl (Nat.le_of_ble_eq_true rfl) dX12_feed_39 ⟨Nat.le_of_ble_eq_true rfl, Nat.le_of_ble_eq_true rfl⟩ (fun u_7 H locs hp_7 h => ?_)
  have h : Hp D A s.heap (GM cI cJ cB cZ bd (uI ti 0 (nI (n + 20))) tj (uI bi 0 u_7) bj) H locs := h
  refine lv_aload_n hx hb dX12_feed_42 rfl (lv_at hl 0 rfl) ?_
  refine x_get (ci := 12) (C := RX12) (T := TX12) (N := 31) (v := .int (nI (n + 20))) B h hin12 0 1 rfl rfl (by decide) (by decide +kernel) rfl dX12_feed_43 ?_
  exact x_iret (w1 := (fun u : (Nat → Int32) => (GM cI cJ cB cZ bd (uI ti 0 (nI (n + 20))) tj (uI bi 0 u) bj))) u_7 B h hr rfl rfl dX12_feed_46
set_option maxHeartbeats 4000000 in
set_option maxRecDepth 100000 in
theorem gk_feedM_no (l : Launch) (D : va_G) (cI cJ cB cZ : ClassId) (bd : Nat → Nat) (ti : Nat → Int32) (tj : Nat → Int64) (bi : Nat → Nat → Int32) (bj : Nat → Nat → Int64) (n : Nat) (hn : 160 < n + 20) (hm : n ≤ 160) (p1 p2 p3 p4 p5 : Int32) : MetI l yX12_feed wsX12_feed 0 0 0 0 D (TYS cI cJ cB cZ) (GM cI cJ cB cZ bd (uI ti 0 (nI n)) tj bi bj) [.ref (bd 0), .int p1, .int p2, .int p3, .int p4, .int p5] (fun (r : Int32) (_ : Unit) => r = (-1)) (fun _ : Unit => (GM cI cJ cB cZ bd (uI ti 0 (nI n)) tj bi bj)) := by
  refine x_startI (ty := .int) (cc := cX12_feed) (by decide) rfl (Nat.le_of_ble_eq_true rfl) ?_
  intro p e s m args below meth c A ls B hr hnm h hl
  have hx := B.1.1
  have hb := B.1.2.1
  have hin12 : ∀ w ∈ u_ws RX12 TX12 31, w ∈ wsX12_feed := by decide +kernel
  have hl : lv_has ls 6 [(0, .ref (bd 0)), (1, .int p1), (2, .int p2), (3, .int p3), (4, .int p4), (5, .int p5)] := hl
  refine lv_aload_n hx hb dX12_feed_0 rfl (lv_at hl 0 rfl) ?_
  refine x_get (ci := 12) (C := RX12) (T := TX12) (N := 31) (v := .int (nI n)) B h hin12 0 1 rfl rfl (by decide) (by decide +kernel) rfl dX12_feed_1 ?_
  refine lv_bipush (v := 20) hx hb dX12_feed_4 (by decide) ?_
  refine lv_iadd hx hb dX12_feed_6 ?_
  refine lv_topi (fun v_1 ev_1 => ?_)
  obtain rfl : v_1 = nI (n + 20) := ev_1.trans (nI_add n 20)
  refine lv_sipush (v := 160) hx hb dX12_feed_7 (by decide) ?_
  refine lv_icmp_le (tgt := 15) hx hb dX12_feed_10 (by decide) (fun c_2 => absurd (show nI (n + 20) ≤ nI 160 from c_2) (nI_ge (a := 160) (b := (n + 20)) (by omega) (by omega))) (fun c_2 => ?_)
  refine lv_iconst (v := (-1)) hx hb dX12_feed_13 (by decide) ?_
  exact x_iret (w1 := (fun _ : Unit => (GM cI cJ cB cZ bd (uI ti 0 (nI n)) tj bi bj))) () B h hr rfl rfl dX12_feed_14
set_option maxHeartbeats 4000000 in
set_option maxRecDepth 100000 in
theorem gk_endX_neg (l : Launch) (D : va_G) (cI cJ cB cZ : ClassId) (ad : Nat → Nat) (si : Nat → Int32) (sj : Nat → Int64) (ai : Nat → Nat → Int32) (aj : Nat → Nat → Int64) (n : Nat) (hn : n ≤ 160) (p1 : Int32) (hp : p1 < 0) : MetI l yX11_end wsX11_end 0 0 0 0 D (TYS cI cJ cB cZ) (GX cI cJ cB cZ ad (uI si 1 (nI n)) sj ai aj) [.ref (ad 0), .int p1] (fun (r : Int32) (_ : Unit) => r = (-1)) (fun _ : Unit => (GX cI cJ cB cZ ad (uI si 1 (nI n)) sj ai aj)) := by
  refine x_startI (ty := .int) (cc := cX11_end) (by decide) rfl (Nat.le_of_ble_eq_true rfl) ?_
  intro p e s m args below meth c A ls B hr hnm h hl
  have hx := B.1.1
  have hb := B.1.2.1
  have hl : lv_has ls 2 [(0, .ref (ad 0)), (1, .int p1)] := hl
  refine lv_iload_n hx hb dX11_end_0 rfl (lv_at hl 1 rfl) ?_
  refine lv_if_lt (tgt := 15) hx hb dX11_end_1 (by decide) (fun c_1 => ?_) (fun c_1 => absurd hp c_1)
  refine lv_iconst (v := (-1)) hx hb dX11_end_15 (by decide) ?_
  exact x_iret (w1 := (fun _ : Unit => (GX cI cJ cB cZ ad (uI si 1 (nI n)) sj ai aj))) () B h hr rfl rfl dX11_end_16
set_option maxHeartbeats 4000000 in
set_option maxRecDepth 100000 in
theorem gk_endX_big (l : Launch) (D : va_G) (cI cJ cB cZ : ClassId) (ad : Nat → Nat) (si : Nat → Int32) (sj : Nat → Int64) (ai : Nat → Nat → Int32) (aj : Nat → Nat → Int64) (n q : Nat) (hn : n ≤ 160) (hq : n < q) (hq2 : q < 2147483648) : MetI l yX11_end wsX11_end 0 0 0 0 D (TYS cI cJ cB cZ) (GX cI cJ cB cZ ad (uI si 1 (nI n)) sj ai aj) [.ref (ad 0), .int (nI q)] (fun (r : Int32) (_ : Unit) => r = (-1)) (fun _ : Unit => (GX cI cJ cB cZ ad (uI si 1 (nI n)) sj ai aj)) := by
  refine x_startI (ty := .int) (cc := cX11_end) (by decide) rfl (Nat.le_of_ble_eq_true rfl) ?_
  intro p e s m args below meth c A ls B hr hnm h hl
  have hx := B.1.1
  have hb := B.1.2.1
  have hin10 : ∀ w ∈ u_ws RX10 TX10 2, w ∈ wsX11_end := by decide +kernel
  have hin11 : ∀ w ∈ u_ws RX11 TX11 11, w ∈ wsX11_end := by decide +kernel
  have hl : lv_has ls 2 [(0, .ref (ad 0)), (1, .int (nI q))] := hl
  refine lv_iload_n hx hb dX11_end_0 rfl (lv_at hl 1 rfl) ?_
  refine lv_if_lt (tgt := 15) hx hb dX11_end_1 (by decide) (fun c_1 => absurd c_1 (nI_pos (by omega))) (fun c_1 => ?_)
  refine lv_iload_n hx hb dX11_end_4 rfl (lv_at hl 1 rfl) ?_
  refine lv_aload_n hx hb dX11_end_5 rfl (lv_at hl 0 rfl) ?_
  refine x_get (ci := 11) (C := RX11) (T := TX11) (N := 11) (v := .ref (ad 1)) B h hin11 0 0 rfl rfl (by decide) (by decide +kernel) rfl dX11_end_6 ?_
  refine x_get (ci := 10) (C := RX10) (T := TX10) (N := 2) (v := .int (nI n)) B h hin10 1 1 rfl rfl (by decide) (by decide +kernel) rfl dX11_end_9 ?_
  refine lv_icmp_le (tgt := 17) hx hb dX11_end_12 (by decide) (fun c_2 => absurd (show nI q ≤ nI n from c_2) (nI_ge (a := n) (b := q) (by omega) (by omega))) (fun c_2 => ?_)
  refine lv_iconst (v := (-1)) hx hb dX11_end_15 (by decide) ?_
  exact x_iret (w1 := (fun _ : Unit => (GX cI cJ cB cZ ad (uI si 1 (nI n)) sj ai aj))) () B h hr rfl rfl dX11_end_16
set_option maxHeartbeats 4000000 in
set_option maxRecDepth 100000 in
theorem gk_endX_ok (l : Launch) (D : va_G) (cI cJ cB cZ : ClassId) (ad : Nat → Nat) (si : Nat → Int32) (sj : Nat → Int64) (ai : Nat → Nat → Int32) (aj : Nat → Nat → Int64) (n q : Nat) (hn : n ≤ 160) (hq : q ≤ n) : MetI l yX11_end wsX11_end 0 0 0 0 D (TYS cI cJ cB cZ) (GX cI cJ cB cZ ad (uI si 1 (nI n)) sj ai aj) [.ref (ad 0), .int (nI q)] (fun (r : Int32) (_ : Unit) => r = (nI q)) (fun _ : Unit => (GX cI cJ cB cZ ad (uI si 1 (nI q)) sj ai aj)) := by
  refine x_startI (ty := .int) (cc := cX11_end) (by decide) rfl (Nat.le_of_ble_eq_true rfl) ?_
  intro p e s m args below meth c A ls B hr hnm h hl
  have hx := B.1.1
  have hb := B.1.2.1
  have hin10 : ∀ w ∈ u_ws RX10 TX10 2, w ∈ wsX11_end := by decide +kernel
  have hin11 : ∀ w ∈ u_ws RX11 TX11 11, w ∈ wsX11_end := by decide +kernel
  have hl : lv_has ls 2 [(0, .ref (ad 0)), (1, .int (nI q))] := hl
  refine lv_iload_n hx hb dX11_end_0 rfl (lv_at hl 1 rfl) ?_
  refine lv_if_lt (tgt := 15) hx hb dX11_end_1 (by decide) (fun c_1 => absurd c_1 (nI_pos (by omega))) (fun c_1 => ?_)
  refine lv_iload_n hx hb dX11_end_4 rfl (lv_at hl 1 rfl) ?_
  refine lv_aload_n hx hb dX11_end_5 rfl (lv_at hl 0 rfl) ?_
  refine x_get (ci := 11) (C := RX11) (T := TX11) (N := 11) (v := .ref (ad 1)) B h hin11 0 0 rfl rfl (by decide) (by decide +kernel) rfl dX11_end_6 ?_
  refine x_get (ci := 10) (C := RX10) (T := TX10) (N := 2) (v := .int (nI n)) B h hin10 1 1 rfl rfl (by decide) (by decide +kernel) rfl dX11_end_9 ?_
  refine lv_icmp_le (tgt := 17) hx hb dX11_end_12 (by decide) (fun c_2 => ?_) (fun c_2 => absurd (show nI q ≤ nI n from nI_le (by omega) (by omega)) c_2)
  refine lv_aload_n hx hb dX11_end_17 rfl (lv_at hl 0 rfl) ?_
  refine x_get (ci := 11) (C := RX11) (T := TX11) (N := 11) (v := .ref (ad 1)) B h hin11 0 0 rfl rfl (by decide) (by decide +kernel) rfl dX11_end_18 ?_
  refine lv_iload_n hx hb dX11_end_21 rfl (lv_at hl 1 rfl) ?_
  refine x_put (ci := 10) (C := RX10) (T := TX10) (N := 2) (v := .int (nI q)) (ty := .int) B h hin10 tyX10 tyX10_ok nmX10 1 1 rfl rfl (by decide) (by decide +kernel) rfl rfl rfl rfl (Nat.le_of_ble_eq_true rfl) dX11_end_22 (fun H locs h => ?_)
  have h : Hp D A s.heap (GX cI cJ cB cZ ad (uI si 1 (nI q)) sj ai aj) H locs := h
  refine lv_iload_n hx hb dX11_end_25 rfl (lv_at hl 1 rfl) ?_
  exact x_iret (w1 := (fun _ : Unit => (GX cI cJ cB cZ ad (uI si 1 (nI q)) sj ai aj))) () B h hr rfl rfl dX11_end_26
set_option maxHeartbeats 4000000 in
set_option maxRecDepth 100000 in
theorem gk_endM_neg (l : Launch) (D : va_G) (cI cJ cB cZ : ClassId) (bd : Nat → Nat) (ti : Nat → Int32) (tj : Nat → Int64) (bi : Nat → Nat → Int32) (bj : Nat → Nat → Int64) (n : Nat) (hn : n ≤ 160) (p1 : Int32) (hp : p1 < 0) : MetI l yX12_end wsX12_end 0 0 0 0 D (TYS cI cJ cB cZ) (GM cI cJ cB cZ bd (uI ti 0 (nI n)) tj bi bj) [.ref (bd 0), .int p1] (fun (r : Int32) (_ : Unit) => r = (-1)) (fun _ : Unit => (GM cI cJ cB cZ bd (uI ti 0 (nI n)) tj bi bj)) := by
  refine x_startI (ty := .int) (cc := cX12_end) (by decide) rfl (Nat.le_of_ble_eq_true rfl) ?_
  intro p e s m args below meth c A ls B hr hnm h hl
  have hx := B.1.1
  have hb := B.1.2.1
  have hl : lv_has ls 2 [(0, .ref (bd 0)), (1, .int p1)] := hl
  refine lv_iload_n hx hb dX12_end_0 rfl (lv_at hl 1 rfl) ?_
  refine lv_if_lt (tgt := 12) hx hb dX12_end_1 (by decide) (fun c_1 => ?_) (fun c_1 => absurd hp c_1)
  refine lv_iconst (v := (-1)) hx hb dX12_end_12 (by decide) ?_
  exact x_iret (w1 := (fun _ : Unit => (GM cI cJ cB cZ bd (uI ti 0 (nI n)) tj bi bj))) () B h hr rfl rfl dX12_end_13
set_option maxHeartbeats 4000000 in
set_option maxRecDepth 100000 in
theorem gk_endM_big (l : Launch) (D : va_G) (cI cJ cB cZ : ClassId) (bd : Nat → Nat) (ti : Nat → Int32) (tj : Nat → Int64) (bi : Nat → Nat → Int32) (bj : Nat → Nat → Int64) (n q : Nat) (hn : n ≤ 160) (hq : n < q) (hq2 : q < 2147483648) : MetI l yX12_end wsX12_end 0 0 0 0 D (TYS cI cJ cB cZ) (GM cI cJ cB cZ bd (uI ti 0 (nI n)) tj bi bj) [.ref (bd 0), .int (nI q)] (fun (r : Int32) (_ : Unit) => r = (-1)) (fun _ : Unit => (GM cI cJ cB cZ bd (uI ti 0 (nI n)) tj bi bj)) := by
  refine x_startI (ty := .int) (cc := cX12_end) (by decide) rfl (Nat.le_of_ble_eq_true rfl) ?_
  intro p e s m args below meth c A ls B hr hnm h hl
  have hx := B.1.1
  have hb := B.1.2.1
  have hin12 : ∀ w ∈ u_ws RX12 TX12 31, w ∈ wsX12_end := by decide +kernel
  have hl : lv_has ls 2 [(0, .ref (bd 0)), (1, .int (nI q))] := hl
  refine lv_iload_n hx hb dX12_end_0 rfl (lv_at hl 1 rfl) ?_
  refine lv_if_lt (tgt := 12) hx hb dX12_end_1 (by decide) (fun c_1 => absurd c_1 (nI_pos (by omega))) (fun c_1 => ?_)
  refine lv_iload_n hx hb dX12_end_4 rfl (lv_at hl 1 rfl) ?_
  refine lv_aload_n hx hb dX12_end_5 rfl (lv_at hl 0 rfl) ?_
  refine x_get (ci := 12) (C := RX12) (T := TX12) (N := 31) (v := .int (nI n)) B h hin12 0 1 rfl rfl (by decide) (by decide +kernel) rfl dX12_end_6 ?_
  refine lv_icmp_le (tgt := 14) hx hb dX12_end_9 (by decide) (fun c_2 => absurd (show nI q ≤ nI n from c_2) (nI_ge (a := n) (b := q) (by omega) (by omega))) (fun c_2 => ?_)
  refine lv_iconst (v := (-1)) hx hb dX12_end_12 (by decide) ?_
  exact x_iret (w1 := (fun _ : Unit => (GM cI cJ cB cZ bd (uI ti 0 (nI n)) tj bi bj))) () B h hr rfl rfl dX12_end_13
set_option maxHeartbeats 4000000 in
set_option maxRecDepth 100000 in
theorem gk_endM_ok (l : Launch) (D : va_G) (cI cJ cB cZ : ClassId) (bd : Nat → Nat) (ti : Nat → Int32) (tj : Nat → Int64) (bi : Nat → Nat → Int32) (bj : Nat → Nat → Int64) (n q : Nat) (hn : n ≤ 160) (hq : q ≤ n) : MetI l yX12_end wsX12_end 0 0 0 0 D (TYS cI cJ cB cZ) (GM cI cJ cB cZ bd (uI ti 0 (nI n)) tj bi bj) [.ref (bd 0), .int (nI q)] (fun (r : Int32) (_ : Unit) => r = (nI q)) (fun _ : Unit => (GM cI cJ cB cZ bd (uI ti 0 (nI q)) tj bi bj)) := by
  refine x_startI (ty := .int) (cc := cX12_end) (by decide) rfl (Nat.le_of_ble_eq_true rfl) ?_
  intro p e s m args below meth c A ls B hr hnm h hl
  have hx := B.1.1
  have hb := B.1.2.1
  have hin12 : ∀ w ∈ u_ws RX12 TX12 31, w ∈ wsX12_end := by decide +kernel
  have hl : lv_has ls 2 [(0, .ref (bd 0)), (1, .int (nI q))] := hl
  refine lv_iload_n hx hb dX12_end_0 rfl (lv_at hl 1 rfl) ?_
  refine lv_if_lt (tgt := 12) hx hb dX12_end_1 (by decide) (fun c_1 => absurd c_1 (nI_pos (by omega))) (fun c_1 => ?_)
  refine lv_iload_n hx hb dX12_end_4 rfl (lv_at hl 1 rfl) ?_
  refine lv_aload_n hx hb dX12_end_5 rfl (lv_at hl 0 rfl) ?_
  refine x_get (ci := 12) (C := RX12) (T := TX12) (N := 31) (v := .int (nI n)) B h hin12 0 1 rfl rfl (by decide) (by decide +kernel) rfl dX12_end_6 ?_
  refine lv_icmp_le (tgt := 14) hx hb dX12_end_9 (by decide) (fun c_2 => ?_) (fun c_2 => absurd (show nI q ≤ nI n from nI_le (by omega) (by omega)) c_2)
  refine lv_aload_n hx hb dX12_end_14 rfl (lv_at hl 0 rfl) ?_
  refine lv_iload_n hx hb dX12_end_15 rfl (lv_at hl 1 rfl) ?_
  refine x_put (ci := 12) (C := RX12) (T := TX12) (N := 31) (v := .int (nI q)) (ty := .int) B h hin12 tyX12 tyX12_ok nmX12 0 1 rfl rfl (by decide) (by decide +kernel) rfl rfl rfl rfl (Nat.le_of_ble_eq_true rfl) dX12_end_16 (fun H locs h => ?_)
  have h : Hp D A s.heap (GM cI cJ cB cZ bd (uI ti 0 (nI q)) tj bi bj) H locs := h
  refine lv_iload_n hx hb dX12_end_19 rfl (lv_at hl 1 rfl) ?_
  exact x_iret (w1 := (fun _ : Unit => (GM cI cJ cB cZ bd (uI ti 0 (nI q)) tj bi bj))) () B h hr rfl rfl dX12_end_20
