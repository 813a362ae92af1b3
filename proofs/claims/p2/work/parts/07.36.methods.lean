def wbX6_below_0 (rec : Nat → XT → (Nat → Int32) → (Nat → Int64) → (Int64 → XT → Prop) → Prop) (k : Nat) (t : XT) (li : Nat → Int32) (lj : Nat → Int64) (Q : Int64 → XT → Prop) : Prop :=
  (vp_in (li 1) 64 ∧ (∀ v_1 : Int32, v_1 = (t.2.2.1 5) (li 1).toNatClampNeg → ((¬ v_1 = (-1)) → (vp_in (li 1) 64 ∧ (∀ v_3 : Int64, v_3 = (t.2.2.2 0) (li 1).toNatClampNeg → (vp_in (li 1) 64 ∧ (∀ v_4 : Int32, v_4 = (t.2.2.1 5) (li 1).toNatClampNeg → (∀ v_5 : Int64, v_5 = ((1 : Int64) <<< (v_4.toInt64 &&& 63)) → (∀ v_6 : Int64, v_6 = (v_5 ^^^ (-1)) → (∀ v_7 : Int64, v_7 = (v_3 &&& v_6) → Q v_7 t)))))))) ∧ ((v_1 = (-1)) → (vp_in (li 1) 64 ∧ (∀ v_8 : Int64, v_8 = (t.2.2.2 0) (li 1).toNatClampNeg → Q v_8 t)))))
def wpX6_below : Nat → Nat → XT → (Nat → Int32) → (Nat → Int64) → (Int64 → XT → Prop) → Prop
  | 0, _, _, _, _, _ => False
  | k + 1, 0, t, li, lj, Q => wbX6_below_0 (wpX6_below k) k t li lj Q
  | _ + 1, _, _, _, _, _ => False
def wqX6_below (k : Nat) (t : XT) (a1 : Int32) (Q : Int64 → XT → Prop) : Prop := wpX6_below k 0 t (uI (fun _ => 0) 1 a1) (fun _ => 0) Q
set_option maxHeartbeats 8000000 in
set_option maxRecDepth 100000 in
theorem wkX6_below (l : Launch) (D : va_G) (cI cJ cB cZ : ClassId) (ad : Nat → Nat) (k : Nat) (t : XT) (a1 : Int32) (Q : Int64 → XT → Prop) (hR : wqX6_below k t a1 Q) : MetL l yX6_below wsX6_below 0 0 0 0 D (TYS cI cJ cB cZ) (wX cI cJ cB cZ ad t) [.ref (ad 4), .int a1] (fun r u => Q r u) (fun u : XT => (wX cI cJ cB cZ ad u)) := by
  refine x_startL (ty := .long) (cc := cX6_below) (by decide) rfl (Nat.le_of_ble_eq_true rfl) ?_
  intro p e s m args below meth c A ls B hr hnm h hl
  have hx := B.1.1
  have hb := B.1.2.1
  have hml := B.1.2.2.1
  have hts := B.1.2.2.2.2
  have hown : s.vm.findClass RX6 = some m.cls := B.1.2.2.2.1
  have hin6 : ∀ w ∈ u_ws RX6 TX6 6, w ∈ wsX6_below := by decide +kernel
  have hin9 : ∀ w ∈ u_ws RX9 TX9 7, w ∈ wsX6_below := by decide +kernel
  have main : ∀ k : Nat, (∀ (t : XT) (li : Nat → Int32) (lj : Nat → Int64) (H : Heap) (locs : List Loc) (ls : Array Slot), wpX6_below k 0 t li lj Q → lv_has ls 2 [(0, .ref (ad 4)), (1, .int (li 1))] → Hp D A s.heap (wX cI cJ cB cZ ad t) H locs → W p l e { frames := 0, cells := 0, slots := 0, locals := 0 } s m args below meth c H locs 0 0 (MQ below (va_Ql (fun r u => Q r u) (fun u t => xEnd D ((fun u : XT => (wX cI cJ cB cZ ad u)) u) A t) A) args s 0 0 A) (F0 m 0 ls [])) := by
    intro k
    induction k with
    | zero => exact fun _ _ _ _ _ _ hR => False.elim hR
    | succ k ih =>
      intro t li lj H locs ls hR hl h
      have hR : wbX6_below_0 (wpX6_below k) k t li lj Q := hR
      unfold wbX6_below_0 at hR
      refine lv_aload_n hx hb dX6_below_0 rfl (lv_at hl 0 rfl) ?_
      refine x_get (ci := 6) (C := RX6) (T := TX6) (N := 6) (v := .ref (ad 20)) B h hin6 4 1 rfl rfl (by decide) (by decide +kernel) rfl dX6_below_1 ?_
      refine lv_iload_n hx hb dX6_below_4 rfl (lv_at hl 1 rfl) ?_
      obtain ⟨hb_1, hR⟩ := hR
      refine va_iald (f := (t.2.2.1 5)) hx hb B.2.1 h.1 20 0 rfl rfl hb_1 dX6_below_5 ?_
      refine lv_topi (fun v_1 ev_1 => ?_)
      have hR := hR v_1 ev_1
      refine lv_iconst (v := (-1)) hx hb dX6_below_6 (by decide) ?_
      refine lv_icmp_ne (tgt := 22) hx hb dX6_below_7 (by decide) (fun c_2 => ?_) (fun c_2 => ?_)
      · have hR := hR.1 c_2
        refine lv_aload_n hx hb dX6_below_22 rfl (lv_at hl 0 rfl) ?_
        refine x_get (ci := 6) (C := RX6) (T := TX6) (N := 6) (v := .ref (ad 3)) B h hin6 4 0 rfl rfl (by decide) (by decide +kernel) rfl dX6_below_23 ?_
        refine x_get (ci := 9) (C := RX9) (T := TX9) (N := 7) (v := .ref (ad 17)) B h hin9 3 4 rfl rfl (by decide) (by decide +kernel) rfl dX6_below_26 ?_
        refine lv_iload_n hx hb dX6_below_29 rfl (lv_at hl 1 rfl) ?_
        obtain ⟨hb_3, hR⟩ := hR
        refine va_lald (f := (t.2.2.2 0)) hx hb B.2.1 h.1 17 1 rfl rfl hb_3 dX6_below_30 ?_
        refine lv_topl (fun v_3 ev_3 => ?_)
        have hR := hR v_3 ev_3
        refine lv_lconst (v := 1) hx hb dX6_below_31 (by decide) ?_
        refine lv_aload_n hx hb dX6_below_32 rfl (lv_at hl 0 rfl) ?_
        refine x_get (ci := 6) (C := RX6) (T := TX6) (N := 6) (v := .ref (ad 20)) B h hin6 4 1 rfl rfl (by decide) (by decide +kernel) rfl dX6_below_33 ?_
        refine lv_iload_n hx hb dX6_below_36 rfl (lv_at hl 1 rfl) ?_
        obtain ⟨hb_4, hR⟩ := hR
        refine va_iald (f := (t.2.2.1 5)) hx hb B.2.1 h.1 20 0 rfl rfl hb_4 dX6_below_37 ?_
        refine lv_topi (fun v_4 ev_4 => ?_)
        have hR := hR v_4 ev_4
        obtain ⟨v_5, ev_5⟩ : ∃ v : Int64, v = ((1 : Int64) <<< (v_4.toInt64 &&& 63)) := ⟨_, rfl⟩
        have hR := hR v_5 ev_5
        refine lv_lshl (v := v_5) hx hb dX6_below_38 ev_5.symm ?_
        refine lv_ldc2 (v := (-1)) hx hb hown (hts (.constantLong RX6 43 (-1)) (by decide +kernel)) dX6_below_39 ?_
        refine lv_lxor hx hb dX6_below_42 ?_
        refine lv_topl (fun v_6 ev_6 => ?_)
        have hR := hR v_6 ev_6
        refine lv_land hx hb dX6_below_43 ?_
        refine lv_topl (fun v_7 ev_7 => ?_)
        have hR := hR v_7 ev_7
        exact x_lret (w1 := (fun u : XT => (wX cI cJ cB cZ ad u))) t B h hr hR dX6_below_44
      · have hR := hR.2 c_2
        refine lv_aload_n hx hb dX6_below_10 rfl (lv_at hl 0 rfl) ?_
        refine x_get (ci := 6) (C := RX6) (T := TX6) (N := 6) (v := .ref (ad 3)) B h hin6 4 0 rfl rfl (by decide) (by decide +kernel) rfl dX6_below_11 ?_
        refine x_get (ci := 9) (C := RX9) (T := TX9) (N := 7) (v := .ref (ad 17)) B h hin9 3 4 rfl rfl (by decide) (by decide +kernel) rfl dX6_below_14 ?_
        refine lv_iload_n hx hb dX6_below_17 rfl (lv_at hl 1 rfl) ?_
        obtain ⟨hb_8, hR⟩ := hR
        refine va_lald (f := (t.2.2.2 0)) hx hb B.2.1 h.1 17 1 rfl rfl hb_8 dX6_below_18 ?_
        refine lv_topl (fun v_8 ev_8 => ?_)
        have hR := hR v_8 ev_8
        refine lv_goto (tgt := 44) hx hb dX6_below_19 (by decide) ?_
        exact x_lret (w1 := (fun u : XT => (wX cI cJ cB cZ ad u))) t B h hr hR dX6_below_44
  exact (main k) t _ _ s.heap [] ls hR hl h
set_option maxRecDepth 20000 in
theorem ggX1_waysDown_X6_below : GoodIn wsX1_waysDown wsX6_below := goodIn_r _ [7, 8, 9, 10, 11, 29, 30, 31, 32, 33, 34, 35, 36, 37, 38, 39, 40, 41] (by decide +kernel) (by decide +kernel)
set_option maxRecDepth 20000 in
theorem gX1_waysDown_X6_below : GoodIn wsX1_waysDown (wsV RX1 68 RX6 yX6_below wsX6_below) := goodIn_app (goodIn_of _ (by decide +kernel)) ggX1_waysDown_X6_below
set_option maxRecDepth 20000 in
theorem ggX1_waysDown_X11_lowest : GoodIn wsX1_waysDown wsX11_lowest := goodIn_r _ [14, 15, 16, 17, 18, 19, 20, 21] (by decide +kernel) (by decide +kernel)
set_option maxRecDepth 20000 in
theorem gX1_waysDown_X11_lowest_n74 : GoodIn wsX1_waysDown (wsX11_lowest) := ggX1_waysDown_X11_lowest
def wbX1_waysDown_0 (rec : Nat → XT → (Nat → Int32) → (Nat → Int64) → (Int64 → XT → Prop) → Prop) (k : Nat) (t : XT) (li : Nat → Int32) (lj : Nat → Int64) (Q : Int64 → XT → Prop) : Prop :=
  (wqX6_below k t (li 1) (fun r_1 t_1 => rec 1 t_1 (uI li 6 0) (uI (uI lj 2 0) 4 r_1) Q))
def wbX1_waysDown_1 (rec : Nat → XT → (Nat → Int32) → (Nat → Int64) → (Int64 → XT → Prop) → Prop) (k : Nat) (t : XT) (li : Nat → Int32) (lj : Nat → Int64) (Q : Int64 → XT → Prop) : Prop :=
  (((5 : Int32) ≤ (li 6)) → rec 2 t li lj Q) ∧ (¬ ((5 : Int32) ≤ (li 6)) → (∀ v_3 : Int32, v_3 = (lg_cmp (lj 4) 0) → ((v_3 = 0) → rec 2 t li lj Q) ∧ (¬ (v_3 = 0) → (wqX11_lowest k (lj 4) (fun r_5 => (vp_in r_5 64 ∧ (∀ v_6 : Int64, v_6 = (t.2.2.2 4) r_5.toNatClampNeg → (∀ v_7 : Int64, v_7 = ((lj 2) + v_6) → (∀ v_8 : Int64, v_8 = ((lj 4) - 1) → (∀ v_9 : Int64, v_9 = ((lj 4) &&& v_8) → (∀ v_10 : Int32, v_10 = (li 6) + Int32.ofInt 1 → rec 1 t (uI li 6 v_10) (uI (uI lj 2 v_7) 4 v_9) Q)))))))))))
def wbX1_waysDown_2 (rec : Nat → XT → (Nat → Int32) → (Nat → Int64) → (Int64 → XT → Prop) → Prop) (k : Nat) (t : XT) (li : Nat → Int32) (lj : Nat → Int64) (Q : Int64 → XT → Prop) : Prop :=
  Q (lj 2) t
def wpX1_waysDown : Nat → Nat → XT → (Nat → Int32) → (Nat → Int64) → (Int64 → XT → Prop) → Prop
  | 0, _, _, _, _, _ => False
  | k + 1, 0, t, li, lj, Q => wbX1_waysDown_0 (wpX1_waysDown k) k t li lj Q
  | k + 1, 1, t, li, lj, Q => wbX1_waysDown_1 (wpX1_waysDown k) k t li lj Q
  | k + 1, 2, t, li, lj, Q => wbX1_waysDown_2 (wpX1_waysDown k) k t li lj Q
  | _ + 1, _, _, _, _, _ => False
def wqX1_waysDown (k : Nat) (t : XT) (a1 : Int32) (Q : Int64 → XT → Prop) : Prop := wpX1_waysDown k 0 t (uI (fun _ => 0) 1 a1) (fun _ => 0) Q
set_option maxHeartbeats 8000000 in
set_option maxRecDepth 100000 in
theorem wkX1_waysDown (l : Launch) (D : va_G) (cI cJ cB cZ : ClassId) (ad : Nat → Nat) (k : Nat) (t : XT) (a1 : Int32) (Q : Int64 → XT → Prop) (hR : wqX1_waysDown k t a1 Q) : MetL l yX1_waysDown wsX1_waysDown 2 42 0 0 D (TYS cI cJ cB cZ) (wX cI cJ cB cZ ad t) [.ref (ad 7), .int a1] (fun r u => Q r u) (fun u : XT => (wX cI cJ cB cZ ad u)) := by
  refine x_startL (ty := .long) (cc := cX1_waysDown) (by decide) rfl (Nat.le_of_ble_eq_true rfl) ?_
  intro p e s m args below meth c A ls B hr hnm h hl
  have hx := B.1.1
  have hb := B.1.2.1
  have hml := B.1.2.2.1
  have hts := B.1.2.2.2.2
  have hown : s.vm.findClass RX1 = some m.cls := B.1.2.2.2.1
  have hin1 : ∀ w ∈ u_ws RX1 TX1 7, w ∈ wsX1_waysDown := by decide +kernel
  have main : ∀ k : Nat, (∀ (t : XT) (li : Nat → Int32) (lj : Nat → Int64) (H : Heap) (locs : List Loc) (ls : Array Slot), wpX1_waysDown k 0 t li lj Q → lv_has ls 7 [(0, .ref (ad 7)), (1, .int (li 1))] → Hp D A s.heap (wX cI cJ cB cZ ad t) H locs → W p l e { frames := 2, cells := 0, slots := 0, locals := 42 } s m args below meth c H locs 0 0 (MQ below (va_Ql (fun r u => Q r u) (fun u t => xEnd D ((fun u : XT => (wX cI cJ cB cZ ad u)) u) A t) A) args s 0 0 A) (F0 m 0 ls [])) ∧
      (∀ (t : XT) (li : Nat → Int32) (lj : Nat → Int64) (H : Heap) (locs : List Loc) (ls : Array Slot), wpX1_waysDown k 1 t li lj Q → lv_has ls 7 [(0, .ref (ad 7)), (1, .int (li 1)), (2, .long (lj 2)), (4, .long (lj 4)), (6, .int (li 6))] → Hp D A s.heap (wX cI cJ cB cZ ad t) H locs → W p l e { frames := 2, cells := 0, slots := 0, locals := 42 } s m args below meth c H locs 0 0 (MQ below (va_Ql (fun r u => Q r u) (fun u t => xEnd D ((fun u : XT => (wX cI cJ cB cZ ad u)) u) A t) A) args s 0 0 A) (F0 m 15 ls [])) ∧
      (∀ (t : XT) (li : Nat → Int32) (lj : Nat → Int64) (H : Heap) (locs : List Loc) (ls : Array Slot), wpX1_waysDown k 2 t li lj Q → lv_has ls 7 [(0, .ref (ad 7)), (1, .int (li 1)), (2, .long (lj 2)), (4, .long (lj 4)), (6, .int (li 6))] → Hp D A s.heap (wX cI cJ cB cZ ad t) H locs → W p l e { frames := 2, cells := 0, slots := 0, locals := 42 } s m args below meth c H locs 0 0 (MQ below (va_Ql (fun r u => Q r u) (fun u t => xEnd D ((fun u : XT => (wX cI cJ cB cZ ad u)) u) A t) A) args s 0 0 A) (F0 m 56 ls [])) := by
    intro k
    induction k with
    | zero => exact ⟨fun _ _ _ _ _ _ hR => False.elim hR, fun _ _ _ _ _ _ hR => False.elim hR, fun _ _ _ _ _ _ hR => False.elim hR⟩
    | succ k ih =>
      refine ⟨?_, ?_, ?_⟩
      · intro t li lj H locs ls hR hl h
        have hR : wbX1_waysDown_0 (wpX1_waysDown k) k t li lj Q := hR
        unfold wbX1_waysDown_0 at hR
        refine lv_lconst (v := 0) hx hb dX1_waysDown_0 (by decide) ?_
        refine lv_lstore_n (lv' := [(2, .long 0), (0, .ref (ad 7)), (1, .int (li 1))]) hx hb dX1_waysDown_1 rfl hl (by decide) rfl (fun ls hl => ?_)
        refine lv_aload_n hx hb dX1_waysDown_2 rfl (lv_at hl 1 rfl) ?_
        refine x_get (ci := 1) (C := RX1) (T := TX1) (N := 7) (v := .ref (ad 4)) B h hin1 7 1 rfl rfl (by decide) (by decide +kernel) rfl dX1_waysDown_3 ?_
        refine lv_iload_n hx hb dX1_waysDown_6 rfl (lv_at hl 2 rfl) ?_
        refine x_cVLF (n := 1) (As := [.int (li 1)]) (rest := []) B h (wkX6_below l D cI cJ cB cZ ad k t (li 1) _ hR) ⟨⟨_, rfl⟩, by decide +kernel, Nat.le_of_ble_eq_true rfl, Nat.le_of_ble_eq_true rfl⟩ gX1_waysDown_X6_below (show ((wX cI cJ cB cZ ad t) : va_W)[4]? = some (_, .inr (6, _)) from rfl) rfl rfl hl.1 rfl (Nat.le_of_ble_eq_true rfl) dX1_waysDown_7 ⟨Nat.le_of_ble_eq_true rfl, Nat.le_of_ble_eq_true rfl⟩ (fun r_1 t_1 H locs hR h => ?_)
        refine lv_lstore (lv' := [(4, .long r_1), (2, .long 0), (0, .ref (ad 7)), (1, .int (li 1))]) hx hb dX1_waysDown_10 hl (by decide) rfl (fun ls hl => ?_)
        refine lv_iconst (v := 0) hx hb dX1_waysDown_12 (by decide) ?_
        refine lv_istore (lv' := [(6, .int 0), (4, .long r_1), (2, .long 0), (0, .ref (ad 7)), (1, .int (li 1))]) hx hb dX1_waysDown_13 hl (by decide) rfl (fun ls hl => ?_)
        exact ih.2.1 t_1 (uI li 6 0) (uI (uI lj 2 0) 4 r_1) H locs ls hR (lv_sub hl [3, 4, 2, 1, 0] rfl) h
      · intro t li lj H locs ls hR hl h
        have hR : wbX1_waysDown_1 (wpX1_waysDown k) k t li lj Q := hR
        unfold wbX1_waysDown_1 at hR
        refine lv_iload hx hb dX1_waysDown_15 (lv_at hl 4 rfl) ?_
        refine lv_iconst (v := 5) hx hb dX1_waysDown_17 (by decide) ?_
        refine lv_icmp_ge (tgt := 56) hx hb dX1_waysDown_18 (by decide) (fun c_2 => ?_) (fun c_2 => ?_)
        · have hR := hR.1 c_2
          exact ih.2.2 t li lj H locs ls hR (lv_sub hl [0, 1, 2, 3, 4] rfl) h
        · have hR := hR.2 c_2
          refine lv_lload hx hb dX1_waysDown_21 (lv_at hl 3 rfl) ?_
          refine lv_lconst (v := 0) hx hb dX1_waysDown_23 (by decide) ?_
          refine W.lcmp hx hb dX1_waysDown_24 ?_
          refine lv_topi (fun v_3 ev_3 => ?_)
          have hR := hR v_3 ev_3
          refine lv_if_eq (tgt := 56) hx hb dX1_waysDown_25 (by decide) (fun c_4 => ?_) (fun c_4 => ?_)
          · have hR := hR.1 c_4
            exact ih.2.2 t li lj H locs ls hR (lv_sub hl [0, 1, 2, 3, 4] rfl) h
          · have hR := hR.2 c_4
            refine lv_lload_n hx hb dX1_waysDown_28 rfl (lv_at hl 2 rfl) ?_
            refine lv_aload_n hx hb dX1_waysDown_29 rfl (lv_at hl 0 rfl) ?_
            refine x_get (ci := 1) (C := RX1) (T := TX1) (N := 7) (v := .ref (ad 24)) B h hin1 7 4 rfl rfl (by decide) (by decide +kernel) rfl dX1_waysDown_30 ?_
            refine lv_lload hx hb dX1_waysDown_33 (lv_at hl 3 rfl) ?_
            refine x_cNIE (n := 1) (As := [.long (lj 4)]) (rest := [.ref (ad 24), .long (lj 2)]) B h (wkX11_lowest l D cI cJ cB cZ ad k (lj 4) _ hR) ⟨⟨_, rfl⟩, by decide +kernel, Nat.le_of_ble_eq_true rfl, Nat.le_of_ble_eq_true rfl⟩ gX1_waysDown_X11_lowest_n74 (by decide +kernel) (by decide +kernel) (host := "MorseDesk") (by decide +kernel) rfl hl.1 rfl (Nat.le_of_ble_eq_true rfl) dX1_waysDown_35 ⟨Nat.le_of_ble_eq_true rfl, Nat.le_of_ble_eq_true rfl⟩ (fun r_5 _ H locs hR h => ?_)
            obtain ⟨hb_6, hR⟩ := hR
            refine va_lald (f := (t.2.2.2 4)) hx hb B.2.1 h.1 24 1 rfl rfl hb_6 dX1_waysDown_38 ?_
            refine lv_topl (fun v_6 ev_6 => ?_)
            have hR := hR v_6 ev_6
            refine lv_ladd hx hb dX1_waysDown_39 ?_
            refine lv_topl (fun v_7 ev_7 => ?_)
            have hR := hR v_7 ev_7
            refine lv_lstore_n (lv' := [(2, .long v_7), (0, .ref (ad 7)), (1, .int (li 1)), (4, .long (lj 4)), (6, .int (li 6))]) hx hb dX1_waysDown_40 rfl hl (by decide) rfl (fun ls hl => ?_)
            refine lv_lload hx hb dX1_waysDown_41 (lv_at hl 3 rfl) ?_
            refine lv_lload hx hb dX1_waysDown_43 (lv_at hl 3 rfl) ?_
            refine lv_lconst (v := 1) hx hb dX1_waysDown_45 (by decide) ?_
            refine lv_lsub hx hb dX1_waysDown_46 ?_
            refine lv_topl (fun v_8 ev_8 => ?_)
            have hR := hR v_8 ev_8
            refine lv_land hx hb dX1_waysDown_47 ?_
            refine lv_topl (fun v_9 ev_9 => ?_)
            have hR := hR v_9 ev_9
            refine lv_lstore (lv' := [(4, .long v_9), (2, .long v_7), (0, .ref (ad 7)), (1, .int (li 1)), (6, .int (li 6))]) hx hb dX1_waysDown_48 hl (by decide) rfl (fun ls hl => ?_)
            obtain ⟨v_10, ev_10⟩ : ∃ v : Int32, v = (li 6) + Int32.ofInt 1 := ⟨_, rfl⟩
            have hR := hR v_10 ev_10
            refine lv_iinc (v := v_10) (lv' := [(6, .int v_10), (4, .long v_9), (2, .long v_7), (0, .ref (ad 7)), (1, .int (li 1))]) hx hb dX1_waysDown_50 hl (k := 4) rfl ev_10.symm (by decide) rfl (fun ls hl => ?_)
            refine lv_goto (tgt := 15) hx hb dX1_waysDown_53 (by decide) ?_
            exact ih.2.1 t (uI li 6 v_10) (uI (uI lj 2 v_7) 4 v_9) H locs ls hR (lv_sub hl [3, 4, 2, 1, 0] rfl) h
      · intro t li lj H locs ls hR hl h
        have hR : wbX1_waysDown_2 (wpX1_waysDown k) k t li lj Q := hR
        unfold wbX1_waysDown_2 at hR
        refine lv_lload_n hx hb dX1_waysDown_56 rfl (lv_at hl 2 rfl) ?_
        exact x_lret (w1 := (fun u : XT => (wX cI cJ cB cZ ad u))) t B h hr hR dX1_waysDown_57
  exact (main k).1 t _ _ s.heap [] ls hR hl h
set_option maxRecDepth 20000 in
theorem ggX1_countWays_X2_measure : GoodIn wsX1_countWays wsX2_measure := goodIn_r _ [13, 14, 15, 16, 17, 18, 19, 20, 21, 22, 23, 24, 25, 26, 27, 12, 28, 29, 30, 31, 32, 33, 34, 35, 36, 37, 38, 39, 40, 41, 42, 43, 44, 74, 75, 76, 77, 78, 79, 87, 88, 89, 90, 91, 92, 80, 81, 82, 83, 84, 85, 86] (by decide +kernel) (by decide +kernel)
set_option maxRecDepth 20000 in
theorem gX1_countWays_X2_measure : GoodIn wsX1_countWays (wsV RX1 34 RX2 yX2_measure wsX2_measure) := goodIn_app (goodIn_of _ (by decide +kernel)) ggX1_countWays_X2_measure
set_option maxRecDepth 20000 in
theorem ggX1_countWays_J7_fill_d0a16 : GoodIn wsX1_countWays wsJ7_fill_d0a16 := goodIn_r _ [47] (by decide +kernel) (by decide +kernel)
set_option maxRecDepth 20000 in
theorem gX1_countWays_J7_fill_d0a16 : GoodIn wsX1_countWays (va_wsS RX1 39 yJ7_fill_d0a16 wsJ7_fill_d0a16) := goodIn_app (goodIn_of _ (by decide +kernel)) ggX1_countWays_J7_fill_d0a16
set_option maxRecDepth 20000 in
theorem ggX1_countWays_X1_waysDown : GoodIn wsX1_countWays wsX1_waysDown := goodIn_r _ [52, 7, 2, 53, 54, 55, 38, 56, 40, 41, 42, 57, 58, 33, 59, 60, 61, 62, 63, 64, 65, 66, 67, 68, 69, 70, 71, 72, 73, 87, 88, 89, 90, 91, 92, 80, 81, 82, 83, 84, 85, 86] (by decide +kernel) (by decide +kernel)
set_option maxRecDepth 20000 in
theorem gX1_countWays_X1_waysDown : GoodIn wsX1_countWays (wsV RX1 85 RX1 yX1_waysDown wsX1_waysDown) := goodIn_app (goodIn_of _ (by decide +kernel)) ggX1_countWays_X1_waysDown
def wbX1_countWays_0 (rec : Nat → XT → (Nat → Int32) → (Nat → Int64) → (Int64 → XT → Prop) → Prop) (k : Nat) (t : XT) (li : Nat → Int32) (lj : Nat → Int64) (Q : Int64 → XT → Prop) : Prop :=
  (wqX2_measure k t  (fun t_1 => (∀ t_2 : XT, t_2 = sB t_1 4 (fun _ => 0) → rec 1 t_2 (uI li 3 0) lj Q)))
def wbX1_countWays_1 (rec : Nat → XT → (Nat → Int32) → (Nat → Int64) → (Int64 → XT → Prop) → Prop) (k : Nat) (t : XT) (li : Nat → Int32) (lj : Nat → Int64) (Q : Int64 → XT → Prop) : Prop :=
  ((((t.1 6) : Int32) ≤ (li 3)) → (vp_in (li 1) 64 ∧ (∀ v_4 : Int64, v_4 = (t.2.2.2 4) (li 1).toNatClampNeg → Q v_4 t))) ∧ (¬ (((t.1 6) : Int32) ≤ (li 3)) → (vp_in (li 3) 64 ∧ (∀ v_5 : Int32, v_5 = (t.2.2.1 7) (li 3).toNatClampNeg → ((¬ v_5 = (li 2)) → (vp_in v_5 64 ∧ (∀ v_7 : Int32, v_7 = (t.2.2.1 3) v_5.toNatClampNeg → (vp_in (li 1) 64 ∧ (∀ v_8 : Int32, v_8 = (t.2.2.1 3) (li 1).toNatClampNeg → ((¬ v_7 = v_8) → (vp_in v_5 64 ∧ (∀ v_10 : Int32, v_10 = (t.2.2.1 3) v_5.toNatClampNeg → (vp_in (li 2) 64 ∧ (∀ v_11 : Int32, v_11 = (t.2.2.1 3) (li 2).toNatClampNeg → ((¬ v_10 = v_11) → rec 2 t (uI li 4 v_5) lj Q) ∧ ((v_10 = v_11) → (vp_in v_5 64 ∧ (∀ v_13 : Int32, v_13 = (t.2.2.1 5) v_5.toNatClampNeg → ((v_13 ≤ v_5) → rec 2 t (uI li 4 v_5) lj Q) ∧ (¬ (v_13 ≤ v_5) → (vp_in v_5 64 ∧ (∀ v_15 : Int32, v_15 = (t.2.2.1 5) v_5.toNatClampNeg → (vp_in v_15 64 ∧ (∀ v_16 : Int64, v_16 = (t.2.2.2 4) v_15.toNatClampNeg → (vp_in v_5 64 ∧ (∀ t_17 : XT, t_17 = sB t 4 (vp_updL (t.2.2.2 4) v_5.toNatClampNeg v_16) → rec 2 t_17 (uI li 4 v_5) lj Q))))))))))))))) ∧ ((v_7 = v_8) → (wqX1_waysDown k t v_5 (fun r_18 t_18 => (vp_in v_5 64 ∧ (∀ t_19 : XT, t_19 = sB t_18 4 (vp_updL (t_18.2.2.2 4) v_5.toNatClampNeg r_18) → rec 2 t_19 (uI li 4 v_5) lj Q)))))))))) ∧ ((v_5 = (li 2)) → (vp_in v_5 64 ∧ (∀ t_20 : XT, t_20 = sB t 4 (vp_updL (t.2.2.2 4) v_5.toNatClampNeg 1) → rec 2 t_20 (uI li 4 v_5) lj Q))))))
def wbX1_countWays_2 (rec : Nat → XT → (Nat → Int32) → (Nat → Int64) → (Int64 → XT → Prop) → Prop) (k : Nat) (t : XT) (li : Nat → Int32) (lj : Nat → Int64) (Q : Int64 → XT → Prop) : Prop :=
  (∀ v_21 : Int32, v_21 = (li 3) + Int32.ofInt 1 → rec 1 t (uI li 3 v_21) lj Q)
def wpX1_countWays : Nat → Nat → XT → (Nat → Int32) → (Nat → Int64) → (Int64 → XT → Prop) → Prop
  | 0, _, _, _, _, _ => False
  | k + 1, 0, t, li, lj, Q => wbX1_countWays_0 (wpX1_countWays k) k t li lj Q
  | k + 1, 1, t, li, lj, Q => wbX1_countWays_1 (wpX1_countWays k) k t li lj Q
  | k + 1, 2, t, li, lj, Q => wbX1_countWays_2 (wpX1_countWays k) k t li lj Q
  | _ + 1, _, _, _, _, _ => False
def wqX1_countWays (k : Nat) (t : XT) (a1 : Int32) (a2 : Int32) (Q : Int64 → XT → Prop) : Prop := wpX1_countWays k 0 t (uI (uI (fun _ => 0) 1 a1) 2 a2) (fun _ => 0) Q
set_option maxHeartbeats 8000000 in
set_option maxRecDepth 100000 in
theorem wkX1_countWays (l : Launch) (D : va_G) (cI cJ cB cZ : ClassId) (ad : Nat → Nat) (k : Nat) (t : XT) (a1 : Int32) (a2 : Int32) (Q : Int64 → XT → Prop) (hR : wqX1_countWays k t a1 a2 Q) : MetL l yX1_countWays wsX1_countWays 3 71 0 0 D (TYS cI cJ cB cZ) (wX cI cJ cB cZ ad t) [.ref (ad 7), .int a1, .int a2] (fun r u => Q r u) (fun u : XT => (wX cI cJ cB cZ ad u)) := by
  refine x_startL (ty := .long) (cc := cX1_countWays) (by decide) rfl (Nat.le_of_ble_eq_true rfl) ?_
  intro p e s m args below meth c A ls B hr hnm h hl
  have hx := B.1.1
  have hb := B.1.2.1
  have hml := B.1.2.2.1
  have hts := B.1.2.2.2.2
  have hown : s.vm.findClass RX1 = some m.cls := B.1.2.2.2.1
  have hin1 : ∀ w ∈ u_ws RX1 TX1 7, w ∈ wsX1_countWays := by decide +kernel
  have hin2 : ∀ w ∈ u_ws RX2 TX2 6, w ∈ wsX1_countWays := by decide +kernel
  have hin6 : ∀ w ∈ u_ws RX6 TX6 6, w ∈ wsX1_countWays := by decide +kernel
  have hin9 : ∀ w ∈ u_ws RX9 TX9 7, w ∈ wsX1_countWays := by decide +kernel
  have main : ∀ k : Nat, (∀ (t : XT) (li : Nat → Int32) (lj : Nat → Int64) (H : Heap) (locs : List Loc) (ls : Array Slot), wpX1_countWays k 0 t li lj Q → lv_has ls 5 [(0, .ref (ad 7)), (1, .int (li 1)), (2, .int (li 2))] → Hp D A s.heap (wX cI cJ cB cZ ad t) H locs → W p l e { frames := 3, cells := 0, slots := 0, locals := 71 } s m args below meth c H locs 0 0 (MQ below (va_Ql (fun r u => Q r u) (fun u t => xEnd D ((fun u : XT => (wX cI cJ cB cZ ad u)) u) A t) A) args s 0 0 A) (F0 m 0 ls [])) ∧
      (∀ (t : XT) (li : Nat → Int32) (lj : Nat → Int64) (H : Heap) (locs : List Loc) (ls : Array Slot), wpX1_countWays k 1 t li lj Q → lv_has ls 5 [(0, .ref (ad 7)), (1, .int (li 1)), (2, .int (li 2)), (3, .int (li 3))] → Hp D A s.heap (wX cI cJ cB cZ ad t) H locs → W p l e { frames := 3, cells := 0, slots := 0, locals := 71 } s m args below meth c H locs 0 0 (MQ below (va_Ql (fun r u => Q r u) (fun u t => xEnd D ((fun u : XT => (wX cI cJ cB cZ ad u)) u) A t) A) args s 0 0 A) (F0 m 17 ls [])) ∧
      (∀ (t : XT) (li : Nat → Int32) (lj : Nat → Int64) (H : Heap) (locs : List Loc) (ls : Array Slot), wpX1_countWays k 2 t li lj Q → lv_has ls 5 [(0, .ref (ad 7)), (1, .int (li 1)), (2, .int (li 2)), (3, .int (li 3)), (4, .int (li 4))] → Hp D A s.heap (wX cI cJ cB cZ ad t) H locs → W p l e { frames := 3, cells := 0, slots := 0, locals := 71 } s m args below meth c H locs 0 0 (MQ below (va_Ql (fun r u => Q r u) (fun u t => xEnd D ((fun u : XT => (wX cI cJ cB cZ ad u)) u) A t) A) args s 0 0 A) (F0 m 153 ls [])) := by
    intro k
    induction k with
    | zero => exact ⟨fun _ _ _ _ _ _ hR => False.elim hR, fun _ _ _ _ _ _ hR => False.elim hR, fun _ _ _ _ _ _ hR => False.elim hR⟩
    | succ k ih =>
      refine ⟨?_, ?_, ?_⟩
      · intro t li lj H locs ls hR hl h
        have hR : wbX1_countWays_0 (wpX1_countWays k) k t li lj Q := hR
        unfold wbX1_countWays_0 at hR
        refine lv_aload_n hx hb dX1_countWays_0 rfl (lv_at hl 0 rfl) ?_
        refine x_get (ci := 1) (C := RX1) (T := TX1) (N := 7) (v := .ref (ad 6)) B h hin1 7 2 rfl rfl (by decide) (by decide +kernel) rfl dX1_countWays_1 ?_
        refine x_cVVF (n := 0) (As := []) (rest := []) B h (wkX2_measure l D cI cJ cB cZ ad k t  _ hR) ⟨⟨_, rfl⟩, by decide +kernel, Nat.le_of_ble_eq_true rfl, Nat.le_of_ble_eq_true rfl⟩ gX1_countWays_X2_measure (show ((wX cI cJ cB cZ ad t) : va_W)[6]? = some (_, .inr (2, _)) from rfl) rfl rfl hl.1 rfl (Nat.le_of_ble_eq_true rfl) dX1_countWays_4 ⟨Nat.le_of_ble_eq_true rfl, Nat.le_of_ble_eq_true rfl⟩ (fun t_1 H locs hR h => ?_)
        refine lv_aload_n hx hb dX1_countWays_7 rfl (lv_at hl 0 rfl) ?_
        refine x_get (ci := 1) (C := RX1) (T := TX1) (N := 7) (v := .ref (ad 24)) B h hin1 7 4 rfl rfl (by decide) (by decide +kernel) rfl dX1_countWays_8 ?_
        refine lv_lconst (v := 0) hx hb dX1_countWays_11 (by decide) ?_
        refine x_cSV (n := 2) (pre := ((wX cI cJ cB cZ ad t_1) : va_W).take 24) (post := ((wX cI cJ cB cZ ad t_1) : va_W).drop 25) (wc := [((ad 24), .inl (cJ, 64, .inr (.inl (t_1.2.2.2 4))))]) (As := [.ref (ad 24), .long 0]) (rest := []) B h (c_fillL l D (TYS cI cJ cB cZ) cJ 1 rfl (ad 24) 64 (by decide) (t_1.2.2.2 4) 0) ⟨⟨_, rfl⟩, by decide +kernel, Nat.le_of_ble_eq_true rfl, Nat.le_of_ble_eq_true rfl⟩ gX1_countWays_J7_fill_d0a16 rfl hl.1 rfl (Nat.le_of_ble_eq_true rfl) dX1_countWays_12 ⟨Nat.le_of_ble_eq_true rfl, Nat.le_of_ble_eq_true rfl⟩ (fun _ H locs _ h => ?_)
        obtain ⟨t_2, et_2⟩ : ∃ v : XT, v = sB t_1 4 (fun _ => 0) := ⟨_, rfl⟩
        have hR := hR t_2 et_2
        have h : Hp D A s.heap (wX cI cJ cB cZ ad t_2) H locs := by rw [et_2]; exact h
        refine lv_iconst (v := 0) hx hb dX1_countWays_15 (by decide) ?_
        refine lv_istore_n (lv' := [(3, .int 0), (0, .ref (ad 7)), (1, .int (li 1)), (2, .int (li 2))]) hx hb dX1_countWays_16 rfl hl (by decide) rfl (fun ls hl => ?_)
        exact ih.2.1 t_2 (uI li 3 0) lj H locs ls hR (lv_sub hl [1, 2, 3, 0] rfl) h
      · intro t li lj H locs ls hR hl h
        have hR : wbX1_countWays_1 (wpX1_countWays k) k t li lj Q := hR
        unfold wbX1_countWays_1 at hR
        refine lv_iload_n hx hb dX1_countWays_17 rfl (lv_at hl 3 rfl) ?_
        refine lv_aload_n hx hb dX1_countWays_18 rfl (lv_at hl 0 rfl) ?_
        refine x_get (ci := 1) (C := RX1) (T := TX1) (N := 7) (v := .ref (ad 6)) B h hin1 7 2 rfl rfl (by decide) (by decide +kernel) rfl dX1_countWays_19 ?_
        refine x_get (ci := 2) (C := RX2) (T := TX2) (N := 6) (v := .int (t.1 6)) B h hin2 6 4 rfl rfl (by decide) (by decide +kernel) rfl dX1_countWays_22 ?_
        refine lv_icmp_ge (tgt := 159) hx hb dX1_countWays_25 (by decide) (fun c_3 => ?_) (fun c_3 => ?_)
        · have hR := hR.1 c_3
          refine lv_aload_n hx hb dX1_countWays_159 rfl (lv_at hl 0 rfl) ?_
          refine x_get (ci := 1) (C := RX1) (T := TX1) (N := 7) (v := .ref (ad 24)) B h hin1 7 4 rfl rfl (by decide) (by decide +kernel) rfl dX1_countWays_160 ?_
          refine lv_iload_n hx hb dX1_countWays_163 rfl (lv_at hl 1 rfl) ?_
          obtain ⟨hb_4, hR⟩ := hR
          refine va_lald (f := (t.2.2.2 4)) hx hb B.2.1 h.1 24 1 rfl rfl hb_4 dX1_countWays_164 ?_
          refine lv_topl (fun v_4 ev_4 => ?_)
          have hR := hR v_4 ev_4
          exact x_lret (w1 := (fun u : XT => (wX cI cJ cB cZ ad u))) t B h hr hR dX1_countWays_165
        · have hR := hR.2 c_3
          refine lv_aload_n hx hb dX1_countWays_28 rfl (lv_at hl 0 rfl) ?_
          refine x_get (ci := 1) (C := RX1) (T := TX1) (N := 7) (v := .ref (ad 6)) B h hin1 7 2 rfl rfl (by decide) (by decide +kernel) rfl dX1_countWays_29 ?_
          refine x_get (ci := 2) (C := RX2) (T := TX2) (N := 6) (v := .ref (ad 22)) B h hin2 6 3 rfl rfl (by decide) (by decide +kernel) rfl dX1_countWays_32 ?_
          refine lv_iload_n hx hb dX1_countWays_35 rfl (lv_at hl 3 rfl) ?_
          obtain ⟨hb_5, hR⟩ := hR
          refine va_iald (f := (t.2.2.1 7)) hx hb B.2.1 h.1 22 0 rfl rfl hb_5 dX1_countWays_36 ?_
          refine lv_topi (fun v_5 ev_5 => ?_)
          have hR := hR v_5 ev_5
          refine lv_istore (lv' := [(4, .int v_5), (0, .ref (ad 7)), (1, .int (li 1)), (2, .int (li 2)), (3, .int (li 3))]) hx hb dX1_countWays_37 hl (by decide) rfl (fun ls hl => ?_)
          refine lv_iload hx hb dX1_countWays_39 (lv_at hl 0 rfl) ?_
          refine lv_iload_n hx hb dX1_countWays_41 rfl (lv_at hl 3 rfl) ?_
          refine lv_icmp_ne (tgt := 56) hx hb dX1_countWays_42 (by decide) (fun c_6 => ?_) (fun c_6 => ?_)
          · have hR := hR.1 c_6
            refine lv_aload_n hx hb dX1_countWays_56 rfl (lv_at hl 1 rfl) ?_
            refine x_get (ci := 1) (C := RX1) (T := TX1) (N := 7) (v := .ref (ad 3)) B h hin1 7 0 rfl rfl (by decide) (by decide +kernel) rfl dX1_countWays_57 ?_
            refine x_get (ci := 9) (C := RX9) (T := TX9) (N := 7) (v := .ref (ad 15)) B h hin9 3 2 rfl rfl (by decide) (by decide +kernel) rfl dX1_countWays_60 ?_
            refine lv_iload hx hb dX1_countWays_63 (lv_at hl 0 rfl) ?_
            obtain ⟨hb_7, hR⟩ := hR
            refine va_iald (f := (t.2.2.1 3)) hx hb B.2.1 h.1 15 0 rfl rfl hb_7 dX1_countWays_65 ?_
            refine lv_topi (fun v_7 ev_7 => ?_)
            have hR := hR v_7 ev_7
            refine lv_aload_n hx hb dX1_countWays_66 rfl (lv_at hl 1 rfl) ?_
            refine x_get (ci := 1) (C := RX1) (T := TX1) (N := 7) (v := .ref (ad 3)) B h hin1 7 0 rfl rfl (by decide) (by decide +kernel) rfl dX1_countWays_67 ?_
            refine x_get (ci := 9) (C := RX9) (T := TX9) (N := 7) (v := .ref (ad 15)) B h hin9 3 2 rfl rfl (by decide) (by decide +kernel) rfl dX1_countWays_70 ?_
            refine lv_iload_n hx hb dX1_countWays_73 rfl (lv_at hl 2 rfl) ?_
            obtain ⟨hb_8, hR⟩ := hR
            refine va_iald (f := (t.2.2.1 3)) hx hb B.2.1 h.1 15 0 rfl rfl hb_8 dX1_countWays_74 ?_
            refine lv_topi (fun v_8 ev_8 => ?_)
            have hR := hR v_8 ev_8
            refine lv_icmp_ne (tgt := 94) hx hb dX1_countWays_75 (by decide) (fun c_9 => ?_) (fun c_9 => ?_)
            · have hR := hR.1 c_9
              refine lv_aload_n hx hb dX1_countWays_94 rfl (lv_at hl 1 rfl) ?_
              refine x_get (ci := 1) (C := RX1) (T := TX1) (N := 7) (v := .ref (ad 3)) B h hin1 7 0 rfl rfl (by decide) (by decide +kernel) rfl dX1_countWays_95 ?_
              refine x_get (ci := 9) (C := RX9) (T := TX9) (N := 7) (v := .ref (ad 15)) B h hin9 3 2 rfl rfl (by decide) (by decide +kernel) rfl dX1_countWays_98 ?_
              refine lv_iload hx hb dX1_countWays_101 (lv_at hl 0 rfl) ?_
              obtain ⟨hb_10, hR⟩ := hR
              refine va_iald (f := (t.2.2.1 3)) hx hb B.2.1 h.1 15 0 rfl rfl hb_10 dX1_countWays_103 ?_
              refine lv_topi (fun v_10 ev_10 => ?_)
              have hR := hR v_10 ev_10
              refine lv_aload_n hx hb dX1_countWays_104 rfl (lv_at hl 1 rfl) ?_
              refine x_get (ci := 1) (C := RX1) (T := TX1) (N := 7) (v := .ref (ad 3)) B h hin1 7 0 rfl rfl (by decide) (by decide +kernel) rfl dX1_countWays_105 ?_
              refine x_get (ci := 9) (C := RX9) (T := TX9) (N := 7) (v := .ref (ad 15)) B h hin9 3 2 rfl rfl (by decide) (by decide +kernel) rfl dX1_countWays_108 ?_
              refine lv_iload_n hx hb dX1_countWays_111 rfl (lv_at hl 3 rfl) ?_
              obtain ⟨hb_11, hR⟩ := hR
              refine va_iald (f := (t.2.2.1 3)) hx hb B.2.1 h.1 15 0 rfl rfl hb_11 dX1_countWays_112 ?_
              refine lv_topi (fun v_11 ev_11 => ?_)
              have hR := hR v_11 ev_11
              refine lv_icmp_ne (tgt := 153) hx hb dX1_countWays_113 (by decide) (fun c_12 => ?_) (fun c_12 => ?_)
              · have hR := hR.1 c_12
                exact ih.2.2 t (uI li 4 v_5) lj H locs ls hR (lv_sub hl [1, 2, 3, 4, 0] rfl) h
              · have hR := hR.2 c_12
                refine lv_aload_n hx hb dX1_countWays_116 rfl (lv_at hl 1 rfl) ?_
                refine x_get (ci := 1) (C := RX1) (T := TX1) (N := 7) (v := .ref (ad 4)) B h hin1 7 1 rfl rfl (by decide) (by decide +kernel) rfl dX1_countWays_117 ?_
                refine x_get (ci := 6) (C := RX6) (T := TX6) (N := 6) (v := .ref (ad 20)) B h hin6 4 1 rfl rfl (by decide) (by decide +kernel) rfl dX1_countWays_120 ?_
                refine lv_iload hx hb dX1_countWays_123 (lv_at hl 0 rfl) ?_
                obtain ⟨hb_13, hR⟩ := hR
                refine va_iald (f := (t.2.2.1 5)) hx hb B.2.1 h.1 20 0 rfl rfl hb_13 dX1_countWays_125 ?_
                refine lv_topi (fun v_13 ev_13 => ?_)
                have hR := hR v_13 ev_13
                refine lv_iload hx hb dX1_countWays_126 (lv_at hl 0 rfl) ?_
                refine lv_icmp_le (tgt := 153) hx hb dX1_countWays_128 (by decide) (fun c_14 => ?_) (fun c_14 => ?_)
                · have hR := hR.1 c_14
                  exact ih.2.2 t (uI li 4 v_5) lj H locs ls hR (lv_sub hl [1, 2, 3, 4, 0] rfl) h
                · have hR := hR.2 c_14
                  refine lv_aload_n hx hb dX1_countWays_131 rfl (lv_at hl 1 rfl) ?_
                  refine x_get (ci := 1) (C := RX1) (T := TX1) (N := 7) (v := .ref (ad 24)) B h hin1 7 4 rfl rfl (by decide) (by decide +kernel) rfl dX1_countWays_132 ?_
                  refine lv_iload hx hb dX1_countWays_135 (lv_at hl 0 rfl) ?_
                  refine lv_aload_n hx hb dX1_countWays_137 rfl (lv_at hl 1 rfl) ?_
                  refine x_get (ci := 1) (C := RX1) (T := TX1) (N := 7) (v := .ref (ad 24)) B h hin1 7 4 rfl rfl (by decide) (by decide +kernel) rfl dX1_countWays_138 ?_
                  refine lv_aload_n hx hb dX1_countWays_141 rfl (lv_at hl 1 rfl) ?_
                  refine x_get (ci := 1) (C := RX1) (T := TX1) (N := 7) (v := .ref (ad 4)) B h hin1 7 1 rfl rfl (by decide) (by decide +kernel) rfl dX1_countWays_142 ?_
                  refine x_get (ci := 6) (C := RX6) (T := TX6) (N := 6) (v := .ref (ad 20)) B h hin6 4 1 rfl rfl (by decide) (by decide +kernel) rfl dX1_countWays_145 ?_
                  refine lv_iload hx hb dX1_countWays_148 (lv_at hl 0 rfl) ?_
                  obtain ⟨hb_15, hR⟩ := hR
                  refine va_iald (f := (t.2.2.1 5)) hx hb B.2.1 h.1 20 0 rfl rfl hb_15 dX1_countWays_150 ?_
                  refine lv_topi (fun v_15 ev_15 => ?_)
                  have hR := hR v_15 ev_15
                  obtain ⟨hb_16, hR⟩ := hR
                  refine va_lald (f := (t.2.2.2 4)) hx hb B.2.1 h.1 24 1 rfl rfl hb_16 dX1_countWays_151 ?_
                  refine lv_topl (fun v_16 ev_16 => ?_)
                  have hR := hR v_16 ev_16
                  obtain ⟨hb_17, hR⟩ := hR
                  refine z_last (f := (t.2.2.2 4)) B h 24 1 rfl rfl hb_17 dX1_countWays_152 (fun H locs h => ?_)
                  obtain ⟨t_17, et_17⟩ : ∃ v : XT, v = sB t 4 (vp_updL (t.2.2.2 4) v_5.toNatClampNeg v_16) := ⟨_, rfl⟩
                  have hR := hR t_17 et_17
                  have h : Hp D A s.heap (wX cI cJ cB cZ ad t_17) H locs := by rw [et_17]; exact h
                  exact ih.2.2 t_17 (uI li 4 v_5) lj H locs ls hR (lv_sub hl [1, 2, 3, 4, 0] rfl) h
            · have hR := hR.2 c_9
              refine lv_aload_n hx hb dX1_countWays_78 rfl (lv_at hl 1 rfl) ?_
              refine x_get (ci := 1) (C := RX1) (T := TX1) (N := 7) (v := .ref (ad 24)) B h hin1 7 4 rfl rfl (by decide) (by decide +kernel) rfl dX1_countWays_79 ?_
              refine lv_iload hx hb dX1_countWays_82 (lv_at hl 0 rfl) ?_
              refine lv_aload_n hx hb dX1_countWays_84 rfl (lv_at hl 1 rfl) ?_
              refine lv_iload hx hb dX1_countWays_85 (lv_at hl 0 rfl) ?_
              refine x_cVLF (n := 1) (As := [.int v_5]) (rest := [.int v_5, .ref (ad 24)]) B h (wkX1_waysDown l D cI cJ cB cZ ad k t v_5 _ hR) ⟨⟨_, rfl⟩, by decide +kernel, Nat.le_of_ble_eq_true rfl, Nat.le_of_ble_eq_true rfl⟩ gX1_countWays_X1_waysDown (show ((wX cI cJ cB cZ ad t) : va_W)[7]? = some (_, .inr (1, _)) from rfl) rfl rfl hl.1 rfl (Nat.le_of_ble_eq_true rfl) dX1_countWays_87 ⟨Nat.le_of_ble_eq_true rfl, Nat.le_of_ble_eq_true rfl⟩ (fun r_18 t_18 H locs hR h => ?_)
              obtain ⟨hb_19, hR⟩ := hR
              refine z_last (f := (t_18.2.2.2 4)) B h 24 1 rfl rfl hb_19 dX1_countWays_90 (fun H locs h => ?_)
              obtain ⟨t_19, et_19⟩ : ∃ v : XT, v = sB t_18 4 (vp_updL (t_18.2.2.2 4) v_5.toNatClampNeg r_18) := ⟨_, rfl⟩
              have hR := hR t_19 et_19
              have h : Hp D A s.heap (wX cI cJ cB cZ ad t_19) H locs := by rw [et_19]; exact h
              refine lv_goto (tgt := 153) hx hb dX1_countWays_91 (by decide) ?_
              exact ih.2.2 t_19 (uI li 4 v_5) lj H locs ls hR (lv_sub hl [1, 2, 3, 4, 0] rfl) h
          · have hR := hR.2 c_6
            refine lv_aload_n hx hb dX1_countWays_45 rfl (lv_at hl 1 rfl) ?_
            refine x_get (ci := 1) (C := RX1) (T := TX1) (N := 7) (v := .ref (ad 24)) B h hin1 7 4 rfl rfl (by decide) (by decide +kernel) rfl dX1_countWays_46 ?_
            refine lv_iload hx hb dX1_countWays_49 (lv_at hl 0 rfl) ?_
            refine lv_lconst (v := 1) hx hb dX1_countWays_51 (by decide) ?_
            obtain ⟨hb_20, hR⟩ := hR
            refine z_last (f := (t.2.2.2 4)) B h 24 1 rfl rfl hb_20 dX1_countWays_52 (fun H locs h => ?_)
            obtain ⟨t_20, et_20⟩ : ∃ v : XT, v = sB t 4 (vp_updL (t.2.2.2 4) v_5.toNatClampNeg 1) := ⟨_, rfl⟩
            have hR := hR t_20 et_20
            have h : Hp D A s.heap (wX cI cJ cB cZ ad t_20) H locs := by rw [et_20]; exact h
            refine lv_goto (tgt := 153) hx hb dX1_countWays_53 (by decide) ?_
            exact ih.2.2 t_20 (uI li 4 v_5) lj H locs ls hR (lv_sub hl [1, 2, 3, 4, 0] rfl) h
      · intro t li lj H locs ls hR hl h
        have hR : wbX1_countWays_2 (wpX1_countWays k) k t li lj Q := hR
        unfold wbX1_countWays_2 at hR
        obtain ⟨v_21, ev_21⟩ : ∃ v : Int32, v = (li 3) + Int32.ofInt 1 := ⟨_, rfl⟩
        have hR := hR v_21 ev_21
        refine lv_iinc (v := v_21) (lv' := [(3, .int v_21), (0, .ref (ad 7)), (1, .int (li 1)), (2, .int (li 2)), (4, .int (li 4))]) hx hb dX1_countWays_153 hl (k := 3) rfl ev_21.symm (by decide) rfl (fun ls hl => ?_)
        refine lv_goto (tgt := 17) hx hb dX1_countWays_156 (by decide) ?_
        exact ih.2.1 t (uI li 3 v_21) lj H locs ls hR (lv_sub hl [1, 2, 3, 0] rfl) h
  exact (main k).1 t _ _ s.heap [] ls hR hl h
set_option maxRecDepth 20000 in
theorem ggX1_chosenFace_X6_below : GoodIn wsX1_chosenFace wsX6_below := goodIn_r _ [8, 9, 10, 11, 12, 30, 31, 32, 33, 34, 35, 36, 37, 38, 39, 40, 41, 42] (by decide +kernel) (by decide +kernel)
set_option maxRecDepth 20000 in
theorem gX1_chosenFace_X6_below : GoodIn wsX1_chosenFace (wsV RX1 68 RX6 yX6_below wsX6_below) := goodIn_app (goodIn_of _ (by decide +kernel)) ggX1_chosenFace_X6_below
set_option maxRecDepth 20000 in
theorem ggX1_chosenFace_X11_lowest : GoodIn wsX1_chosenFace wsX11_lowest := goodIn_r _ [15, 16, 17, 18, 19, 20, 21, 22] (by decide +kernel) (by decide +kernel)
set_option maxRecDepth 20000 in
theorem gX1_chosenFace_X11_lowest_n74 : GoodIn wsX1_chosenFace (wsX11_lowest) := ggX1_chosenFace_X11_lowest
def wbX1_chosenFace_0 (rec : Nat → XT → (Nat → Int32) → (Nat → Int64) → (Int32 → XT → Prop) → Prop) (k : Nat) (t : XT) (li : Nat → Int32) (lj : Nat → Int64) (Q : Int32 → XT → Prop) : Prop :=
  (wqX6_below k t (li 1) (fun r_1 t_1 => (wqX11_lowest k r_1 (fun r_2 => rec 1 t_1 (uI (uI li 4 r_2) 5 0) (uI lj 2 r_1) Q))))
def wbX1_chosenFace_1 (rec : Nat → XT → (Nat → Int32) → (Nat → Int64) → (Int32 → XT → Prop) → Prop) (k : Nat) (t : XT) (li : Nat → Int32) (lj : Nat → Int64) (Q : Int32 → XT → Prop) : Prop :=
  (((5 : Int32) ≤ (li 5)) → rec 2 t li lj Q) ∧ (¬ ((5 : Int32) ≤ (li 5)) → (∀ v_4 : Int32, v_4 = (lg_cmp (lj 2) 0) → ((v_4 = 0) → rec 2 t li lj Q) ∧ (¬ (v_4 = 0) → (wqX11_lowest k (lj 2) (fun r_6 => (vp_in r_6 64 ∧ (∀ v_7 : Int64, v_7 = (t.2.2.2 4) r_6.toNatClampNeg → (∀ v_8 : Int32, v_8 = (lg_cmp (t.2.1 5) v_7) → (((0 : Int32) ≤ v_8) → (vp_in r_6 64 ∧ (∀ v_10 : Int64, v_10 = (t.2.2.2 4) r_6.toNatClampNeg → (∀ v_11 : Int64, v_11 = ((t.2.1 5) - v_10) → (∀ t_12 : XT, t_12 = sJ t 5 v_11 → (∀ v_13 : Int64, v_13 = ((lj 2) - 1) → (∀ v_14 : Int64, v_14 = ((lj 2) &&& v_13) → (∀ v_15 : Int32, v_15 = (li 5) + Int32.ofInt 1 → rec 1 t_12 (uI (uI li 4 r_6) 5 v_15) (uI lj 2 v_14) Q)))))))) ∧ (¬ ((0 : Int32) ≤ v_8) → Q r_6 t)))))))))
def wbX1_chosenFace_2 (rec : Nat → XT → (Nat → Int32) → (Nat → Int64) → (Int32 → XT → Prop) → Prop) (k : Nat) (t : XT) (li : Nat → Int32) (lj : Nat → Int64) (Q : Int32 → XT → Prop) : Prop :=
  Q (li 4) t
def wpX1_chosenFace : Nat → Nat → XT → (Nat → Int32) → (Nat → Int64) → (Int32 → XT → Prop) → Prop
  | 0, _, _, _, _, _ => False
  | k + 1, 0, t, li, lj, Q => wbX1_chosenFace_0 (wpX1_chosenFace k) k t li lj Q
  | k + 1, 1, t, li, lj, Q => wbX1_chosenFace_1 (wpX1_chosenFace k) k t li lj Q
  | k + 1, 2, t, li, lj, Q => wbX1_chosenFace_2 (wpX1_chosenFace k) k t li lj Q
  | _ + 1, _, _, _, _, _ => False
def wqX1_chosenFace (k : Nat) (t : XT) (a1 : Int32) (Q : Int32 → XT → Prop) : Prop := wpX1_chosenFace k 0 t (uI (fun _ => 0) 1 a1) (fun _ => 0) Q
set_option maxHeartbeats 8000000 in
set_option maxRecDepth 100000 in
theorem wkX1_chosenFace (l : Launch) (D : va_G) (cI cJ cB cZ : ClassId) (ad : Nat → Nat) (k : Nat) (t : XT) (a1 : Int32) (Q : Int32 → XT → Prop) (hR : wqX1_chosenFace k t a1 Q) : MetI l yX1_chosenFace wsX1_chosenFace 2 42 0 0 D (TYS cI cJ cB cZ) (wX cI cJ cB cZ ad t) [.ref (ad 7), .int a1] (fun r u => Q r u) (fun u : XT => (wX cI cJ cB cZ ad u)) := by
  refine x_startI (ty := .int) (cc := cX1_chosenFace) (by decide) rfl (Nat.le_of_ble_eq_true rfl) ?_
  intro p e s m args below meth c A ls B hr hnm h hl
  have hx := B.1.1
  have hb := B.1.2.1
  have hml := B.1.2.2.1
  have hts := B.1.2.2.2.2
  have hown : s.vm.findClass RX1 = some m.cls := B.1.2.2.2.1
  have hin1 : ∀ w ∈ u_ws RX1 TX1 7, w ∈ wsX1_chosenFace := by decide +kernel
  have main : ∀ k : Nat, (∀ (t : XT) (li : Nat → Int32) (lj : Nat → Int64) (H : Heap) (locs : List Loc) (ls : Array Slot), wpX1_chosenFace k 0 t li lj Q → lv_has ls 6 [(0, .ref (ad 7)), (1, .int (li 1))] → Hp D A s.heap (wX cI cJ cB cZ ad t) H locs → W p l e { frames := 2, cells := 0, slots := 0, locals := 42 } s m args below meth c H locs 0 0 (MQ below (va_Qi (fun r u => Q r u) (fun u t => xEnd D ((fun u : XT => (wX cI cJ cB cZ ad u)) u) A t) A) args s 0 0 A) (F0 m 0 ls [])) ∧
      (∀ (t : XT) (li : Nat → Int32) (lj : Nat → Int64) (H : Heap) (locs : List Loc) (ls : Array Slot), wpX1_chosenFace k 1 t li lj Q → lv_has ls 6 [(0, .ref (ad 7)), (1, .int (li 1)), (2, .long (lj 2)), (4, .int (li 4)), (5, .int (li 5))] → Hp D A s.heap (wX cI cJ cB cZ ad t) H locs → W p l e { frames := 2, cells := 0, slots := 0, locals := 42 } s m args below meth c H locs 0 0 (MQ below (va_Qi (fun r u => Q r u) (fun u t => xEnd D ((fun u : XT => (wX cI cJ cB cZ ad u)) u) A t) A) args s 0 0 A) (F0 m 18 ls [])) ∧
      (∀ (t : XT) (li : Nat → Int32) (lj : Nat → Int64) (H : Heap) (locs : List Loc) (ls : Array Slot), wpX1_chosenFace k 2 t li lj Q → lv_has ls 6 [(0, .ref (ad 7)), (1, .int (li 1)), (2, .long (lj 2)), (4, .int (li 4)), (5, .int (li 5))] → Hp D A s.heap (wX cI cJ cB cZ ad t) H locs → W p l e { frames := 2, cells := 0, slots := 0, locals := 42 } s m args below meth c H locs 0 0 (MQ below (va_Qi (fun r u => Q r u) (fun u t => xEnd D ((fun u : XT => (wX cI cJ cB cZ ad u)) u) A t) A) args s 0 0 A) (F0 m 82 ls [])) := by
    intro k
    induction k with
    | zero => exact ⟨fun _ _ _ _ _ _ hR => False.elim hR, fun _ _ _ _ _ _ hR => False.elim hR, fun _ _ _ _ _ _ hR => False.elim hR⟩
    | succ k ih =>
      refine ⟨?_, ?_, ?_⟩
      · intro t li lj H locs ls hR hl h
        have hR : wbX1_chosenFace_0 (wpX1_chosenFace k) k t li lj Q := hR
        unfold wbX1_chosenFace_0 at hR
        refine lv_aload_n hx hb dX1_chosenFace_0 rfl (lv_at hl 0 rfl) ?_
        refine x_get (ci := 1) (C := RX1) (T := TX1) (N := 7) (v := .ref (ad 4)) B h hin1 7 1 rfl rfl (by decide) (by decide +kernel) rfl dX1_chosenFace_1 ?_
        refine lv_iload_n hx hb dX1_chosenFace_4 rfl (lv_at hl 1 rfl) ?_
        refine x_cVLF (n := 1) (As := [.int (li 1)]) (rest := []) B h (wkX6_below l D cI cJ cB cZ ad k t (li 1) _ hR) ⟨⟨_, rfl⟩, by decide +kernel, Nat.le_of_ble_eq_true rfl, Nat.le_of_ble_eq_true rfl⟩ gX1_chosenFace_X6_below (show ((wX cI cJ cB cZ ad t) : va_W)[4]? = some (_, .inr (6, _)) from rfl) rfl rfl hl.1 rfl (Nat.le_of_ble_eq_true rfl) dX1_chosenFace_5 ⟨Nat.le_of_ble_eq_true rfl, Nat.le_of_ble_eq_true rfl⟩ (fun r_1 t_1 H locs hR h => ?_)
        refine lv_lstore_n (lv' := [(2, .long r_1), (0, .ref (ad 7)), (1, .int (li 1))]) hx hb dX1_chosenFace_8 rfl hl (by decide) rfl (fun ls hl => ?_)
        refine lv_lload_n hx hb dX1_chosenFace_9 rfl (lv_at hl 0 rfl) ?_
        refine x_cNIE (n := 1) (As := [.long r_1]) (rest := []) B h (wkX11_lowest l D cI cJ cB cZ ad k r_1 _ hR) ⟨⟨_, rfl⟩, by decide +kernel, Nat.le_of_ble_eq_true rfl, Nat.le_of_ble_eq_true rfl⟩ gX1_chosenFace_X11_lowest_n74 (by decide +kernel) (by decide +kernel) (host := "MorseDesk") (by decide +kernel) rfl hl.1 rfl (Nat.le_of_ble_eq_true rfl) dX1_chosenFace_10 ⟨Nat.le_of_ble_eq_true rfl, Nat.le_of_ble_eq_true rfl⟩ (fun r_2 _ H locs hR h => ?_)
        refine lv_istore (lv' := [(4, .int r_2), (2, .long r_1), (0, .ref (ad 7)), (1, .int (li 1))]) hx hb dX1_chosenFace_13 hl (by decide) rfl (fun ls hl => ?_)
        refine lv_iconst (v := 0) hx hb dX1_chosenFace_15 (by decide) ?_
        refine lv_istore (lv' := [(5, .int 0), (4, .int r_2), (2, .long r_1), (0, .ref (ad 7)), (1, .int (li 1))]) hx hb dX1_chosenFace_16 hl (by decide) rfl (fun ls hl => ?_)
        exact ih.2.1 t_1 (uI (uI li 4 r_2) 5 0) (uI lj 2 r_1) H locs ls hR (lv_sub hl [3, 4, 2, 1, 0] rfl) h
      · intro t li lj H locs ls hR hl h
        have hR : wbX1_chosenFace_1 (wpX1_chosenFace k) k t li lj Q := hR
        unfold wbX1_chosenFace_1 at hR
        refine lv_iload hx hb dX1_chosenFace_18 (lv_at hl 4 rfl) ?_
        refine lv_iconst (v := 5) hx hb dX1_chosenFace_20 (by decide) ?_
        refine lv_icmp_ge (tgt := 82) hx hb dX1_chosenFace_21 (by decide) (fun c_3 => ?_) (fun c_3 => ?_)
        · have hR := hR.1 c_3
          exact ih.2.2 t li lj H locs ls hR (lv_sub hl [0, 1, 2, 3, 4] rfl) h
        · have hR := hR.2 c_3
          refine lv_lload_n hx hb dX1_chosenFace_24 rfl (lv_at hl 2 rfl) ?_
          refine lv_lconst (v := 0) hx hb dX1_chosenFace_25 (by decide) ?_
          refine W.lcmp hx hb dX1_chosenFace_26 ?_
          refine lv_topi (fun v_4 ev_4 => ?_)
          have hR := hR v_4 ev_4
          refine lv_if_eq (tgt := 82) hx hb dX1_chosenFace_27 (by decide) (fun c_5 => ?_) (fun c_5 => ?_)
          · have hR := hR.1 c_5
            exact ih.2.2 t li lj H locs ls hR (lv_sub hl [0, 1, 2, 3, 4] rfl) h
          · have hR := hR.2 c_5
            refine lv_lload_n hx hb dX1_chosenFace_30 rfl (lv_at hl 2 rfl) ?_
            refine x_cNIE (n := 1) (As := [.long (lj 2)]) (rest := []) B h (wkX11_lowest l D cI cJ cB cZ ad k (lj 2) _ hR) ⟨⟨_, rfl⟩, by decide +kernel, Nat.le_of_ble_eq_true rfl, Nat.le_of_ble_eq_true rfl⟩ gX1_chosenFace_X11_lowest_n74 (by decide +kernel) (by decide +kernel) (host := "MorseDesk") (by decide +kernel) rfl hl.1 rfl (Nat.le_of_ble_eq_true rfl) dX1_chosenFace_31 ⟨Nat.le_of_ble_eq_true rfl, Nat.le_of_ble_eq_true rfl⟩ (fun r_6 _ H locs hR h => ?_)
            refine lv_istore (lv' := [(4, .int r_6), (0, .ref (ad 7)), (1, .int (li 1)), (2, .long (lj 2)), (5, .int (li 5))]) hx hb dX1_chosenFace_34 hl (by decide) rfl (fun ls hl => ?_)
            refine lv_aload_n hx hb dX1_chosenFace_36 rfl (lv_at hl 1 rfl) ?_
            refine x_get (ci := 1) (C := RX1) (T := TX1) (N := 7) (v := .long (t.2.1 5)) B h hin1 7 6 rfl rfl (by decide) (by decide +kernel) rfl dX1_chosenFace_37 ?_
            refine lv_aload_n hx hb dX1_chosenFace_40 rfl (lv_at hl 1 rfl) ?_
            refine x_get (ci := 1) (C := RX1) (T := TX1) (N := 7) (v := .ref (ad 24)) B h hin1 7 4 rfl rfl (by decide) (by decide +kernel) rfl dX1_chosenFace_41 ?_
            refine lv_iload hx hb dX1_chosenFace_44 (lv_at hl 0 rfl) ?_
            obtain ⟨hb_7, hR⟩ := hR
            refine va_lald (f := (t.2.2.2 4)) hx hb B.2.1 h.1 24 1 rfl rfl hb_7 dX1_chosenFace_46 ?_
            refine lv_topl (fun v_7 ev_7 => ?_)
            have hR := hR v_7 ev_7
            refine W.lcmp hx hb dX1_chosenFace_47 ?_
            refine lv_topi (fun v_8 ev_8 => ?_)
            have hR := hR v_8 ev_8
            refine lv_if_ge (tgt := 54) hx hb dX1_chosenFace_48 (by decide) (fun c_9 => ?_) (fun c_9 => ?_)
            · have hR := hR.1 c_9
              refine lv_aload_n hx hb dX1_chosenFace_54 rfl (lv_at hl 1 rfl) ?_
              refine lv_dup hx hb dX1_chosenFace_55 rfl ?_
              refine x_get (ci := 1) (C := RX1) (T := TX1) (N := 7) (v := .long (t.2.1 5)) B h hin1 7 6 rfl rfl (by decide) (by decide +kernel) rfl dX1_chosenFace_56 ?_
              refine lv_aload_n hx hb dX1_chosenFace_59 rfl (lv_at hl 1 rfl) ?_
              refine x_get (ci := 1) (C := RX1) (T := TX1) (N := 7) (v := .ref (ad 24)) B h hin1 7 4 rfl rfl (by decide) (by decide +kernel) rfl dX1_chosenFace_60 ?_
              refine lv_iload hx hb dX1_chosenFace_63 (lv_at hl 0 rfl) ?_
              obtain ⟨hb_10, hR⟩ := hR
              refine va_lald (f := (t.2.2.2 4)) hx hb B.2.1 h.1 24 1 rfl rfl hb_10 dX1_chosenFace_65 ?_
              refine lv_topl (fun v_10 ev_10 => ?_)
              have hR := hR v_10 ev_10
              refine lv_lsub hx hb dX1_chosenFace_66 ?_
              refine lv_topl (fun v_11 ev_11 => ?_)
              have hR := hR v_11 ev_11
              refine x_put (ci := 1) (C := RX1) (T := TX1) (N := 7) (v := .long v_11) (ty := .long) B h hin1 tyX1 tyX1_ok nmX1 7 6 rfl rfl (by decide) (by decide +kernel) rfl rfl rfl rfl (Nat.le_of_ble_eq_true rfl) dX1_chosenFace_67 (fun H locs h => ?_)
              obtain ⟨t_12, et_12⟩ : ∃ v : XT, v = sJ t 5 v_11 := ⟨_, rfl⟩
              have hR := hR t_12 et_12
              have h : Hp D A s.heap (wX cI cJ cB cZ ad t_12) H locs := by rw [et_12]; exact h
              refine lv_lload_n hx hb dX1_chosenFace_70 rfl (lv_at hl 3 rfl) ?_
              refine lv_lload_n hx hb dX1_chosenFace_71 rfl (lv_at hl 3 rfl) ?_
              refine lv_lconst (v := 1) hx hb dX1_chosenFace_72 (by decide) ?_
              refine lv_lsub hx hb dX1_chosenFace_73 ?_
              refine lv_topl (fun v_13 ev_13 => ?_)
              have hR := hR v_13 ev_13
              refine lv_land hx hb dX1_chosenFace_74 ?_
              refine lv_topl (fun v_14 ev_14 => ?_)
              have hR := hR v_14 ev_14
              refine lv_lstore_n (lv' := [(2, .long v_14), (4, .int r_6), (0, .ref (ad 7)), (1, .int (li 1)), (5, .int (li 5))]) hx hb dX1_chosenFace_75 rfl hl (by decide) rfl (fun ls hl => ?_)
              obtain ⟨v_15, ev_15⟩ : ∃ v : Int32, v = (li 5) + Int32.ofInt 1 := ⟨_, rfl⟩
              have hR := hR v_15 ev_15
              refine lv_iinc (v := v_15) (lv' := [(5, .int v_15), (2, .long v_14), (4, .int r_6), (0, .ref (ad 7)), (1, .int (li 1))]) hx hb dX1_chosenFace_76 hl (k := 4) rfl ev_15.symm (by decide) rfl (fun ls hl => ?_)
              refine lv_goto (tgt := 18) hx hb dX1_chosenFace_79 (by decide) ?_
              exact ih.2.1 t_12 (uI (uI li 4 r_6) 5 v_15) (uI lj 2 v_14) H locs ls hR (lv_sub hl [3, 4, 1, 2, 0] rfl) h
            · have hR := hR.2 c_9
              refine lv_iload hx hb dX1_chosenFace_51 (lv_at hl 0 rfl) ?_
              exact x_iret (w1 := (fun u : XT => (wX cI cJ cB cZ ad u))) t B h hr rfl hR dX1_chosenFace_53
      · intro t li lj H locs ls hR hl h
        have hR : wbX1_chosenFace_2 (wpX1_chosenFace k) k t li lj Q := hR
        unfold wbX1_chosenFace_2 at hR
        refine lv_iload hx hb dX1_chosenFace_82 (lv_at hl 3 rfl) ?_
        exact x_iret (w1 := (fun u : XT => (wX cI cJ cB cZ ad u))) t B h hr rfl hR dX1_chosenFace_84
  exact (main k).1 t _ _ s.heap [] ls hR hl h
set_option maxRecDepth 20000 in
theorem ggX1_trace_X1_chosenFace : GoodIn wsX1_trace wsX1_chosenFace := goodIn_r _ [9, 3, 1, 10, 11, 12, 13, 14, 15, 16, 17, 18, 19, 20, 21, 22, 23, 24, 25, 26, 27, 28, 29, 30, 31, 32, 33, 34, 35, 36, 37, 38, 39, 40, 41, 42, 43, 44, 45, 46, 47, 48, 49] (by decide +kernel) (by decide +kernel)
set_option maxRecDepth 20000 in
theorem gX1_trace_X1_chosenFace : GoodIn wsX1_trace (wsV RX1 92 RX1 yX1_chosenFace wsX1_chosenFace) := goodIn_app (goodIn_of _ (by decide +kernel)) ggX1_trace_X1_chosenFace
def wbX1_trace_0 (rec : Nat → XT → (Nat → Int32) → (Nat → Int64) → (Int32 → XT → Prop) → Prop) (k : Nat) (t : XT) (li : Nat → Int32) (lj : Nat → Int64) (Q : Int32 → XT → Prop) : Prop :=
  (∀ t_1 : XT, t_1 = sJ t 5 (lj 3) → (vp_in (0 : Int32) 64 ∧ (∀ t_2 : XT, t_2 = sA t_1 8 (upd (t_1.2.2.1 8) (0 : Int32).toNatClampNeg (li 1)) → rec 1 t_2 (uI (uI li 5 1) 6 (li 1)) lj Q)))
def wbX1_trace_1 (rec : Nat → XT → (Nat → Int32) → (Nat → Int64) → (Int32 → XT → Prop) → Prop) (k : Nat) (t : XT) (li : Nat → Int32) (lj : Nat → Int64) (Q : Int32 → XT → Prop) : Prop :=
  (((li 6) = (li 2)) → rec 3 t li lj Q) ∧ (¬ ((li 6) = (li 2)) → (∀ v_4 : Int32, v_4 = ((li 5) + 2) → (((64 : Int32) ≤ v_4) → rec 3 t li lj Q) ∧ (¬ ((64 : Int32) ≤ v_4) → (wqX1_chosenFace k t (li 6) (fun r_6 t_6 => (vp_in (li 5) 64 ∧ (∀ t_7 : XT, t_7 = sA t_6 8 (upd (t_6.2.2.1 8) (li 5).toNatClampNeg r_6) → (∀ v_8 : Int32, v_8 = (li 5) + Int32.ofInt 1 → ((r_6 = (li 2)) → rec 2 t_7 (uI (uI (uI li 5 v_8) 6 r_6) 7 r_6) lj Q) ∧ (¬ (r_6 = (li 2)) → (vp_in r_6 64 ∧ (∀ v_10 : Int32, v_10 = (t_7.2.2.1 5) r_6.toNatClampNeg → ((v_10 = (-1)) → rec 2 t_7 (uI (uI (uI li 5 v_8) 6 r_6) 7 r_6) lj Q) ∧ (¬ (v_10 = (-1)) → (vp_in r_6 64 ∧ (∀ v_12 : Int32, v_12 = (t_7.2.2.1 5) r_6.toNatClampNeg → (vp_in v_8 64 ∧ (∀ t_13 : XT, t_13 = sA t_7 8 (upd (t_7.2.2.1 8) v_8.toNatClampNeg v_12) → (∀ v_14 : Int32, v_14 = v_8 + Int32.ofInt 1 → rec 2 t_13 (uI (uI (uI li 5 v_14) 6 v_12) 7 r_6) lj Q)))))))))))))))))
def wbX1_trace_2 (rec : Nat → XT → (Nat → Int32) → (Nat → Int64) → (Int32 → XT → Prop) → Prop) (k : Nat) (t : XT) (li : Nat → Int32) (lj : Nat → Int64) (Q : Int32 → XT → Prop) : Prop :=
  rec 1 t li lj Q
def wbX1_trace_3 (rec : Nat → XT → (Nat → Int32) → (Nat → Int64) → (Int32 → XT → Prop) → Prop) (k : Nat) (t : XT) (li : Nat → Int32) (lj : Nat → Int64) (Q : Int32 → XT → Prop) : Prop :=
  Q (li 5) t
def wpX1_trace : Nat → Nat → XT → (Nat → Int32) → (Nat → Int64) → (Int32 → XT → Prop) → Prop
  | 0, _, _, _, _, _ => False
  | k + 1, 0, t, li, lj, Q => wbX1_trace_0 (wpX1_trace k) k t li lj Q
  | k + 1, 1, t, li, lj, Q => wbX1_trace_1 (wpX1_trace k) k t li lj Q
  | k + 1, 2, t, li, lj, Q => wbX1_trace_2 (wpX1_trace k) k t li lj Q
  | k + 1, 3, t, li, lj, Q => wbX1_trace_3 (wpX1_trace k) k t li lj Q
  | _ + 1, _, _, _, _, _ => False
def wqX1_trace (k : Nat) (t : XT) (a1 : Int32) (a2 : Int32) (a3 : Int64) (Q : Int32 → XT → Prop) : Prop := wpX1_trace k 0 t (uI (uI (fun _ => 0) 1 a1) 2 a2) (uI (fun _ => 0) 3 a3) Q
set_option maxHeartbeats 8000000 in
set_option maxRecDepth 100000 in
theorem wkX1_trace (l : Launch) (D : va_G) (cI cJ cB cZ : ClassId) (ad : Nat → Nat) (k : Nat) (t : XT) (a1 : Int32) (a2 : Int32) (a3 : Int64) (Q : Int32 → XT → Prop) (hR : wqX1_trace k t a1 a2 a3 Q) : MetI l yX1_trace wsX1_trace 3 67 0 0 D (TYS cI cJ cB cZ) (wX cI cJ cB cZ ad t) [.ref (ad 7), .int a1, .int a2, .long a3] (fun r u => Q r u) (fun u : XT => (wX cI cJ cB cZ ad u)) := by
  refine x_startI (ty := .int) (cc := cX1_trace) (by decide) rfl (Nat.le_of_ble_eq_true rfl) ?_
  intro p e s m args below meth c A ls B hr hnm h hl
  have hx := B.1.1
  have hb := B.1.2.1
  have hml := B.1.2.2.1
  have hts := B.1.2.2.2.2
  have hown : s.vm.findClass RX1 = some m.cls := B.1.2.2.2.1
  have hin1 : ∀ w ∈ u_ws RX1 TX1 7, w ∈ wsX1_trace := by decide +kernel
  have hin6 : ∀ w ∈ u_ws RX6 TX6 6, w ∈ wsX1_trace := by decide +kernel
  have main : ∀ k : Nat, (∀ (t : XT) (li : Nat → Int32) (lj : Nat → Int64) (H : Heap) (locs : List Loc) (ls : Array Slot), wpX1_trace k 0 t li lj Q → lv_has ls 8 [(0, .ref (ad 7)), (1, .int (li 1)), (2, .int (li 2)), (3, .long (lj 3))] → Hp D A s.heap (wX cI cJ cB cZ ad t) H locs → W p l e { frames := 3, cells := 0, slots := 0, locals := 67 } s m args below meth c H locs 0 0 (MQ below (va_Qi (fun r u => Q r u) (fun u t => xEnd D ((fun u : XT => (wX cI cJ cB cZ ad u)) u) A t) A) args s 0 0 A) (F0 m 0 ls [])) ∧
      (∀ (t : XT) (li : Nat → Int32) (lj : Nat → Int64) (H : Heap) (locs : List Loc) (ls : Array Slot), wpX1_trace k 1 t li lj Q → lv_has ls 8 [(0, .ref (ad 7)), (1, .int (li 1)), (2, .int (li 2)), (3, .long (lj 3)), (5, .int (li 5)), (6, .int (li 6))] → Hp D A s.heap (wX cI cJ cB cZ ad t) H locs → W p l e { frames := 3, cells := 0, slots := 0, locals := 67 } s m args below meth c H locs 0 0 (MQ below (va_Qi (fun r u => Q r u) (fun u t => xEnd D ((fun u : XT => (wX cI cJ cB cZ ad u)) u) A t) A) args s 0 0 A) (F0 m 18 ls [])) ∧
      (∀ (t : XT) (li : Nat → Int32) (lj : Nat → Int64) (H : Heap) (locs : List Loc) (ls : Array Slot), wpX1_trace k 2 t li lj Q → lv_has ls 8 [(0, .ref (ad 7)), (1, .int (li 1)), (2, .int (li 2)), (3, .long (lj 3)), (5, .int (li 5)), (6, .int (li 6)), (7, .int (li 7))] → Hp D A s.heap (wX cI cJ cB cZ ad t) H locs → W p l e { frames := 3, cells := 0, slots := 0, locals := 67 } s m args below meth c H locs 0 0 (MQ below (va_Qi (fun r u => Q r u) (fun u t => xEnd D ((fun u : XT => (wX cI cJ cB cZ ad u)) u) A t) A) args s 0 0 A) (F0 m 101 ls [])) ∧
      (∀ (t : XT) (li : Nat → Int32) (lj : Nat → Int64) (H : Heap) (locs : List Loc) (ls : Array Slot), wpX1_trace k 3 t li lj Q → lv_has ls 8 [(0, .ref (ad 7)), (1, .int (li 1)), (2, .int (li 2)), (3, .long (lj 3)), (5, .int (li 5)), (6, .int (li 6))] → Hp D A s.heap (wX cI cJ cB cZ ad t) H locs → W p l e { frames := 3, cells := 0, slots := 0, locals := 67 } s m args below meth c H locs 0 0 (MQ below (va_Qi (fun r u => Q r u) (fun u t => xEnd D ((fun u : XT => (wX cI cJ cB cZ ad u)) u) A t) A) args s 0 0 A) (F0 m 104 ls [])) := by
    intro k
    induction k with
    | zero => exact ⟨fun _ _ _ _ _ _ hR => False.elim hR, fun _ _ _ _ _ _ hR => False.elim hR, fun _ _ _ _ _ _ hR => False.elim hR, fun _ _ _ _ _ _ hR => False.elim hR⟩
    | succ k ih =>
      refine ⟨?_, ?_, ?_, ?_⟩
      · intro t li lj H locs ls hR hl h
        have hR : wbX1_trace_0 (wpX1_trace k) k t li lj Q := hR
        unfold wbX1_trace_0 at hR
        refine lv_aload_n hx hb dX1_trace_0 rfl (lv_at hl 0 rfl) ?_
        refine lv_lload_n hx hb dX1_trace_1 rfl (lv_at hl 3 rfl) ?_
        refine x_put (ci := 1) (C := RX1) (T := TX1) (N := 7) (v := .long (lj 3)) (ty := .long) B h hin1 tyX1 tyX1_ok nmX1 7 6 rfl rfl (by decide) (by decide +kernel) rfl rfl rfl rfl (Nat.le_of_ble_eq_true rfl) dX1_trace_2 (fun H locs h => ?_)
        obtain ⟨t_1, et_1⟩ : ∃ v : XT, v = sJ t 5 (lj 3) := ⟨_, rfl⟩
        have hR := hR t_1 et_1
        have h : Hp D A s.heap (wX cI cJ cB cZ ad t_1) H locs := by rw [et_1]; exact h
        refine lv_aload_n hx hb dX1_trace_5 rfl (lv_at hl 0 rfl) ?_
        refine x_get (ci := 1) (C := RX1) (T := TX1) (N := 7) (v := .ref (ad 25)) B h hin1 7 5 rfl rfl (by decide) (by decide +kernel) rfl dX1_trace_6 ?_
        refine lv_iconst (v := 0) hx hb dX1_trace_9 (by decide) ?_
        refine lv_iload_n hx hb dX1_trace_10 rfl (lv_at hl 1 rfl) ?_
        obtain ⟨hb_2, hR⟩ := hR
        refine z_iast (f := (t_1.2.2.1 8)) B h 25 0 rfl rfl hb_2 dX1_trace_11 (fun H locs h => ?_)
        obtain ⟨t_2, et_2⟩ : ∃ v : XT, v = sA t_1 8 (upd (t_1.2.2.1 8) (0 : Int32).toNatClampNeg (li 1)) := ⟨_, rfl⟩
        have hR := hR t_2 et_2
        have h : Hp D A s.heap (wX cI cJ cB cZ ad t_2) H locs := by rw [et_2]; exact h
        refine lv_iconst (v := 1) hx hb dX1_trace_12 (by decide) ?_
        refine lv_istore (lv' := [(5, .int 1), (0, .ref (ad 7)), (1, .int (li 1)), (2, .int (li 2)), (3, .long (lj 3))]) hx hb dX1_trace_13 hl (by decide) rfl (fun ls hl => ?_)
        refine lv_iload_n hx hb dX1_trace_15 rfl (lv_at hl 2 rfl) ?_
        refine lv_istore (lv' := [(6, .int (li 1)), (5, .int 1), (0, .ref (ad 7)), (1, .int (li 1)), (2, .int (li 2)), (3, .long (lj 3))]) hx hb dX1_trace_16 hl (by decide) rfl (fun ls hl => ?_)
        exact ih.2.1 t_2 (uI (uI li 5 1) 6 (li 1)) lj H locs ls hR (lv_sub hl [2, 3, 4, 5, 1, 0] rfl) h
      · intro t li lj H locs ls hR hl h
        have hR : wbX1_trace_1 (wpX1_trace k) k t li lj Q := hR
        unfold wbX1_trace_1 at hR
        refine lv_iload hx hb dX1_trace_18 (lv_at hl 5 rfl) ?_
        refine lv_iload_n hx hb dX1_trace_20 rfl (lv_at hl 2 rfl) ?_
        refine lv_icmp_eq (tgt := 104) hx hb dX1_trace_21 (by decide) (fun c_3 => ?_) (fun c_3 => ?_)
        · have hR := hR.1 c_3
          exact ih.2.2.2 t li lj H locs ls hR (lv_sub hl [0, 1, 2, 3, 4, 5] rfl) h
        · have hR := hR.2 c_3
          refine lv_iload hx hb dX1_trace_24 (lv_at hl 4 rfl) ?_
          refine lv_iconst (v := 2) hx hb dX1_trace_26 (by decide) ?_
          refine lv_iadd hx hb dX1_trace_27 ?_
          refine lv_topi (fun v_4 ev_4 => ?_)
          have hR := hR v_4 ev_4
          refine lv_bipush (v := 64) hx hb dX1_trace_28 (by decide) ?_
          refine lv_icmp_ge (tgt := 104) hx hb dX1_trace_30 (by decide) (fun c_5 => ?_) (fun c_5 => ?_)
          · have hR := hR.1 c_5
            exact ih.2.2.2 t li lj H locs ls hR (lv_sub hl [0, 1, 2, 3, 4, 5] rfl) h
          · have hR := hR.2 c_5
            refine lv_aload_n hx hb dX1_trace_33 rfl (lv_at hl 0 rfl) ?_
            refine lv_iload hx hb dX1_trace_34 (lv_at hl 5 rfl) ?_
            refine x_cVIF (n := 1) (As := [.int (li 6)]) (rest := []) B h (wkX1_chosenFace l D cI cJ cB cZ ad k t (li 6) _ hR) ⟨⟨_, rfl⟩, by decide +kernel, Nat.le_of_ble_eq_true rfl, Nat.le_of_ble_eq_true rfl⟩ gX1_trace_X1_chosenFace (show ((wX cI cJ cB cZ ad t) : va_W)[7]? = some (_, .inr (1, _)) from rfl) rfl rfl hl.1 rfl (Nat.le_of_ble_eq_true rfl) dX1_trace_36 ⟨Nat.le_of_ble_eq_true rfl, Nat.le_of_ble_eq_true rfl⟩ (fun r_6 t_6 H locs hR h => ?_)
            refine lv_istore (lv' := [(7, .int r_6), (0, .ref (ad 7)), (1, .int (li 1)), (2, .int (li 2)), (3, .long (lj 3)), (5, .int (li 5)), (6, .int (li 6))]) hx hb dX1_trace_39 hl (by decide) rfl (fun ls hl => ?_)
            refine lv_aload_n hx hb dX1_trace_41 rfl (lv_at hl 1 rfl) ?_
            refine x_get (ci := 1) (C := RX1) (T := TX1) (N := 7) (v := .ref (ad 25)) B h hin1 7 5 rfl rfl (by decide) (by decide +kernel) rfl dX1_trace_42 ?_
            refine lv_iload hx hb dX1_trace_45 (lv_at hl 5 rfl) ?_
            refine lv_iload hx hb dX1_trace_47 (lv_at hl 0 rfl) ?_
            obtain ⟨hb_7, hR⟩ := hR
            refine z_iast (f := (t_6.2.2.1 8)) B h 25 0 rfl rfl hb_7 dX1_trace_49 (fun H locs h => ?_)
            obtain ⟨t_7, et_7⟩ : ∃ v : XT, v = sA t_6 8 (upd (t_6.2.2.1 8) (li 5).toNatClampNeg r_6) := ⟨_, rfl⟩
            have hR := hR t_7 et_7
            have h : Hp D A s.heap (wX cI cJ cB cZ ad t_7) H locs := by rw [et_7]; exact h
            obtain ⟨v_8, ev_8⟩ : ∃ v : Int32, v = (li 5) + Int32.ofInt 1 := ⟨_, rfl⟩
            have hR := hR v_8 ev_8
            refine lv_iinc (v := v_8) (lv' := [(5, .int v_8), (7, .int r_6), (0, .ref (ad 7)), (1, .int (li 1)), (2, .int (li 2)), (3, .long (lj 3)), (6, .int (li 6))]) hx hb dX1_trace_50 hl (k := 5) rfl ev_8.symm (by decide) rfl (fun ls hl => ?_)
            refine lv_iload hx hb dX1_trace_53 (lv_at hl 1 rfl) ?_
            refine lv_istore (lv' := [(6, .int r_6), (5, .int v_8), (7, .int r_6), (0, .ref (ad 7)), (1, .int (li 1)), (2, .int (li 2)), (3, .long (lj 3))]) hx hb dX1_trace_55 hl (by decide) rfl (fun ls hl => ?_)
            refine lv_iload hx hb dX1_trace_57 (lv_at hl 2 rfl) ?_
            refine lv_iload_n hx hb dX1_trace_59 rfl (lv_at hl 5 rfl) ?_
            refine lv_icmp_eq (tgt := 101) hx hb dX1_trace_60 (by decide) (fun c_9 => ?_) (fun c_9 => ?_)
            · have hR := hR.1 c_9
              exact ih.2.2.1 t_7 (uI (uI (uI li 5 v_8) 6 r_6) 7 r_6) lj H locs ls hR (lv_sub hl [3, 4, 5, 6, 1, 0, 2] rfl) h
            · have hR := hR.2 c_9
              refine lv_aload_n hx hb dX1_trace_63 rfl (lv_at hl 3 rfl) ?_
              refine x_get (ci := 1) (C := RX1) (T := TX1) (N := 7) (v := .ref (ad 4)) B h hin1 7 1 rfl rfl (by decide) (by decide +kernel) rfl dX1_trace_64 ?_
              refine x_get (ci := 6) (C := RX6) (T := TX6) (N := 6) (v := .ref (ad 20)) B h hin6 4 1 rfl rfl (by decide) (by decide +kernel) rfl dX1_trace_67 ?_
              refine lv_iload hx hb dX1_trace_70 (lv_at hl 2 rfl) ?_
              obtain ⟨hb_10, hR⟩ := hR
              refine va_iald (f := (t_7.2.2.1 5)) hx hb B.2.1 h.1 20 0 rfl rfl hb_10 dX1_trace_72 ?_
              refine lv_topi (fun v_10 ev_10 => ?_)
              have hR := hR v_10 ev_10
              refine lv_iconst (v := (-1)) hx hb dX1_trace_73 (by decide) ?_
              refine lv_icmp_eq (tgt := 101) hx hb dX1_trace_74 (by decide) (fun c_11 => ?_) (fun c_11 => ?_)
              · have hR := hR.1 c_11
                exact ih.2.2.1 t_7 (uI (uI (uI li 5 v_8) 6 r_6) 7 r_6) lj H locs ls hR (lv_sub hl [3, 4, 5, 6, 1, 0, 2] rfl) h
              · have hR := hR.2 c_11
                refine lv_aload_n hx hb dX1_trace_77 rfl (lv_at hl 3 rfl) ?_
                refine x_get (ci := 1) (C := RX1) (T := TX1) (N := 7) (v := .ref (ad 4)) B h hin1 7 1 rfl rfl (by decide) (by decide +kernel) rfl dX1_trace_78 ?_
                refine x_get (ci := 6) (C := RX6) (T := TX6) (N := 6) (v := .ref (ad 20)) B h hin6 4 1 rfl rfl (by decide) (by decide +kernel) rfl dX1_trace_81 ?_
                refine lv_iload hx hb dX1_trace_84 (lv_at hl 2 rfl) ?_
                obtain ⟨hb_12, hR⟩ := hR
                refine va_iald (f := (t_7.2.2.1 5)) hx hb B.2.1 h.1 20 0 rfl rfl hb_12 dX1_trace_86 ?_
                refine lv_topi (fun v_12 ev_12 => ?_)
                have hR := hR v_12 ev_12
                refine lv_istore (lv' := [(6, .int v_12), (5, .int v_8), (7, .int r_6), (0, .ref (ad 7)), (1, .int (li 1)), (2, .int (li 2)), (3, .long (lj 3))]) hx hb dX1_trace_87 hl (by decide) rfl (fun ls hl => ?_)
                refine lv_aload_n hx hb dX1_trace_89 rfl (lv_at hl 3 rfl) ?_
                refine x_get (ci := 1) (C := RX1) (T := TX1) (N := 7) (v := .ref (ad 25)) B h hin1 7 5 rfl rfl (by decide) (by decide +kernel) rfl dX1_trace_90 ?_
                refine lv_iload hx hb dX1_trace_93 (lv_at hl 1 rfl) ?_
                refine lv_iload hx hb dX1_trace_95 (lv_at hl 0 rfl) ?_
                obtain ⟨hb_13, hR⟩ := hR
                refine z_iast (f := (t_7.2.2.1 8)) B h 25 0 rfl rfl hb_13 dX1_trace_97 (fun H locs h => ?_)
                obtain ⟨t_13, et_13⟩ : ∃ v : XT, v = sA t_7 8 (upd (t_7.2.2.1 8) v_8.toNatClampNeg v_12) := ⟨_, rfl⟩
                have hR := hR t_13 et_13
                have h : Hp D A s.heap (wX cI cJ cB cZ ad t_13) H locs := by rw [et_13]; exact h
                obtain ⟨v_14, ev_14⟩ : ∃ v : Int32, v = v_8 + Int32.ofInt 1 := ⟨_, rfl⟩
                have hR := hR v_14 ev_14
                refine lv_iinc (v := v_14) (lv' := [(5, .int v_14), (6, .int v_12), (7, .int r_6), (0, .ref (ad 7)), (1, .int (li 1)), (2, .int (li 2)), (3, .long (lj 3))]) hx hb dX1_trace_98 hl (k := 1) rfl ev_14.symm (by decide) rfl (fun ls hl => ?_)
                exact ih.2.2.1 t_13 (uI (uI (uI li 5 v_14) 6 v_12) 7 r_6) lj H locs ls hR (lv_sub hl [3, 4, 5, 6, 0, 1, 2] rfl) h
      · intro t li lj H locs ls hR hl h
        have hR : wbX1_trace_2 (wpX1_trace k) k t li lj Q := hR
        unfold wbX1_trace_2 at hR
        refine lv_goto (tgt := 18) hx hb dX1_trace_101 (by decide) ?_
        exact ih.2.1 t li lj H locs ls hR (lv_sub hl [0, 1, 2, 3, 4, 5] rfl) h
      · intro t li lj H locs ls hR hl h
        have hR : wbX1_trace_3 (wpX1_trace k) k t li lj Q := hR
        unfold wbX1_trace_3 at hR
        refine lv_iload hx hb dX1_trace_104 (lv_at hl 4 rfl) ?_
        exact x_iret (w1 := (fun u : XT => (wX cI cJ cB cZ ad u))) t B h hr rfl hR dX1_trace_106
  exact (main k).1 t _ _ s.heap [] ls hR hl h
