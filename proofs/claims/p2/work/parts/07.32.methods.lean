set_option maxRecDepth 20000 in
theorem ggX2_measure_J7_fill_53178 : GoodIn wsX2_measure wsJ7_fill_53178 := goodIn_r _ [11] (by decide +kernel) (by decide +kernel)
set_option maxRecDepth 20000 in
theorem gX2_measure_J7_fill_53178 : GoodIn wsX2_measure (va_wsS RX2 45 yJ7_fill_53178 wsJ7_fill_53178) := goodIn_app (goodIn_of _ (by decide +kernel)) ggX2_measure_J7_fill_53178
set_option maxRecDepth 20000 in
theorem ggX2_measure_X2_give : GoodIn wsX2_measure wsX2_give := goodIn_r _ [16, 17, 18, 5, 2, 4, 19, 20, 21, 22, 23, 24, 25, 26, 27, 28, 29, 30, 31, 32, 33, 34, 35, 36, 37, 38, 45, 46, 47, 48, 49, 50, 51, 39, 40, 41, 42, 43, 44] (by decide +kernel) (by decide +kernel)
set_option maxRecDepth 20000 in
theorem gX2_measure_X2_give : GoodIn wsX2_measure (wsV RX2 55 RX2 yX2_give wsX2_give) := goodIn_app (goodIn_of _ (by decide +kernel)) ggX2_measure_X2_give
def wbX2_measure_0 (rec : Nat → XT → (Nat → Int32) → (Nat → Int64) → (XT → Prop) → Prop) (k : Nat) (t : XT) (li : Nat → Int32) (lj : Nat → Int64) (Q : XT → Prop) : Prop :=
  ((¬ (t.1 7) = (t.1 5)) → (∀ t_2 : XT, t_2 = sI t 7 (t.1 5) → (∀ t_3 : XT, t_3 = sA t_2 6 (fun _ => (-1)) → (∀ t_4 : XT, t_4 = sI t_3 6 0 → rec 1 t_4 (uI li 3 0) (uI lj 1 (t_4.2.1 0)) Q)))) ∧ (((t.1 7) = (t.1 5)) → Q t)
def wbX2_measure_1 (rec : Nat → XT → (Nat → Int32) → (Nat → Int64) → (XT → Prop) → Prop) (k : Nat) (t : XT) (li : Nat → Int32) (lj : Nat → Int64) (Q : XT → Prop) : Prop :=
  (((64 : Int32) ≤ (li 3)) → Q t) ∧ (¬ ((64 : Int32) ≤ (li 3)) → (∀ v_6 : Int32, v_6 = (lg_cmp (lj 1) 0) → ((v_6 = 0) → Q t) ∧ (¬ (v_6 = 0) → (wqX2_give k t (li 3) (lj 1) (fun r_8 t_8 => (∀ v_9 : Int64, v_9 = (r_8 ^^^ (-1)) → (∀ v_10 : Int64, v_10 = ((lj 1) &&& v_9) → (∀ v_11 : Int32, v_11 = (li 3) + Int32.ofInt 1 → rec 1 t_8 (uI li 3 v_11) (uI lj 1 v_10) Q))))))))
def wpX2_measure : Nat → Nat → XT → (Nat → Int32) → (Nat → Int64) → (XT → Prop) → Prop
  | 0, _, _, _, _, _ => False
  | k + 1, 0, t, li, lj, Q => wbX2_measure_0 (wpX2_measure k) k t li lj Q
  | k + 1, 1, t, li, lj, Q => wbX2_measure_1 (wpX2_measure k) k t li lj Q
  | _ + 1, _, _, _, _, _ => False
def wqX2_measure (k : Nat) (t : XT)  (Q : XT → Prop) : Prop := wpX2_measure k 0 t (fun _ => 0) (fun _ => 0) Q
set_option maxHeartbeats 8000000 in
set_option maxRecDepth 100000 in
theorem wkX2_measure (l : Launch) (D : va_G) (cI cJ cB cZ : ClassId) (ad : Nat → Nat) (k : Nat) (t : XT)  (Q : XT → Prop) (hR : wqX2_measure k t  Q) : MetV l yX2_measure wsX2_measure 2 48 0 0 D (TYS cI cJ cB cZ) (wX cI cJ cB cZ ad t) [.ref (ad 6)] (fun u => Q u) (fun u : XT => (wX cI cJ cB cZ ad u)) := by
  refine x_startV (ty := .int) (cc := cX2_measure) (by decide) rfl (Nat.le_of_ble_eq_true rfl) ?_
  intro p e s m args below meth c A ls B hr hnm h hl
  have hx := B.1.1
  have hb := B.1.2.1
  have hml := B.1.2.2.1
  have hts := B.1.2.2.2.2
  have hown : s.vm.findClass RX2 = some m.cls := B.1.2.2.2.1
  have hin2 : ∀ w ∈ u_ws RX2 TX2 6, w ∈ wsX2_measure := by decide +kernel
  have hin6 : ∀ w ∈ u_ws RX6 TX6 6, w ∈ wsX2_measure := by decide +kernel
  have main : ∀ k : Nat, (∀ (t : XT) (li : Nat → Int32) (lj : Nat → Int64) (H : Heap) (locs : List Loc) (ls : Array Slot), wpX2_measure k 0 t li lj Q → lv_has ls 4 [(0, .ref (ad 6))] → Hp D A s.heap (wX cI cJ cB cZ ad t) H locs → W p l e { frames := 2, cells := 0, slots := 0, locals := 48 } s m args below meth c H locs 0 0 (MQ below (va_Qv (fun u => Q u) (fun u t => xEnd D ((fun u : XT => (wX cI cJ cB cZ ad u)) u) A t) A) args s 0 0 A) (F0 m 0 ls [])) ∧
      (∀ (t : XT) (li : Nat → Int32) (lj : Nat → Int64) (H : Heap) (locs : List Loc) (ls : Array Slot), wpX2_measure k 1 t li lj Q → lv_has ls 4 [(0, .ref (ad 6)), (1, .long (lj 1)), (3, .int (li 3))] → Hp D A s.heap (wX cI cJ cB cZ ad t) H locs → W p l e { frames := 2, cells := 0, slots := 0, locals := 48 } s m args below meth c H locs 0 0 (MQ below (va_Qv (fun u => Q u) (fun u t => xEnd D ((fun u : XT => (wX cI cJ cB cZ ad u)) u) A t) A) args s 0 0 A) (F0 m 49 ls [])) := by
    intro k
    induction k with
    | zero => exact ⟨fun _ _ _ _ _ _ hR => False.elim hR, fun _ _ _ _ _ _ hR => False.elim hR⟩
    | succ k ih =>
      refine ⟨?_, ?_⟩
      · intro t li lj H locs ls hR hl h
        have hR : wbX2_measure_0 (wpX2_measure k) k t li lj Q := hR
        unfold wbX2_measure_0 at hR
        refine lv_aload_n hx hb dX2_measure_0 rfl (lv_at hl 0 rfl) ?_
        refine x_get (ci := 2) (C := RX2) (T := TX2) (N := 6) (v := .int (t.1 7)) B h hin2 6 5 rfl rfl (by decide) (by decide +kernel) rfl dX2_measure_1 ?_
        refine lv_aload_n hx hb dX2_measure_4 rfl (lv_at hl 0 rfl) ?_
        refine x_get (ci := 2) (C := RX2) (T := TX2) (N := 6) (v := .ref (ad 4)) B h hin2 6 1 rfl rfl (by decide) (by decide +kernel) rfl dX2_measure_5 ?_
        refine x_get (ci := 6) (C := RX6) (T := TX6) (N := 6) (v := .int (t.1 5)) B h hin6 4 5 rfl rfl (by decide) (by decide +kernel) rfl dX2_measure_8 ?_
        refine lv_icmp_ne (tgt := 15) hx hb dX2_measure_11 (by decide) (fun c_1 => ?_) (fun c_1 => ?_)
        · have hR := hR.1 c_1
          refine lv_aload_n hx hb dX2_measure_15 rfl (lv_at hl 0 rfl) ?_
          refine lv_aload_n hx hb dX2_measure_16 rfl (lv_at hl 0 rfl) ?_
          refine x_get (ci := 2) (C := RX2) (T := TX2) (N := 6) (v := .ref (ad 4)) B h hin2 6 1 rfl rfl (by decide) (by decide +kernel) rfl dX2_measure_17 ?_
          refine x_get (ci := 6) (C := RX6) (T := TX6) (N := 6) (v := .int (t.1 5)) B h hin6 4 5 rfl rfl (by decide) (by decide +kernel) rfl dX2_measure_20 ?_
          refine x_put (ci := 2) (C := RX2) (T := TX2) (N := 6) (v := .int (t.1 5)) (ty := .int) B h hin2 tyX2 tyX2_ok nmX2 6 5 rfl rfl (by decide) (by decide +kernel) rfl rfl rfl rfl (Nat.le_of_ble_eq_true rfl) dX2_measure_23 (fun H locs h => ?_)
          obtain ⟨t_2, et_2⟩ : ∃ v : XT, v = sI t 7 (t.1 5) := ⟨_, rfl⟩
          have hR := hR t_2 et_2
          have h : Hp D A s.heap (wX cI cJ cB cZ ad t_2) H locs := by rw [et_2]; exact h
          refine lv_aload_n hx hb dX2_measure_26 rfl (lv_at hl 0 rfl) ?_
          refine x_get (ci := 2) (C := RX2) (T := TX2) (N := 6) (v := .ref (ad 21)) B h hin2 6 2 rfl rfl (by decide) (by decide +kernel) rfl dX2_measure_27 ?_
          refine lv_iconst (v := (-1)) hx hb dX2_measure_30 (by decide) ?_
          refine x_cSV (n := 2) (pre := ((wX cI cJ cB cZ ad t_2) : va_W).take 21) (post := ((wX cI cJ cB cZ ad t_2) : va_W).drop 22) (wc := [((ad 21), .inl (cI, 64, .inl (t_2.2.2.1 6)))]) (As := [.ref (ad 21), .int (-1)]) (rest := []) B h (c_fillI l D (TYS cI cJ cB cZ) cI 0 rfl (ad 21) 64 (by decide) (t_2.2.2.1 6) (-1)) ⟨⟨_, rfl⟩, by decide +kernel, Nat.le_of_ble_eq_true rfl, Nat.le_of_ble_eq_true rfl⟩ gX2_measure_J7_fill_53178 rfl hl.1 rfl (Nat.le_of_ble_eq_true rfl) dX2_measure_31 ⟨Nat.le_of_ble_eq_true rfl, Nat.le_of_ble_eq_true rfl⟩ (fun _ H locs _ h => ?_)
          obtain ⟨t_3, et_3⟩ : ∃ v : XT, v = sA t_2 6 (fun _ => (-1)) := ⟨_, rfl⟩
          have hR := hR t_3 et_3
          have h : Hp D A s.heap (wX cI cJ cB cZ ad t_3) H locs := by rw [et_3]; exact h
          refine lv_aload_n hx hb dX2_measure_34 rfl (lv_at hl 0 rfl) ?_
          refine lv_iconst (v := 0) hx hb dX2_measure_35 (by decide) ?_
          refine x_put (ci := 2) (C := RX2) (T := TX2) (N := 6) (v := .int 0) (ty := .int) B h hin2 tyX2 tyX2_ok nmX2 6 4 rfl rfl (by decide) (by decide +kernel) rfl rfl rfl rfl (Nat.le_of_ble_eq_true rfl) dX2_measure_36 (fun H locs h => ?_)
          obtain ⟨t_4, et_4⟩ : ∃ v : XT, v = sI t_3 6 0 := ⟨_, rfl⟩
          have hR := hR t_4 et_4
          have h : Hp D A s.heap (wX cI cJ cB cZ ad t_4) H locs := by rw [et_4]; exact h
          refine lv_aload_n hx hb dX2_measure_39 rfl (lv_at hl 0 rfl) ?_
          refine x_get (ci := 2) (C := RX2) (T := TX2) (N := 6) (v := .ref (ad 4)) B h hin2 6 1 rfl rfl (by decide) (by decide +kernel) rfl dX2_measure_40 ?_
          refine x_get (ci := 6) (C := RX6) (T := TX6) (N := 6) (v := .long (t_4.2.1 0)) B h hin6 4 2 rfl rfl (by decide) (by decide +kernel) rfl dX2_measure_43 ?_
          refine lv_lstore_n (lv' := [(1, .long (t_4.2.1 0)), (0, .ref (ad 6))]) hx hb dX2_measure_46 rfl hl (by decide) rfl (fun ls hl => ?_)
          refine lv_iconst (v := 0) hx hb dX2_measure_47 (by decide) ?_
          refine lv_istore_n (lv' := [(3, .int 0), (1, .long (t_4.2.1 0)), (0, .ref (ad 6))]) hx hb dX2_measure_48 rfl hl (by decide) rfl (fun ls hl => ?_)
          exact ih.2 t_4 (uI li 3 0) (uI lj 1 (t_4.2.1 0)) H locs ls hR (lv_sub hl [2, 1, 0] rfl) h
        · have hR := hR.2 c_1
          exact x_vret (w1 := (fun u : XT => (wX cI cJ cB cZ ad u))) t B h hr hR dX2_measure_14
      · intro t li lj H locs ls hR hl h
        have hR : wbX2_measure_1 (wpX2_measure k) k t li lj Q := hR
        unfold wbX2_measure_1 at hR
        refine lv_iload_n hx hb dX2_measure_49 rfl (lv_at hl 2 rfl) ?_
        refine lv_bipush (v := 64) hx hb dX2_measure_50 (by decide) ?_
        refine lv_icmp_ge (tgt := 80) hx hb dX2_measure_52 (by decide) (fun c_5 => ?_) (fun c_5 => ?_)
        · have hR := hR.1 c_5
          exact x_vret (w1 := (fun u : XT => (wX cI cJ cB cZ ad u))) t B h hr hR dX2_measure_80
        · have hR := hR.2 c_5
          refine lv_lload_n hx hb dX2_measure_55 rfl (lv_at hl 1 rfl) ?_
          refine lv_lconst (v := 0) hx hb dX2_measure_56 (by decide) ?_
          refine W.lcmp hx hb dX2_measure_57 ?_
          refine lv_topi (fun v_6 ev_6 => ?_)
          have hR := hR v_6 ev_6
          refine lv_if_eq (tgt := 80) hx hb dX2_measure_58 (by decide) (fun c_7 => ?_) (fun c_7 => ?_)
          · have hR := hR.1 c_7
            exact x_vret (w1 := (fun u : XT => (wX cI cJ cB cZ ad u))) t B h hr hR dX2_measure_80
          · have hR := hR.2 c_7
            refine lv_lload_n hx hb dX2_measure_61 rfl (lv_at hl 1 rfl) ?_
            refine lv_aload_n hx hb dX2_measure_62 rfl (lv_at hl 0 rfl) ?_
            refine lv_iload_n hx hb dX2_measure_63 rfl (lv_at hl 2 rfl) ?_
            refine lv_lload_n hx hb dX2_measure_64 rfl (lv_at hl 1 rfl) ?_
            refine x_cVLF (n := 2) (As := [.int (li 3), .long (lj 1)]) (rest := [.long (lj 1)]) B h (wkX2_give l D cI cJ cB cZ ad k t (li 3) (lj 1) _ hR) ⟨⟨_, rfl⟩, by decide +kernel, Nat.le_of_ble_eq_true rfl, Nat.le_of_ble_eq_true rfl⟩ gX2_measure_X2_give (show ((wX cI cJ cB cZ ad t) : va_W)[6]? = some (_, .inr (2, _)) from rfl) rfl rfl hl.1 rfl (Nat.le_of_ble_eq_true rfl) dX2_measure_65 ⟨Nat.le_of_ble_eq_true rfl, Nat.le_of_ble_eq_true rfl⟩ (fun r_8 t_8 H locs hR h => ?_)
            refine lv_ldc2 (v := (-1)) hx hb hown (hts (.constantLong RX2 59 (-1)) (by decide +kernel)) dX2_measure_68 ?_
            refine lv_lxor hx hb dX2_measure_71 ?_
            refine lv_topl (fun v_9 ev_9 => ?_)
            have hR := hR v_9 ev_9
            refine lv_land hx hb dX2_measure_72 ?_
            refine lv_topl (fun v_10 ev_10 => ?_)
            have hR := hR v_10 ev_10
            refine lv_lstore_n (lv' := [(1, .long v_10), (0, .ref (ad 6)), (3, .int (li 3))]) hx hb dX2_measure_73 rfl hl (by decide) rfl (fun ls hl => ?_)
            obtain ⟨v_11, ev_11⟩ : ∃ v : Int32, v = (li 3) + Int32.ofInt 1 := ⟨_, rfl⟩
            have hR := hR v_11 ev_11
            refine lv_iinc (v := v_11) (lv' := [(3, .int v_11), (1, .long v_10), (0, .ref (ad 6))]) hx hb dX2_measure_74 hl (k := 2) rfl ev_11.symm (by decide) rfl (fun ls hl => ?_)
            refine lv_goto (tgt := 49) hx hb dX2_measure_77 (by decide) ?_
            exact ih.2 t_8 (uI li 3 v_11) (uI lj 1 v_10) H locs ls hR (lv_sub hl [2, 1, 0] rfl) h
  exact (main k).1 t _ _ s.heap [] ls hR hl h
set_option maxRecDepth 20000 in
theorem ggX2_of_X2_measure : GoodIn wsX2_of wsX2_measure := goodIn_r _ [6, 7, 8, 9, 1, 10, 11, 12, 13, 14, 15, 16, 17, 18, 19, 5, 20, 21, 22, 23, 24, 25, 26, 27, 28, 29, 30, 31, 32, 33, 34, 35, 36, 37, 38, 39, 40, 41, 42, 43, 44, 45, 46, 47, 48, 49, 50, 51, 52, 53, 54, 55] (by decide +kernel) (by decide +kernel)
set_option maxRecDepth 20000 in
theorem gX2_of_X2_measure : GoodIn wsX2_of (wsV RX2 30 RX2 yX2_measure wsX2_measure) := goodIn_app (goodIn_of _ (by decide +kernel)) ggX2_of_X2_measure
def wbX2_of_0 (rec : Nat → XT → (Nat → Int32) → (Nat → Int64) → (Int32 → XT → Prop) → Prop) (k : Nat) (t : XT) (li : Nat → Int32) (lj : Nat → Int64) (Q : Int32 → XT → Prop) : Prop :=
  (wqX2_measure k t  (fun t_1 => (vp_in (li 1) 64 ∧ (∀ v_2 : Int32, v_2 = (t_1.2.2.1 6) (li 1).toNatClampNeg → Q v_2 t_1))))
def wpX2_of : Nat → Nat → XT → (Nat → Int32) → (Nat → Int64) → (Int32 → XT → Prop) → Prop
  | 0, _, _, _, _, _ => False
  | k + 1, 0, t, li, lj, Q => wbX2_of_0 (wpX2_of k) k t li lj Q
  | _ + 1, _, _, _, _, _ => False
def wqX2_of (k : Nat) (t : XT) (a1 : Int32) (Q : Int32 → XT → Prop) : Prop := wpX2_of k 0 t (uI (fun _ => 0) 1 a1) (fun _ => 0) Q
set_option maxHeartbeats 8000000 in
set_option maxRecDepth 100000 in
theorem wkX2_of (l : Launch) (D : va_G) (cI cJ cB cZ : ClassId) (ad : Nat → Nat) (k : Nat) (t : XT) (a1 : Int32) (Q : Int32 → XT → Prop) (hR : wqX2_of k t a1 Q) : MetI l yX2_of wsX2_of 3 71 0 0 D (TYS cI cJ cB cZ) (wX cI cJ cB cZ ad t) [.ref (ad 6), .int a1] (fun r u => Q r u) (fun u : XT => (wX cI cJ cB cZ ad u)) := by
  refine x_startI (ty := .int) (cc := cX2_of) (by decide) rfl (Nat.le_of_ble_eq_true rfl) ?_
  intro p e s m args below meth c A ls B hr hnm h hl
  have hx := B.1.1
  have hb := B.1.2.1
  have hml := B.1.2.2.1
  have hts := B.1.2.2.2.2
  have hown : s.vm.findClass RX2 = some m.cls := B.1.2.2.2.1
  have hin2 : ∀ w ∈ u_ws RX2 TX2 6, w ∈ wsX2_of := by decide +kernel
  have main : ∀ k : Nat, (∀ (t : XT) (li : Nat → Int32) (lj : Nat → Int64) (H : Heap) (locs : List Loc) (ls : Array Slot), wpX2_of k 0 t li lj Q → lv_has ls 2 [(0, .ref (ad 6)), (1, .int (li 1))] → Hp D A s.heap (wX cI cJ cB cZ ad t) H locs → W p l e { frames := 3, cells := 0, slots := 0, locals := 71 } s m args below meth c H locs 0 0 (MQ below (va_Qi (fun r u => Q r u) (fun u t => xEnd D ((fun u : XT => (wX cI cJ cB cZ ad u)) u) A t) A) args s 0 0 A) (F0 m 0 ls [])) := by
    intro k
    induction k with
    | zero => exact fun _ _ _ _ _ _ hR => False.elim hR
    | succ k ih =>
      intro t li lj H locs ls hR hl h
      have hR : wbX2_of_0 (wpX2_of k) k t li lj Q := hR
      unfold wbX2_of_0 at hR
      refine lv_aload_n hx hb dX2_of_0 rfl (lv_at hl 0 rfl) ?_
      refine x_cVVF (n := 0) (As := []) (rest := []) B h (wkX2_measure l D cI cJ cB cZ ad k t  _ hR) ⟨⟨_, rfl⟩, by decide +kernel, Nat.le_of_ble_eq_true rfl, Nat.le_of_ble_eq_true rfl⟩ gX2_of_X2_measure (show ((wX cI cJ cB cZ ad t) : va_W)[6]? = some (_, .inr (2, _)) from rfl) rfl rfl hl.1 rfl (Nat.le_of_ble_eq_true rfl) dX2_of_1 ⟨Nat.le_of_ble_eq_true rfl, Nat.le_of_ble_eq_true rfl⟩ (fun t_1 H locs hR h => ?_)
      refine lv_aload_n hx hb dX2_of_4 rfl (lv_at hl 0 rfl) ?_
      refine x_get (ci := 2) (C := RX2) (T := TX2) (N := 6) (v := .ref (ad 21)) B h hin2 6 2 rfl rfl (by decide) (by decide +kernel) rfl dX2_of_5 ?_
      refine lv_iload_n hx hb dX2_of_8 rfl (lv_at hl 1 rfl) ?_
      obtain ⟨hb_2, hR⟩ := hR
      refine va_iald (f := (t_1.2.2.1 6)) hx hb B.2.1 h.1 21 0 rfl rfl hb_2 dX2_of_9 ?_
      refine lv_topi (fun v_2 ev_2 => ?_)
      have hR := hR v_2 ev_2
      exact x_iret (w1 := (fun u : XT => (wX cI cJ cB cZ ad u))) t_1 B h hr rfl hR dX2_of_10
  exact (main k) t _ _ s.heap [] ls hR hl h
def wbJ13_bitCount_95d88_0 (rec : Nat → (Nat → Int32) → (Nat → Int64) → (Int32 → Prop) → Prop) (k : Nat) (li : Nat → Int32) (lj : Nat → Int64) (Q : Int32 → Prop) : Prop :=
  (∀ v_1 : Int64, v_1 = ((lj 0).toUInt64 >>> ((1 : Int32).toInt64.toUInt64 &&& Int64.toUInt64 63)).toInt64 → (∀ v_2 : Int64, v_2 = (v_1 &&& 6148914691236517205) → (∀ v_3 : Int64, v_3 = ((lj 0) - v_2) → (∀ v_4 : Int64, v_4 = (v_3 &&& 3689348814741910323) → (∀ v_5 : Int64, v_5 = (v_3.toUInt64 >>> ((2 : Int32).toInt64.toUInt64 &&& Int64.toUInt64 63)).toInt64 → (∀ v_6 : Int64, v_6 = (v_5 &&& 3689348814741910323) → (∀ v_7 : Int64, v_7 = (v_4 + v_6) → (∀ v_8 : Int64, v_8 = (v_7.toUInt64 >>> ((4 : Int32).toInt64.toUInt64 &&& Int64.toUInt64 63)).toInt64 → (∀ v_9 : Int64, v_9 = (v_7 + v_8) → (∀ v_10 : Int64, v_10 = (v_9 &&& 1085102592571150095) → (∀ v_11 : Int64, v_11 = (v_10.toUInt64 >>> ((8 : Int32).toInt64.toUInt64 &&& Int64.toUInt64 63)).toInt64 → (∀ v_12 : Int64, v_12 = (v_10 + v_11) → (∀ v_13 : Int64, v_13 = (v_12.toUInt64 >>> ((16 : Int32).toInt64.toUInt64 &&& Int64.toUInt64 63)).toInt64 → (∀ v_14 : Int64, v_14 = (v_12 + v_13) → (∀ v_15 : Int64, v_15 = (v_14.toUInt64 >>> ((32 : Int32).toInt64.toUInt64 &&& Int64.toUInt64 63)).toInt64 → (∀ v_16 : Int64, v_16 = (v_14 + v_15) → (∀ v_17 : Int32, v_17 = v_16.toInt32 → (∀ v_18 : Int32, v_18 = (v_17 &&& 127) → Q v_18))))))))))))))))))
def wpJ13_bitCount_95d88 : Nat → Nat → (Nat → Int32) → (Nat → Int64) → (Int32 → Prop) → Prop
  | 0, _, _, _, _ => False
  | k + 1, 0, li, lj, Q => wbJ13_bitCount_95d88_0 (wpJ13_bitCount_95d88 k) k li lj Q
  | _ + 1, _, _, _, _ => False
def wqJ13_bitCount_95d88 (k : Nat) (a0 : Int64) (Q : Int32 → Prop) : Prop := wpJ13_bitCount_95d88 k 0 (fun _ => 0) (uI (fun _ => 0) 0 a0) Q
set_option maxHeartbeats 8000000 in
set_option maxRecDepth 100000 in
theorem wkJ13_bitCount_95d88 (l : Launch) (D : va_G) (cI cJ cB cZ : ClassId) (ad : Nat → Nat) (k : Nat) (a0 : Int64) (Q : Int32 → Prop) (hR : wqJ13_bitCount_95d88 k a0 Q) : MetI l yJ13_bitCount_95d88 wsJ13_bitCount_95d88 0 0 0 0 D (TYS cI cJ cB cZ) [] [.long a0] (fun r _ => Q r) (fun _ : Unit => []) := by
  refine x_startI (ty := .int) (cc := cJ13_bitCount_95d88) (by decide) rfl (Nat.le_of_ble_eq_true rfl) ?_
  intro p e s m args below meth c A ls B hr hnm h hl
  have hx := B.1.1
  have hb := B.1.2.1
  have hml := B.1.2.2.1
  have hts := B.1.2.2.2.2
  have hown : s.vm.findClass RJ13 = some m.cls := B.1.2.2.2.1
  have main : ∀ k : Nat, (∀ (li : Nat → Int32) (lj : Nat → Int64) (H : Heap) (locs : List Loc) (ls : Array Slot), wpJ13_bitCount_95d88 k 0 li lj Q → lv_has ls 2 [(0, .long (lj 0))] → Hp D A s.heap [] H locs → W p l e { frames := 0, cells := 0, slots := 0, locals := 0 } s m args below meth c H locs 0 0 (MQ below (va_Qi (fun r _ => Q r) (fun u t => xEnd D ((fun _ : Unit => []) u) A t) A) args s 0 0 A) (F0 m 0 ls [])) := by
    intro k
    induction k with
    | zero => exact fun _ _ _ _ _ hR => False.elim hR
    | succ k ih =>
      intro li lj H locs ls hR hl h
      have hR : wbJ13_bitCount_95d88_0 (wpJ13_bitCount_95d88 k) k li lj Q := hR
      unfold wbJ13_bitCount_95d88_0 at hR
      refine lv_lload_n hx hb dJ13_bitCount_95d88_0 rfl (lv_at hl 0 rfl) ?_
      refine lv_lload_n hx hb dJ13_bitCount_95d88_1 rfl (lv_at hl 0 rfl) ?_
      refine lv_iconst (v := 1) hx hb dJ13_bitCount_95d88_2 (by decide) ?_
      obtain ⟨v_1, ev_1⟩ : ∃ v : Int64, v = ((lj 0).toUInt64 >>> ((1 : Int32).toInt64.toUInt64 &&& Int64.toUInt64 63)).toInt64 := ⟨_, rfl⟩
      have hR := hR v_1 ev_1
      refine lv_lushr (v := v_1) hx hb dJ13_bitCount_95d88_3 ev_1.symm ?_
      refine lv_ldc2 (v := 6148914691236517205) hx hb hown (hts (.constantLong RJ13 314 6148914691236517205) (by decide +kernel)) dJ13_bitCount_95d88_4 ?_
      refine lv_land hx hb dJ13_bitCount_95d88_7 ?_
      refine lv_topl (fun v_2 ev_2 => ?_)
      have hR := hR v_2 ev_2
      refine lv_lsub hx hb dJ13_bitCount_95d88_8 ?_
      refine lv_topl (fun v_3 ev_3 => ?_)
      have hR := hR v_3 ev_3
      refine lv_lstore_n (lv' := [(0, .long v_3)]) hx hb dJ13_bitCount_95d88_9 rfl hl (by decide) rfl (fun ls hl => ?_)
      refine lv_lload_n hx hb dJ13_bitCount_95d88_10 rfl (lv_at hl 0 rfl) ?_
      refine lv_ldc2 (v := 3689348814741910323) hx hb hown (hts (.constantLong RJ13 316 3689348814741910323) (by decide +kernel)) dJ13_bitCount_95d88_11 ?_
      refine lv_land hx hb dJ13_bitCount_95d88_14 ?_
      refine lv_topl (fun v_4 ev_4 => ?_)
      have hR := hR v_4 ev_4
      refine lv_lload_n hx hb dJ13_bitCount_95d88_15 rfl (lv_at hl 0 rfl) ?_
      refine lv_iconst (v := 2) hx hb dJ13_bitCount_95d88_16 (by decide) ?_
      obtain ⟨v_5, ev_5⟩ : ∃ v : Int64, v = (v_3.toUInt64 >>> ((2 : Int32).toInt64.toUInt64 &&& Int64.toUInt64 63)).toInt64 := ⟨_, rfl⟩
      have hR := hR v_5 ev_5
      refine lv_lushr (v := v_5) hx hb dJ13_bitCount_95d88_17 ev_5.symm ?_
      refine lv_ldc2 (v := 3689348814741910323) hx hb hown (hts (.constantLong RJ13 316 3689348814741910323) (by decide +kernel)) dJ13_bitCount_95d88_18 ?_
      refine lv_land hx hb dJ13_bitCount_95d88_21 ?_
      refine lv_topl (fun v_6 ev_6 => ?_)
      have hR := hR v_6 ev_6
      refine lv_ladd hx hb dJ13_bitCount_95d88_22 ?_
      refine lv_topl (fun v_7 ev_7 => ?_)
      have hR := hR v_7 ev_7
      refine lv_lstore_n (lv' := [(0, .long v_7)]) hx hb dJ13_bitCount_95d88_23 rfl hl (by decide) rfl (fun ls hl => ?_)
      refine lv_lload_n hx hb dJ13_bitCount_95d88_24 rfl (lv_at hl 0 rfl) ?_
      refine lv_lload_n hx hb dJ13_bitCount_95d88_25 rfl (lv_at hl 0 rfl) ?_
      refine lv_iconst (v := 4) hx hb dJ13_bitCount_95d88_26 (by decide) ?_
      obtain ⟨v_8, ev_8⟩ : ∃ v : Int64, v = (v_7.toUInt64 >>> ((4 : Int32).toInt64.toUInt64 &&& Int64.toUInt64 63)).toInt64 := ⟨_, rfl⟩
      have hR := hR v_8 ev_8
      refine lv_lushr (v := v_8) hx hb dJ13_bitCount_95d88_27 ev_8.symm ?_
      refine lv_ladd hx hb dJ13_bitCount_95d88_28 ?_
      refine lv_topl (fun v_9 ev_9 => ?_)
      have hR := hR v_9 ev_9
      refine lv_ldc2 (v := 1085102592571150095) hx hb hown (hts (.constantLong RJ13 318 1085102592571150095) (by decide +kernel)) dJ13_bitCount_95d88_29 ?_
      refine lv_land hx hb dJ13_bitCount_95d88_32 ?_
      refine lv_topl (fun v_10 ev_10 => ?_)
      have hR := hR v_10 ev_10
      refine lv_lstore_n (lv' := [(0, .long v_10)]) hx hb dJ13_bitCount_95d88_33 rfl hl (by decide) rfl (fun ls hl => ?_)
      refine lv_lload_n hx hb dJ13_bitCount_95d88_34 rfl (lv_at hl 0 rfl) ?_
      refine lv_lload_n hx hb dJ13_bitCount_95d88_35 rfl (lv_at hl 0 rfl) ?_
      refine lv_bipush (v := 8) hx hb dJ13_bitCount_95d88_36 (by decide) ?_
      obtain ⟨v_11, ev_11⟩ : ∃ v : Int64, v = (v_10.toUInt64 >>> ((8 : Int32).toInt64.toUInt64 &&& Int64.toUInt64 63)).toInt64 := ⟨_, rfl⟩
      have hR := hR v_11 ev_11
      refine lv_lushr (v := v_11) hx hb dJ13_bitCount_95d88_38 ev_11.symm ?_
      refine lv_ladd hx hb dJ13_bitCount_95d88_39 ?_
      refine lv_topl (fun v_12 ev_12 => ?_)
      have hR := hR v_12 ev_12
      refine lv_lstore_n (lv' := [(0, .long v_12)]) hx hb dJ13_bitCount_95d88_40 rfl hl (by decide) rfl (fun ls hl => ?_)
      refine lv_lload_n hx hb dJ13_bitCount_95d88_41 rfl (lv_at hl 0 rfl) ?_
      refine lv_lload_n hx hb dJ13_bitCount_95d88_42 rfl (lv_at hl 0 rfl) ?_
      refine lv_bipush (v := 16) hx hb dJ13_bitCount_95d88_43 (by decide) ?_
      obtain ⟨v_13, ev_13⟩ : ∃ v : Int64, v = (v_12.toUInt64 >>> ((16 : Int32).toInt64.toUInt64 &&& Int64.toUInt64 63)).toInt64 := ⟨_, rfl⟩
      have hR := hR v_13 ev_13
      refine lv_lushr (v := v_13) hx hb dJ13_bitCount_95d88_45 ev_13.symm ?_
      refine lv_ladd hx hb dJ13_bitCount_95d88_46 ?_
      refine lv_topl (fun v_14 ev_14 => ?_)
      have hR := hR v_14 ev_14
      refine lv_lstore_n (lv' := [(0, .long v_14)]) hx hb dJ13_bitCount_95d88_47 rfl hl (by decide) rfl (fun ls hl => ?_)
      refine lv_lload_n hx hb dJ13_bitCount_95d88_48 rfl (lv_at hl 0 rfl) ?_
      refine lv_lload_n hx hb dJ13_bitCount_95d88_49 rfl (lv_at hl 0 rfl) ?_
      refine lv_bipush (v := 32) hx hb dJ13_bitCount_95d88_50 (by decide) ?_
      obtain ⟨v_15, ev_15⟩ : ∃ v : Int64, v = (v_14.toUInt64 >>> ((32 : Int32).toInt64.toUInt64 &&& Int64.toUInt64 63)).toInt64 := ⟨_, rfl⟩
      have hR := hR v_15 ev_15
      refine lv_lushr (v := v_15) hx hb dJ13_bitCount_95d88_52 ev_15.symm ?_
      refine lv_ladd hx hb dJ13_bitCount_95d88_53 ?_
      refine lv_topl (fun v_16 ev_16 => ?_)
      have hR := hR v_16 ev_16
      refine lv_lstore_n (lv' := [(0, .long v_16)]) hx hb dJ13_bitCount_95d88_54 rfl hl (by decide) rfl (fun ls hl => ?_)
      refine lv_lload_n hx hb dJ13_bitCount_95d88_55 rfl (lv_at hl 0 rfl) ?_
      obtain ⟨v_17, ev_17⟩ : ∃ v : Int32, v = v_16.toInt32 := ⟨_, rfl⟩
      have hR := hR v_17 ev_17
      refine lv_l2i (v := v_17) hx hb dJ13_bitCount_95d88_56 ev_17.symm ?_
      refine lv_bipush (v := 127) hx hb dJ13_bitCount_95d88_57 (by decide) ?_
      refine lv_iand hx hb dJ13_bitCount_95d88_59 ?_
      refine lv_topi (fun v_18 ev_18 => ?_)
      have hR := hR v_18 ev_18
      exact x_iret (w1 := (fun _ : Unit => [])) () B h hr rfl hR dJ13_bitCount_95d88_60
  exact (main k) _ _ s.heap [] ls hR hl h
set_option maxRecDepth 20000 in
theorem ggX11_simplex_X9_has : GoodIn wsX11_simplex wsX9_has := goodIn_r _ [13, 14, 83, 84, 85, 86, 87, 88, 89] (by decide +kernel) (by decide +kernel)
set_option maxRecDepth 20000 in
theorem gX11_simplex_X9_has : GoodIn wsX11_simplex (wsV RX11 120 RX9 yX9_has wsX9_has) := goodIn_app (goodIn_of _ (by decide +kernel)) ggX11_simplex_X9_has
set_option maxRecDepth 20000 in
theorem ggX11_simplex_X11_isThere : GoodIn wsX11_simplex wsX11_isThere := goodIn_r _ [19, 1, 4, 8, 9, 10, 11, 12, 13, 14, 20, 21, 18, 22, 72, 73, 74, 75, 76, 77, 78, 79, 80, 81, 82, 90, 91, 92, 93, 94, 95, 83, 84, 85, 86, 87, 88, 89] (by decide +kernel) (by decide +kernel)
set_option maxRecDepth 20000 in
theorem gX11_simplex_X11_isThere : GoodIn wsX11_simplex (wsV RX11 130 RX11 yX11_isThere wsX11_isThere) := goodIn_app (goodIn_of _ (by decide +kernel)) ggX11_simplex_X11_isThere
set_option maxRecDepth 20000 in
theorem ggX11_simplex_X6_side : GoodIn wsX11_simplex wsX6_side := goodIn_r _ [27, 28, 29, 21, 18, 22, 90, 91, 92, 93, 94, 95] (by decide +kernel) (by decide +kernel)
set_option maxRecDepth 20000 in
theorem gX11_simplex_X6_side : GoodIn wsX11_simplex (wsV RX11 136 RX6 yX6_side wsX6_side) := goodIn_app (goodIn_of _ (by decide +kernel)) ggX11_simplex_X6_side
set_option maxRecDepth 20000 in
theorem ggX11_simplex_X2_of : GoodIn wsX11_simplex wsX2_of := goodIn_r _ [34, 35, 36, 37, 38, 33, 39, 40, 41, 42, 43, 44, 45, 46, 47, 48, 49, 50, 51, 52, 53, 54, 55, 56, 21, 18, 22, 57, 58, 59, 26, 60, 28, 61, 62, 63, 64, 96, 97, 98, 99, 100, 101, 90, 91, 92, 93, 94, 95, 83, 84, 85, 86, 87, 88, 89] (by decide +kernel) (by decide +kernel)
set_option maxRecDepth 20000 in
theorem gX11_simplex_X2_of : GoodIn wsX11_simplex (wsV RX11 140 RX2 yX2_of wsX2_of) := goodIn_app (goodIn_of _ (by decide +kernel)) ggX11_simplex_X2_of
set_option maxRecDepth 20000 in
theorem ggX11_simplex_J13_bitCount_95d88 : GoodIn wsX11_simplex wsJ13_bitCount_95d88 := goodIn_r _ [68, 69, 70, 71] (by decide +kernel) (by decide +kernel)
set_option maxRecDepth 20000 in
theorem gX11_simplex_J13_bitCount_95d88 : GoodIn wsX11_simplex (va_wsS RX11 151 yJ13_bitCount_95d88 wsJ13_bitCount_95d88) := goodIn_app (goodIn_of _ (by decide +kernel)) ggX11_simplex_J13_bitCount_95d88
def wbX11_simplex_0 (rec : Nat → XT → (Nat → Int32) → (Nat → Int64) → (Int32 → XT → Prop) → Prop) (k : Nat) (t : XT) (li : Nat → Int32) (lj : Nat → Int64) (Q : Int32 → XT → Prop) : Prop :=
  (wqX9_has k t (li 1) (fun r_1 t_1 => ((¬ r_1 = 0) → ((li 2).toInt < 0 ∨ 6 < (li 2).toInt → Q (-1) t_1) ∧ ((li 2) = 0 → (vp_in (li 1) 64 ∧ (∀ v_4 : Int32, v_4 = (t_1.2.2.1 2) (li 1).toNatClampNeg → Q v_4 t_1))) ∧ ((li 2) = 1 → (vp_in (li 1) 64 ∧ (∀ v_5 : Int32, v_5 = (t_1.2.2.1 3) (li 1).toNatClampNeg → Q v_5 t_1))) ∧ ((li 2) = 2 → (wqX11_isThere k t_1 (li 1) (fun r_6 t_6 => ((r_6 = 0) → Q 0 t_6) ∧ (¬ (r_6 = 0) → Q 1 t_6)))) ∧ ((li 2) = 3 → (vp_in (li 1) 64 ∧ (∀ v_8 : Int32, v_8 = (t_1.2.2.1 5) (li 1).toNatClampNeg → Q v_8 t_1))) ∧ ((li 2) = 4 → (wqX6_side k t_1 (li 1) (fun r_9 t_9 => Q r_9 t_9))) ∧ ((li 2) = 5 → (wqX2_of k t_1 (li 1) (fun r_10 t_10 => Q r_10 t_10))) ∧ ((li 2) = 6 → (vp_in (li 1) 64 ∧ (∀ v_11 : Int64, v_11 = (t_1.2.2.2 1) (li 1).toNatClampNeg → (∀ v_12 : Int64, v_12 = (v_11 &&& (t_1.2.1 0)) → (wqJ13_bitCount_95d88 k v_12 (fun r_13 => Q r_13 t_1))))))) ∧ ((r_1 = 0) → Q (-1) t_1)))
def wpX11_simplex : Nat → Nat → XT → (Nat → Int32) → (Nat → Int64) → (Int32 → XT → Prop) → Prop
  | 0, _, _, _, _, _ => False
  | k + 1, 0, t, li, lj, Q => wbX11_simplex_0 (wpX11_simplex k) k t li lj Q
  | _ + 1, _, _, _, _, _ => False
def wqX11_simplex (k : Nat) (t : XT) (a1 : Int32) (a2 : Int32) (Q : Int32 → XT → Prop) : Prop := wpX11_simplex k 0 t (uI (uI (fun _ => 0) 1 a1) 2 a2) (fun _ => 0) Q
set_option maxHeartbeats 8000000 in
set_option maxRecDepth 100000 in
theorem wkX11_simplex (l : Launch) (D : va_G) (cI cJ cB cZ : ClassId) (ad : Nat → Nat) (k : Nat) (t : XT) (a1 : Int32) (a2 : Int32) (Q : Int32 → XT → Prop) (hR : wqX11_simplex k t a1 a2 Q) : MetI l yX11_simplex wsX11_simplex 4 92 0 0 D (TYS cI cJ cB cZ) (wX cI cJ cB cZ ad t) [.ref (ad 0), .int a1, .int a2] (fun r u => Q r u) (fun u : XT => (wX cI cJ cB cZ ad u)) := by
  refine x_startI (ty := .int) (cc := cX11_simplex) (by decide) rfl (Nat.le_of_ble_eq_true rfl) ?_
  intro p e s m args below meth c A ls B hr hnm h hl
  have hx := B.1.1
  have hb := B.1.2.1
  have hml := B.1.2.2.1
  have hts := B.1.2.2.2.2
  have hown : s.vm.findClass RX11 = some m.cls := B.1.2.2.2.1
  have hin6 : ∀ w ∈ u_ws RX6 TX6 6, w ∈ wsX11_simplex := by decide +kernel
  have hin9 : ∀ w ∈ u_ws RX9 TX9 7, w ∈ wsX11_simplex := by decide +kernel
  have hin11 : ∀ w ∈ u_ws RX11 TX11 11, w ∈ wsX11_simplex := by decide +kernel
  have main : ∀ k : Nat, (∀ (t : XT) (li : Nat → Int32) (lj : Nat → Int64) (H : Heap) (locs : List Loc) (ls : Array Slot), wpX11_simplex k 0 t li lj Q → lv_has ls 3 [(0, .ref (ad 0)), (1, .int (li 1)), (2, .int (li 2))] → Hp D A s.heap (wX cI cJ cB cZ ad t) H locs → W p l e { frames := 4, cells := 0, slots := 0, locals := 92 } s m args below meth c H locs 0 0 (MQ below (va_Qi (fun r u => Q r u) (fun u t => xEnd D ((fun u : XT => (wX cI cJ cB cZ ad u)) u) A t) A) args s 0 0 A) (F0 m 0 ls [])) := by
    intro k
    induction k with
    | zero => exact fun _ _ _ _ _ _ hR => False.elim hR
    | succ k ih =>
      intro t li lj H locs ls hR hl h
      have hR : wbX11_simplex_0 (wpX11_simplex k) k t li lj Q := hR
      unfold wbX11_simplex_0 at hR
      refine lv_aload_n hx hb dX11_simplex_0 rfl (lv_at hl 0 rfl) ?_
      refine x_get (ci := 11) (C := RX11) (T := TX11) (N := 11) (v := .ref (ad 3)) B h hin11 0 2 rfl rfl (by decide) (by decide +kernel) rfl dX11_simplex_1 ?_
      refine lv_iload_n hx hb dX11_simplex_4 rfl (lv_at hl 1 rfl) ?_
      refine x_cVIF (n := 1) (As := [.int (li 1)]) (rest := []) B h (wkX9_has l D cI cJ cB cZ ad k t (li 1) _ hR) ⟨⟨_, rfl⟩, by decide +kernel, Nat.le_of_ble_eq_true rfl, Nat.le_of_ble_eq_true rfl⟩ gX11_simplex_X9_has (show ((wX cI cJ cB cZ ad t) : va_W)[3]? = some (_, .inr (9, _)) from rfl) rfl rfl hl.1 rfl (Nat.le_of_ble_eq_true rfl) dX11_simplex_5 ⟨Nat.le_of_ble_eq_true rfl, Nat.le_of_ble_eq_true rfl⟩ (fun r_1 t_1 H locs hR h => ?_)
      refine lv_if_ne (tgt := 13) hx hb dX11_simplex_8 (by decide) (fun c_2 => ?_) (fun c_2 => ?_)
      · have hR := hR.1 c_2
        refine lv_iload_n hx hb dX11_simplex_13 rfl (lv_at hl 2 rfl) ?_
        rcases sw_cases (li 2) 0 6 7 (by decide) with c_3 | ⟨j_3, hj_3, e_3⟩
        · refine lv_tableOut (tgt := 139) hx hb dX11_simplex_14 c_3 (by decide) ?_
          have hR := hR.1 c_3
          refine lv_iconst (v := (-1)) hx hb dX11_simplex_139 (by decide) ?_
          exact x_iret (w1 := (fun u : XT => (wX cI cJ cB cZ ad u))) t_1 B h hr rfl hR dX11_simplex_140
        · rcases (show j_3 = 0 ∨ j_3 = 1 ∨ j_3 = 2 ∨ j_3 = 3 ∨ j_3 = 4 ∨ j_3 = 5 ∨ j_3 = 6 by omega) with rfl | rfl | rfl | rfl | rfl | rfl | rfl
          · have e_3 : (li 2) = 0 := e_3.trans (by decide)
            have hR := hR.2.1 e_3
            refine lv_tableIn (off := 42) (tgt := 56) hx hb dX11_simplex_14 (by rw [e_3]; decide) (by rw [e_3]; decide) (by rw [e_3]; decide) (by decide) ?_
            refine lv_aload_n hx hb dX11_simplex_56 rfl (lv_at hl 0 rfl) ?_
            refine x_get (ci := 11) (C := RX11) (T := TX11) (N := 11) (v := .ref (ad 3)) B h hin11 0 2 rfl rfl (by decide) (by decide +kernel) rfl dX11_simplex_57 ?_
            refine x_get (ci := 9) (C := RX9) (T := TX9) (N := 7) (v := .ref (ad 14)) B h hin9 3 1 rfl rfl (by decide) (by decide +kernel) rfl dX11_simplex_60 ?_
            refine lv_iload_n hx hb dX11_simplex_63 rfl (lv_at hl 1 rfl) ?_
            obtain ⟨hb_4, hR⟩ := hR
            refine va_iald (f := (t_1.2.2.1 2)) hx hb B.2.1 h.1 14 0 rfl rfl hb_4 dX11_simplex_64 ?_
            refine lv_topi (fun v_4 ev_4 => ?_)
            have hR := hR v_4 ev_4
            exact x_iret (w1 := (fun u : XT => (wX cI cJ cB cZ ad u))) t_1 B h hr rfl hR dX11_simplex_65
          · have e_3 : (li 2) = 1 := e_3.trans (by decide)
            have hR := hR.2.2.1 e_3
            refine lv_tableIn (off := 52) (tgt := 66) hx hb dX11_simplex_14 (by rw [e_3]; decide) (by rw [e_3]; decide) (by rw [e_3]; decide) (by decide) ?_
            refine lv_aload_n hx hb dX11_simplex_66 rfl (lv_at hl 0 rfl) ?_
            refine x_get (ci := 11) (C := RX11) (T := TX11) (N := 11) (v := .ref (ad 3)) B h hin11 0 2 rfl rfl (by decide) (by decide +kernel) rfl dX11_simplex_67 ?_
            refine x_get (ci := 9) (C := RX9) (T := TX9) (N := 7) (v := .ref (ad 15)) B h hin9 3 2 rfl rfl (by decide) (by decide +kernel) rfl dX11_simplex_70 ?_
            refine lv_iload_n hx hb dX11_simplex_73 rfl (lv_at hl 1 rfl) ?_
            obtain ⟨hb_5, hR⟩ := hR
            refine va_iald (f := (t_1.2.2.1 3)) hx hb B.2.1 h.1 15 0 rfl rfl hb_5 dX11_simplex_74 ?_
            refine lv_topi (fun v_5 ev_5 => ?_)
            have hR := hR v_5 ev_5
            exact x_iret (w1 := (fun u : XT => (wX cI cJ cB cZ ad u))) t_1 B h hr rfl hR dX11_simplex_75
          · have e_3 : (li 2) = 2 := e_3.trans (by decide)
            have hR := hR.2.2.2.1 e_3
            refine lv_tableIn (off := 62) (tgt := 76) hx hb dX11_simplex_14 (by rw [e_3]; decide) (by rw [e_3]; decide) (by rw [e_3]; decide) (by decide) ?_
            refine lv_aload_n hx hb dX11_simplex_76 rfl (lv_at hl 0 rfl) ?_
            refine lv_iload_n hx hb dX11_simplex_77 rfl (lv_at hl 1 rfl) ?_
            refine x_cVIF (n := 1) (As := [.int (li 1)]) (rest := []) B h (wkX11_isThere l D cI cJ cB cZ ad k t_1 (li 1) _ hR) ⟨⟨_, rfl⟩, by decide +kernel, Nat.le_of_ble_eq_true rfl, Nat.le_of_ble_eq_true rfl⟩ gX11_simplex_X11_isThere (show ((wX cI cJ cB cZ ad t_1) : va_W)[0]? = some (_, .inr (11, _)) from rfl) rfl rfl hl.1 rfl (Nat.le_of_ble_eq_true rfl) dX11_simplex_78 ⟨Nat.le_of_ble_eq_true rfl, Nat.le_of_ble_eq_true rfl⟩ (fun r_6 t_6 H locs hR h => ?_)
            refine lv_if_eq (tgt := 88) hx hb dX11_simplex_81 (by decide) (fun c_7 => ?_) (fun c_7 => ?_)
            · have hR := hR.1 c_7
              refine lv_iconst (v := 0) hx hb dX11_simplex_88 (by decide) ?_
              exact x_iret (w1 := (fun u : XT => (wX cI cJ cB cZ ad u))) t_6 B h hr rfl hR dX11_simplex_89
            · have hR := hR.2 c_7
              refine lv_iconst (v := 1) hx hb dX11_simplex_84 (by decide) ?_
              refine lv_goto (tgt := 89) hx hb dX11_simplex_85 (by decide) ?_
              exact x_iret (w1 := (fun u : XT => (wX cI cJ cB cZ ad u))) t_6 B h hr rfl hR dX11_simplex_89
          · have e_3 : (li 2) = 3 := e_3.trans (by decide)
            have hR := hR.2.2.2.2.1 e_3
            refine lv_tableIn (off := 76) (tgt := 90) hx hb dX11_simplex_14 (by rw [e_3]; decide) (by rw [e_3]; decide) (by rw [e_3]; decide) (by decide) ?_
            refine lv_aload_n hx hb dX11_simplex_90 rfl (lv_at hl 0 rfl) ?_
            refine x_get (ci := 11) (C := RX11) (T := TX11) (N := 11) (v := .ref (ad 4)) B h hin11 0 3 rfl rfl (by decide) (by decide +kernel) rfl dX11_simplex_91 ?_
            refine x_get (ci := 6) (C := RX6) (T := TX6) (N := 6) (v := .ref (ad 20)) B h hin6 4 1 rfl rfl (by decide) (by decide +kernel) rfl dX11_simplex_94 ?_
            refine lv_iload_n hx hb dX11_simplex_97 rfl (lv_at hl 1 rfl) ?_
            obtain ⟨hb_8, hR⟩ := hR
            refine va_iald (f := (t_1.2.2.1 5)) hx hb B.2.1 h.1 20 0 rfl rfl hb_8 dX11_simplex_98 ?_
            refine lv_topi (fun v_8 ev_8 => ?_)
            have hR := hR v_8 ev_8
            exact x_iret (w1 := (fun u : XT => (wX cI cJ cB cZ ad u))) t_1 B h hr rfl hR dX11_simplex_99
          · have e_3 : (li 2) = 4 := e_3.trans (by decide)
            have hR := hR.2.2.2.2.2.1 e_3
            refine lv_tableIn (off := 86) (tgt := 100) hx hb dX11_simplex_14 (by rw [e_3]; decide) (by rw [e_3]; decide) (by rw [e_3]; decide) (by decide) ?_
            refine lv_aload_n hx hb dX11_simplex_100 rfl (lv_at hl 0 rfl) ?_
            refine x_get (ci := 11) (C := RX11) (T := TX11) (N := 11) (v := .ref (ad 4)) B h hin11 0 3 rfl rfl (by decide) (by decide +kernel) rfl dX11_simplex_101 ?_
            refine lv_iload_n hx hb dX11_simplex_104 rfl (lv_at hl 1 rfl) ?_
            refine x_cVIF (n := 1) (As := [.int (li 1)]) (rest := []) B h (wkX6_side l D cI cJ cB cZ ad k t_1 (li 1) _ hR) ⟨⟨_, rfl⟩, by decide +kernel, Nat.le_of_ble_eq_true rfl, Nat.le_of_ble_eq_true rfl⟩ gX11_simplex_X6_side (show ((wX cI cJ cB cZ ad t_1) : va_W)[4]? = some (_, .inr (6, _)) from rfl) rfl rfl hl.1 rfl (Nat.le_of_ble_eq_true rfl) dX11_simplex_105 ⟨Nat.le_of_ble_eq_true rfl, Nat.le_of_ble_eq_true rfl⟩ (fun r_9 t_9 H locs hR h => ?_)
            exact x_iret (w1 := (fun u : XT => (wX cI cJ cB cZ ad u))) t_9 B h hr rfl hR dX11_simplex_108
          · have e_3 : (li 2) = 5 := e_3.trans (by decide)
            have hR := hR.2.2.2.2.2.2.1 e_3
            refine lv_tableIn (off := 95) (tgt := 109) hx hb dX11_simplex_14 (by rw [e_3]; decide) (by rw [e_3]; decide) (by rw [e_3]; decide) (by decide) ?_
            refine lv_aload_n hx hb dX11_simplex_109 rfl (lv_at hl 0 rfl) ?_
            refine x_get (ci := 11) (C := RX11) (T := TX11) (N := 11) (v := .ref (ad 6)) B h hin11 0 5 rfl rfl (by decide) (by decide +kernel) rfl dX11_simplex_110 ?_
            refine lv_iload_n hx hb dX11_simplex_113 rfl (lv_at hl 1 rfl) ?_
            refine x_cVIF (n := 1) (As := [.int (li 1)]) (rest := []) B h (wkX2_of l D cI cJ cB cZ ad k t_1 (li 1) _ hR) ⟨⟨_, rfl⟩, by decide +kernel, Nat.le_of_ble_eq_true rfl, Nat.le_of_ble_eq_true rfl⟩ gX11_simplex_X2_of (show ((wX cI cJ cB cZ ad t_1) : va_W)[6]? = some (_, .inr (2, _)) from rfl) rfl rfl hl.1 rfl (Nat.le_of_ble_eq_true rfl) dX11_simplex_114 ⟨Nat.le_of_ble_eq_true rfl, Nat.le_of_ble_eq_true rfl⟩ (fun r_10 t_10 H locs hR h => ?_)
            exact x_iret (w1 := (fun u : XT => (wX cI cJ cB cZ ad u))) t_10 B h hr rfl hR dX11_simplex_117
          · have e_3 : (li 2) = 6 := e_3.trans (by decide)
            have hR := hR.2.2.2.2.2.2.2 e_3
            refine lv_tableIn (off := 104) (tgt := 118) hx hb dX11_simplex_14 (by rw [e_3]; decide) (by rw [e_3]; decide) (by rw [e_3]; decide) (by decide) ?_
            refine lv_aload_n hx hb dX11_simplex_118 rfl (lv_at hl 0 rfl) ?_
            refine x_get (ci := 11) (C := RX11) (T := TX11) (N := 11) (v := .ref (ad 3)) B h hin11 0 2 rfl rfl (by decide) (by decide +kernel) rfl dX11_simplex_119 ?_
            refine x_get (ci := 9) (C := RX9) (T := TX9) (N := 7) (v := .ref (ad 18)) B h hin9 3 5 rfl rfl (by decide) (by decide +kernel) rfl dX11_simplex_122 ?_
            refine lv_iload_n hx hb dX11_simplex_125 rfl (lv_at hl 1 rfl) ?_
            obtain ⟨hb_11, hR⟩ := hR
            refine va_lald (f := (t_1.2.2.2 1)) hx hb B.2.1 h.1 18 1 rfl rfl hb_11 dX11_simplex_126 ?_
            refine lv_topl (fun v_11 ev_11 => ?_)
            have hR := hR v_11 ev_11
            refine lv_aload_n hx hb dX11_simplex_127 rfl (lv_at hl 0 rfl) ?_
            refine x_get (ci := 11) (C := RX11) (T := TX11) (N := 11) (v := .ref (ad 4)) B h hin11 0 3 rfl rfl (by decide) (by decide +kernel) rfl dX11_simplex_128 ?_
            refine x_get (ci := 6) (C := RX6) (T := TX6) (N := 6) (v := .long (t_1.2.1 0)) B h hin6 4 2 rfl rfl (by decide) (by decide +kernel) rfl dX11_simplex_131 ?_
            refine lv_land hx hb dX11_simplex_134 ?_
            refine lv_topl (fun v_12 ev_12 => ?_)
            have hR := hR v_12 ev_12
            refine x_cSIE (n := 1) (As := [.long v_12]) (rest := []) B h (wkJ13_bitCount_95d88 l D cI cJ cB cZ ad k v_12 _ hR) ⟨⟨_, rfl⟩, by decide +kernel, Nat.le_of_ble_eq_true rfl, Nat.le_of_ble_eq_true rfl⟩ gX11_simplex_J13_bitCount_95d88 rfl hl.1 rfl (Nat.le_of_ble_eq_true rfl) dX11_simplex_135 ⟨Nat.le_of_ble_eq_true rfl, Nat.le_of_ble_eq_true rfl⟩ (fun r_13 _ H locs hR h => ?_)
            exact x_iret (w1 := (fun u : XT => (wX cI cJ cB cZ ad u))) t_1 B h hr rfl hR dX11_simplex_138
      · have hR := hR.2 c_2
        refine lv_iconst (v := (-1)) hx hb dX11_simplex_11 (by decide) ?_
        exact x_iret (w1 := (fun u : XT => (wX cI cJ cB cZ ad u))) t_1 B h hr rfl hR dX11_simplex_12
  exact (main k) t _ _ s.heap [] ls hR hl h
def wbX11_number_0 (rec : Nat → XT → (Nat → Int32) → (Nat → Int64) → (Int32 → XT → Prop) → Prop) (k : Nat) (t : XT) (li : Nat → Int32) (lj : Nat → Int64) (Q : Int32 → XT → Prop) : Prop :=
  (((li 1) < 0) → rec 1 t li lj Q) ∧ (¬ ((li 1) < 0) → (((li 1) < 256) → (vp_in (li 1) 256 ∧ (∀ v_3 : Int32, v_3 = (t.2.2.1 4) (li 1).toNatClampNeg → Q v_3 t))) ∧ (¬ ((li 1) < 256) → rec 1 t li lj Q))
def wbX11_number_1 (rec : Nat → XT → (Nat → Int32) → (Nat → Int64) → (Int32 → XT → Prop) → Prop) (k : Nat) (t : XT) (li : Nat → Int32) (lj : Nat → Int64) (Q : Int32 → XT → Prop) : Prop :=
  Q (-1) t
def wpX11_number : Nat → Nat → XT → (Nat → Int32) → (Nat → Int64) → (Int32 → XT → Prop) → Prop
  | 0, _, _, _, _, _ => False
  | k + 1, 0, t, li, lj, Q => wbX11_number_0 (wpX11_number k) k t li lj Q
  | k + 1, 1, t, li, lj, Q => wbX11_number_1 (wpX11_number k) k t li lj Q
  | _ + 1, _, _, _, _, _ => False
def wqX11_number (k : Nat) (t : XT) (a1 : Int32) (Q : Int32 → XT → Prop) : Prop := wpX11_number k 0 t (uI (fun _ => 0) 1 a1) (fun _ => 0) Q
set_option maxHeartbeats 8000000 in
set_option maxRecDepth 100000 in
theorem wkX11_number (l : Launch) (D : va_G) (cI cJ cB cZ : ClassId) (ad : Nat → Nat) (k : Nat) (t : XT) (a1 : Int32) (Q : Int32 → XT → Prop) (hR : wqX11_number k t a1 Q) : MetI l yX11_number wsX11_number 0 0 0 0 D (TYS cI cJ cB cZ) (wX cI cJ cB cZ ad t) [.ref (ad 0), .int a1] (fun r u => Q r u) (fun u : XT => (wX cI cJ cB cZ ad u)) := by
  refine x_startI (ty := .int) (cc := cX11_number) (by decide) rfl (Nat.le_of_ble_eq_true rfl) ?_
  intro p e s m args below meth c A ls B hr hnm h hl
  have hx := B.1.1
  have hb := B.1.2.1
  have hml := B.1.2.2.1
  have hts := B.1.2.2.2.2
  have hown : s.vm.findClass RX11 = some m.cls := B.1.2.2.2.1
  have hin9 : ∀ w ∈ u_ws RX9 TX9 7, w ∈ wsX11_number := by decide +kernel
  have hin11 : ∀ w ∈ u_ws RX11 TX11 11, w ∈ wsX11_number := by decide +kernel
  have main : ∀ k : Nat, (∀ (t : XT) (li : Nat → Int32) (lj : Nat → Int64) (H : Heap) (locs : List Loc) (ls : Array Slot), wpX11_number k 0 t li lj Q → lv_has ls 2 [(0, .ref (ad 0)), (1, .int (li 1))] → Hp D A s.heap (wX cI cJ cB cZ ad t) H locs → W p l e { frames := 0, cells := 0, slots := 0, locals := 0 } s m args below meth c H locs 0 0 (MQ below (va_Qi (fun r u => Q r u) (fun u t => xEnd D ((fun u : XT => (wX cI cJ cB cZ ad u)) u) A t) A) args s 0 0 A) (F0 m 0 ls [])) ∧
      (∀ (t : XT) (li : Nat → Int32) (lj : Nat → Int64) (H : Heap) (locs : List Loc) (ls : Array Slot), wpX11_number k 1 t li lj Q → lv_has ls 2 [(0, .ref (ad 0)), (1, .int (li 1))] → Hp D A s.heap (wX cI cJ cB cZ ad t) H locs → W p l e { frames := 0, cells := 0, slots := 0, locals := 0 } s m args below meth c H locs 0 0 (MQ below (va_Qi (fun r u => Q r u) (fun u t => xEnd D ((fun u : XT => (wX cI cJ cB cZ ad u)) u) A t) A) args s 0 0 A) (F0 m 11 ls [])) := by
    intro k
    induction k with
    | zero => exact ⟨fun _ _ _ _ _ _ hR => False.elim hR, fun _ _ _ _ _ _ hR => False.elim hR⟩
    | succ k ih =>
      refine ⟨?_, ?_⟩
      · intro t li lj H locs ls hR hl h
        have hR : wbX11_number_0 (wpX11_number k) k t li lj Q := hR
        unfold wbX11_number_0 at hR
        refine lv_iload_n hx hb dX11_number_0 rfl (lv_at hl 1 rfl) ?_
        refine lv_if_lt (tgt := 11) hx hb dX11_number_1 (by decide) (fun c_1 => ?_) (fun c_1 => ?_)
        · have hR := hR.1 c_1
          exact ih.2 t li lj H locs ls hR (lv_sub hl [0, 1] rfl) h
        · have hR := hR.2 c_1
          refine lv_iload_n hx hb dX11_number_4 rfl (lv_at hl 1 rfl) ?_
          refine lv_sipush (v := 256) hx hb dX11_number_5 (by decide) ?_
          refine lv_icmp_lt (tgt := 13) hx hb dX11_number_8 (by decide) (fun c_2 => ?_) (fun c_2 => ?_)
          · have hR := hR.1 c_2
            refine lv_aload_n hx hb dX11_number_13 rfl (lv_at hl 0 rfl) ?_
            refine x_get (ci := 11) (C := RX11) (T := TX11) (N := 11) (v := .ref (ad 3)) B h hin11 0 2 rfl rfl (by decide) (by decide +kernel) rfl dX11_number_14 ?_
            refine x_get (ci := 9) (C := RX9) (T := TX9) (N := 7) (v := .ref (ad 16)) B h hin9 3 3 rfl rfl (by decide) (by decide +kernel) rfl dX11_number_17 ?_
            refine lv_iload_n hx hb dX11_number_20 rfl (lv_at hl 1 rfl) ?_
            obtain ⟨hb_3, hR⟩ := hR
            refine va_iald (f := (t.2.2.1 4)) hx hb B.2.1 h.1 16 0 rfl rfl hb_3 dX11_number_21 ?_
            refine lv_topi (fun v_3 ev_3 => ?_)
            have hR := hR v_3 ev_3
            exact x_iret (w1 := (fun u : XT => (wX cI cJ cB cZ ad u))) t B h hr rfl hR dX11_number_22
          · have hR := hR.2 c_2
            exact ih.2 t li lj H locs ls hR (lv_sub hl [0, 1] rfl) h
      · intro t li lj H locs ls hR hl h
        have hR : wbX11_number_1 (wpX11_number k) k t li lj Q := hR
        unfold wbX11_number_1 at hR
        refine lv_iconst (v := (-1)) hx hb dX11_number_11 (by decide) ?_
        exact x_iret (w1 := (fun u : XT => (wX cI cJ cB cZ ad u))) t B h hr rfl hR dX11_number_12
  exact (main k).1 t _ _ s.heap [] ls hR hl h
set_option maxRecDepth 20000 in
theorem ggX9_signOf_X11_isIn : GoodIn wsX9_signOf wsX11_isIn := goodIn_r _ [5] (by decide +kernel) (by decide +kernel)
set_option maxRecDepth 20000 in
theorem gX9_signOf_X11_isIn_n58 : GoodIn wsX9_signOf (wsX11_isIn) := ggX9_signOf_X11_isIn
set_option maxRecDepth 20000 in
theorem ggX9_signOf_J6_bitCount_0f7a4 : GoodIn wsX9_signOf wsJ6_bitCount_0f7a4 := goodIn_r _ [9, 10, 11, 12] (by decide +kernel) (by decide +kernel)
set_option maxRecDepth 20000 in
theorem gX9_signOf_J6_bitCount_0f7a4 : GoodIn wsX9_signOf (va_wsS RX9 48 yJ6_bitCount_0f7a4 wsJ6_bitCount_0f7a4) := goodIn_app (goodIn_of _ (by decide +kernel)) ggX9_signOf_J6_bitCount_0f7a4
def wbX9_signOf_0 (rec : Nat → XT → (Nat → Int32) → (Nat → Int64) → (Int32 → XT → Prop) → Prop) (k : Nat) (t : XT) (li : Nat → Int32) (lj : Nat → Int64) (Q : Int32 → XT → Prop) : Prop :=
  (vp_in (li 2) 64 ∧ (∀ v_1 : Int64, v_1 = (t.2.2.2 0) (li 2).toNatClampNeg → (wqX11_isIn k v_1 (li 1) (fun r_2 => ((¬ r_2 = 0) → (vp_in (li 2) 64 ∧ (∀ v_4 : Int32, v_4 = (t.2.2.1 2) (li 2).toNatClampNeg → (vp_in (li 1) 64 ∧ (∀ v_5 : Int32, v_5 = (t.2.2.1 2) (li 1).toNatClampNeg → (∀ v_6 : Int32, v_6 = (v_5 ^^^ (-1)) → (∀ v_7 : Int32, v_7 = (v_4 &&& v_6) → (vp_in (li 2) 64 ∧ (∀ v_8 : Int32, v_8 = (t.2.2.1 2) (li 2).toNatClampNeg → (∀ v_9 : Int32, v_9 = (v_7 - 1) → (∀ v_10 : Int32, v_10 = (v_8 &&& v_9) → (wqJ6_bitCount_0f7a4 k v_10 (fun r_11 => (∀ v_12 : Int32, v_12 = (r_11 &&& 1) → ((¬ v_12 = 0) → Q (-1) t) ∧ ((v_12 = 0) → Q 1 t))))))))))))))) ∧ ((r_2 = 0) → Q 0 t)))))
def wpX9_signOf : Nat → Nat → XT → (Nat → Int32) → (Nat → Int64) → (Int32 → XT → Prop) → Prop
  | 0, _, _, _, _, _ => False
  | k + 1, 0, t, li, lj, Q => wbX9_signOf_0 (wpX9_signOf k) k t li lj Q
  | _ + 1, _, _, _, _, _ => False
def wqX9_signOf (k : Nat) (t : XT) (a1 : Int32) (a2 : Int32) (Q : Int32 → XT → Prop) : Prop := wpX9_signOf k 0 t (uI (uI (fun _ => 0) 1 a1) 2 a2) (fun _ => 0) Q
set_option maxHeartbeats 8000000 in
set_option maxRecDepth 100000 in
theorem wkX9_signOf (l : Launch) (D : va_G) (cI cJ cB cZ : ClassId) (ad : Nat → Nat) (k : Nat) (t : XT) (a1 : Int32) (a2 : Int32) (Q : Int32 → XT → Prop) (hR : wqX9_signOf k t a1 a2 Q) : MetI l yX9_signOf wsX9_signOf 1 22 0 0 D (TYS cI cJ cB cZ) (wX cI cJ cB cZ ad t) [.ref (ad 3), .int a1, .int a2] (fun r u => Q r u) (fun u : XT => (wX cI cJ cB cZ ad u)) := by
  refine x_startI (ty := .int) (cc := cX9_signOf) (by decide) rfl (Nat.le_of_ble_eq_true rfl) ?_
  intro p e s m args below meth c A ls B hr hnm h hl
  have hx := B.1.1
  have hb := B.1.2.1
  have hml := B.1.2.2.1
  have hts := B.1.2.2.2.2
  have hown : s.vm.findClass RX9 = some m.cls := B.1.2.2.2.1
  have hin9 : ∀ w ∈ u_ws RX9 TX9 7, w ∈ wsX9_signOf := by decide +kernel
  have main : ∀ k : Nat, (∀ (t : XT) (li : Nat → Int32) (lj : Nat → Int64) (H : Heap) (locs : List Loc) (ls : Array Slot), wpX9_signOf k 0 t li lj Q → lv_has ls 5 [(0, .ref (ad 3)), (1, .int (li 1)), (2, .int (li 2))] → Hp D A s.heap (wX cI cJ cB cZ ad t) H locs → W p l e { frames := 1, cells := 0, slots := 0, locals := 22 } s m args below meth c H locs 0 0 (MQ below (va_Qi (fun r u => Q r u) (fun u t => xEnd D ((fun u : XT => (wX cI cJ cB cZ ad u)) u) A t) A) args s 0 0 A) (F0 m 0 ls [])) := by
    intro k
    induction k with
    | zero => exact fun _ _ _ _ _ _ hR => False.elim hR
    | succ k ih =>
      intro t li lj H locs ls hR hl h
      have hR : wbX9_signOf_0 (wpX9_signOf k) k t li lj Q := hR
      unfold wbX9_signOf_0 at hR
      refine lv_aload_n hx hb dX9_signOf_0 rfl (lv_at hl 0 rfl) ?_
      refine x_get (ci := 9) (C := RX9) (T := TX9) (N := 7) (v := .ref (ad 17)) B h hin9 3 4 rfl rfl (by decide) (by decide +kernel) rfl dX9_signOf_1 ?_
      refine lv_iload_n hx hb dX9_signOf_4 rfl (lv_at hl 2 rfl) ?_
      obtain ⟨hb_1, hR⟩ := hR
      refine va_lald (f := (t.2.2.2 0)) hx hb B.2.1 h.1 17 1 rfl rfl hb_1 dX9_signOf_5 ?_
      refine lv_topl (fun v_1 ev_1 => ?_)
      have hR := hR v_1 ev_1
      refine lv_iload_n hx hb dX9_signOf_6 rfl (lv_at hl 1 rfl) ?_
      refine x_cNIE (n := 2) (As := [.long v_1, .int (li 1)]) (rest := []) B h (wkX11_isIn l D cI cJ cB cZ ad k v_1 (li 1) _ hR) ⟨⟨_, rfl⟩, by decide +kernel, Nat.le_of_ble_eq_true rfl, Nat.le_of_ble_eq_true rfl⟩ gX9_signOf_X11_isIn_n58 (by decide +kernel) (by decide +kernel) (host := "MorseDesk") (by decide +kernel) rfl hl.1 rfl (Nat.le_of_ble_eq_true rfl) dX9_signOf_7 ⟨Nat.le_of_ble_eq_true rfl, Nat.le_of_ble_eq_true rfl⟩ (fun r_2 _ H locs hR h => ?_)
      refine lv_if_ne (tgt := 15) hx hb dX9_signOf_10 (by decide) (fun c_3 => ?_) (fun c_3 => ?_)
      · have hR := hR.1 c_3
        refine lv_aload_n hx hb dX9_signOf_15 rfl (lv_at hl 0 rfl) ?_
        refine x_get (ci := 9) (C := RX9) (T := TX9) (N := 7) (v := .ref (ad 14)) B h hin9 3 1 rfl rfl (by decide) (by decide +kernel) rfl dX9_signOf_16 ?_
        refine lv_iload_n hx hb dX9_signOf_19 rfl (lv_at hl 2 rfl) ?_
        obtain ⟨hb_4, hR⟩ := hR
        refine va_iald (f := (t.2.2.1 2)) hx hb B.2.1 h.1 14 0 rfl rfl hb_4 dX9_signOf_20 ?_
        refine lv_topi (fun v_4 ev_4 => ?_)
        have hR := hR v_4 ev_4
        refine lv_aload_n hx hb dX9_signOf_21 rfl (lv_at hl 0 rfl) ?_
        refine x_get (ci := 9) (C := RX9) (T := TX9) (N := 7) (v := .ref (ad 14)) B h hin9 3 1 rfl rfl (by decide) (by decide +kernel) rfl dX9_signOf_22 ?_
        refine lv_iload_n hx hb dX9_signOf_25 rfl (lv_at hl 1 rfl) ?_
        obtain ⟨hb_5, hR⟩ := hR
        refine va_iald (f := (t.2.2.1 2)) hx hb B.2.1 h.1 14 0 rfl rfl hb_5 dX9_signOf_26 ?_
        refine lv_topi (fun v_5 ev_5 => ?_)
        have hR := hR v_5 ev_5
        refine lv_iconst (v := (-1)) hx hb dX9_signOf_27 (by decide) ?_
        refine lv_ixor hx hb dX9_signOf_28 ?_
        refine lv_topi (fun v_6 ev_6 => ?_)
        have hR := hR v_6 ev_6
        refine lv_iand hx hb dX9_signOf_29 ?_
        refine lv_topi (fun v_7 ev_7 => ?_)
        have hR := hR v_7 ev_7
        refine lv_istore_n (lv' := [(3, .int v_7), (0, .ref (ad 3)), (1, .int (li 1)), (2, .int (li 2))]) hx hb dX9_signOf_30 rfl hl (by decide) rfl (fun ls hl => ?_)
        refine lv_aload_n hx hb dX9_signOf_31 rfl (lv_at hl 1 rfl) ?_
        refine x_get (ci := 9) (C := RX9) (T := TX9) (N := 7) (v := .ref (ad 14)) B h hin9 3 1 rfl rfl (by decide) (by decide +kernel) rfl dX9_signOf_32 ?_
        refine lv_iload_n hx hb dX9_signOf_35 rfl (lv_at hl 3 rfl) ?_
        obtain ⟨hb_8, hR⟩ := hR
        refine va_iald (f := (t.2.2.1 2)) hx hb B.2.1 h.1 14 0 rfl rfl hb_8 dX9_signOf_36 ?_
        refine lv_topi (fun v_8 ev_8 => ?_)
        have hR := hR v_8 ev_8
        refine lv_iload_n hx hb dX9_signOf_37 rfl (lv_at hl 0 rfl) ?_
        refine lv_iconst (v := 1) hx hb dX9_signOf_38 (by decide) ?_
        refine lv_isub hx hb dX9_signOf_39 ?_
        refine lv_topi (fun v_9 ev_9 => ?_)
        have hR := hR v_9 ev_9
        refine lv_iand hx hb dX9_signOf_40 ?_
        refine lv_topi (fun v_10 ev_10 => ?_)
        have hR := hR v_10 ev_10
        refine x_cSIE (n := 1) (As := [.int v_10]) (rest := []) B h (wkJ6_bitCount_0f7a4 l D cI cJ cB cZ ad k v_10 _ hR) ⟨⟨_, rfl⟩, by decide +kernel, Nat.le_of_ble_eq_true rfl, Nat.le_of_ble_eq_true rfl⟩ gX9_signOf_J6_bitCount_0f7a4 rfl hl.1 rfl (Nat.le_of_ble_eq_true rfl) dX9_signOf_41 ⟨Nat.le_of_ble_eq_true rfl, Nat.le_of_ble_eq_true rfl⟩ (fun r_11 _ H locs hR h => ?_)
        refine lv_istore (lv' := [(4, .int r_11), (3, .int v_7), (0, .ref (ad 3)), (1, .int (li 1)), (2, .int (li 2))]) hx hb dX9_signOf_44 hl (by decide) rfl (fun ls hl => ?_)
        refine lv_iload hx hb dX9_signOf_46 (lv_at hl 0 rfl) ?_
        refine lv_iconst (v := 1) hx hb dX9_signOf_48 (by decide) ?_
        refine lv_iand hx hb dX9_signOf_49 ?_
        refine lv_topi (fun v_12 ev_12 => ?_)
        have hR := hR v_12 ev_12
        refine lv_if_ne (tgt := 57) hx hb dX9_signOf_50 (by decide) (fun c_13 => ?_) (fun c_13 => ?_)
        · have hR := hR.1 c_13
          refine lv_iconst (v := (-1)) hx hb dX9_signOf_57 (by decide) ?_
          exact x_iret (w1 := (fun u : XT => (wX cI cJ cB cZ ad u))) t B h hr rfl hR dX9_signOf_58
        · have hR := hR.2 c_13
          refine lv_iconst (v := 1) hx hb dX9_signOf_53 (by decide) ?_
          refine lv_goto (tgt := 58) hx hb dX9_signOf_54 (by decide) ?_
          exact x_iret (w1 := (fun u : XT => (wX cI cJ cB cZ ad u))) t B h hr rfl hR dX9_signOf_58
      · have hR := hR.2 c_3
        refine lv_iconst (v := 0) hx hb dX9_signOf_13 (by decide) ?_
        exact x_iret (w1 := (fun u : XT => (wX cI cJ cB cZ ad u))) t B h hr rfl hR dX9_signOf_14
  exact (main k) t _ _ s.heap [] ls hR hl h
set_option maxRecDepth 20000 in
theorem ggX11_sign_X9_has : GoodIn wsX11_sign wsX9_has := goodIn_r _ [7, 8, 36, 37, 38, 39, 40, 41, 42] (by decide +kernel) (by decide +kernel)
set_option maxRecDepth 20000 in
theorem gX11_sign_X9_has : GoodIn wsX11_sign (wsV RX11 120 RX9 yX9_has wsX9_has) := goodIn_app (goodIn_of _ (by decide +kernel)) ggX11_sign_X9_has
set_option maxRecDepth 20000 in
theorem ggX11_sign_X9_signOf : GoodIn wsX11_sign wsX9_signOf := goodIn_r _ [12, 13, 14, 15, 16, 17, 18, 19, 20, 21, 22, 23, 24, 36, 37, 38, 39, 40, 41, 42] (by decide +kernel) (by decide +kernel)
set_option maxRecDepth 20000 in
theorem gX11_sign_X9_signOf : GoodIn wsX11_sign (wsV RX11 161 RX9 yX9_signOf wsX9_signOf) := goodIn_app (goodIn_of _ (by decide +kernel)) ggX11_sign_X9_signOf
def wbX11_sign_0 (rec : Nat → XT → (Nat → Int32) → (Nat → Int64) → (Int32 → XT → Prop) → Prop) (k : Nat) (t : XT) (li : Nat → Int32) (lj : Nat → Int64) (Q : Int32 → XT → Prop) : Prop :=
  (wqX9_has k t (li 1) (fun r_1 t_1 => ((r_1 = 0) → rec 1 t_1 li lj Q) ∧ (¬ (r_1 = 0) → (wqX9_has k t_1 (li 2) (fun r_3 t_3 => ((¬ r_3 = 0) → (wqX9_signOf k t_3 (li 1) (li 2) (fun r_5 t_5 => Q r_5 t_5))) ∧ ((r_3 = 0) → rec 1 t_3 li lj Q))))))
def wbX11_sign_1 (rec : Nat → XT → (Nat → Int32) → (Nat → Int64) → (Int32 → XT → Prop) → Prop) (k : Nat) (t : XT) (li : Nat → Int32) (lj : Nat → Int64) (Q : Int32 → XT → Prop) : Prop :=
  Q (-2147483648) t
def wpX11_sign : Nat → Nat → XT → (Nat → Int32) → (Nat → Int64) → (Int32 → XT → Prop) → Prop
  | 0, _, _, _, _, _ => False
  | k + 1, 0, t, li, lj, Q => wbX11_sign_0 (wpX11_sign k) k t li lj Q
  | k + 1, 1, t, li, lj, Q => wbX11_sign_1 (wpX11_sign k) k t li lj Q
  | _ + 1, _, _, _, _, _ => False
def wqX11_sign (k : Nat) (t : XT) (a1 : Int32) (a2 : Int32) (Q : Int32 → XT → Prop) : Prop := wpX11_sign k 0 t (uI (uI (fun _ => 0) 1 a1) 2 a2) (fun _ => 0) Q
set_option maxHeartbeats 8000000 in
set_option maxRecDepth 100000 in
theorem wkX11_sign (l : Launch) (D : va_G) (cI cJ cB cZ : ClassId) (ad : Nat → Nat) (k : Nat) (t : XT) (a1 : Int32) (a2 : Int32) (Q : Int32 → XT → Prop) (hR : wqX11_sign k t a1 a2 Q) : MetI l yX11_sign wsX11_sign 2 46 0 0 D (TYS cI cJ cB cZ) (wX cI cJ cB cZ ad t) [.ref (ad 0), .int a1, .int a2] (fun r u => Q r u) (fun u : XT => (wX cI cJ cB cZ ad u)) := by
  refine x_startI (ty := .int) (cc := cX11_sign) (by decide) rfl (Nat.le_of_ble_eq_true rfl) ?_
  intro p e s m args below meth c A ls B hr hnm h hl
  have hx := B.1.1
  have hb := B.1.2.1
  have hml := B.1.2.2.1
  have hts := B.1.2.2.2.2
  have hown : s.vm.findClass RX11 = some m.cls := B.1.2.2.2.1
  have hin11 : ∀ w ∈ u_ws RX11 TX11 11, w ∈ wsX11_sign := by decide +kernel
  have main : ∀ k : Nat, (∀ (t : XT) (li : Nat → Int32) (lj : Nat → Int64) (H : Heap) (locs : List Loc) (ls : Array Slot), wpX11_sign k 0 t li lj Q → lv_has ls 3 [(0, .ref (ad 0)), (1, .int (li 1)), (2, .int (li 2))] → Hp D A s.heap (wX cI cJ cB cZ ad t) H locs → W p l e { frames := 2, cells := 0, slots := 0, locals := 46 } s m args below meth c H locs 0 0 (MQ below (va_Qi (fun r u => Q r u) (fun u t => xEnd D ((fun u : XT => (wX cI cJ cB cZ ad u)) u) A t) A) args s 0 0 A) (F0 m 0 ls [])) ∧
      (∀ (t : XT) (li : Nat → Int32) (lj : Nat → Int64) (H : Heap) (locs : List Loc) (ls : Array Slot), wpX11_sign k 1 t li lj Q → lv_has ls 3 [(0, .ref (ad 0)), (1, .int (li 1)), (2, .int (li 2))] → Hp D A s.heap (wX cI cJ cB cZ ad t) H locs → W p l e { frames := 2, cells := 0, slots := 0, locals := 46 } s m args below meth c H locs 0 0 (MQ below (va_Qi (fun r u => Q r u) (fun u t => xEnd D ((fun u : XT => (wX cI cJ cB cZ ad u)) u) A t) A) args s 0 0 A) (F0 m 22 ls [])) := by
    intro k
    induction k with
    | zero => exact ⟨fun _ _ _ _ _ _ hR => False.elim hR, fun _ _ _ _ _ _ hR => False.elim hR⟩
    | succ k ih =>
      refine ⟨?_, ?_⟩
      · intro t li lj H locs ls hR hl h
        have hR : wbX11_sign_0 (wpX11_sign k) k t li lj Q := hR
        unfold wbX11_sign_0 at hR
        refine lv_aload_n hx hb dX11_sign_0 rfl (lv_at hl 0 rfl) ?_
        refine x_get (ci := 11) (C := RX11) (T := TX11) (N := 11) (v := .ref (ad 3)) B h hin11 0 2 rfl rfl (by decide) (by decide +kernel) rfl dX11_sign_1 ?_
        refine lv_iload_n hx hb dX11_sign_4 rfl (lv_at hl 1 rfl) ?_
        refine x_cVIF (n := 1) (As := [.int (li 1)]) (rest := []) B h (wkX9_has l D cI cJ cB cZ ad k t (li 1) _ hR) ⟨⟨_, rfl⟩, by decide +kernel, Nat.le_of_ble_eq_true rfl, Nat.le_of_ble_eq_true rfl⟩ gX11_sign_X9_has (show ((wX cI cJ cB cZ ad t) : va_W)[3]? = some (_, .inr (9, _)) from rfl) rfl rfl hl.1 rfl (Nat.le_of_ble_eq_true rfl) dX11_sign_5 ⟨Nat.le_of_ble_eq_true rfl, Nat.le_of_ble_eq_true rfl⟩ (fun r_1 t_1 H locs hR h => ?_)
        refine lv_if_eq (tgt := 22) hx hb dX11_sign_8 (by decide) (fun c_2 => ?_) (fun c_2 => ?_)
        · have hR := hR.1 c_2
          exact ih.2 t_1 li lj H locs ls hR (lv_sub hl [0, 1, 2] rfl) h
        · have hR := hR.2 c_2
          refine lv_aload_n hx hb dX11_sign_11 rfl (lv_at hl 0 rfl) ?_
          refine x_get (ci := 11) (C := RX11) (T := TX11) (N := 11) (v := .ref (ad 3)) B h hin11 0 2 rfl rfl (by decide) (by decide +kernel) rfl dX11_sign_12 ?_
          refine lv_iload_n hx hb dX11_sign_15 rfl (lv_at hl 2 rfl) ?_
          refine x_cVIF (n := 1) (As := [.int (li 2)]) (rest := []) B h (wkX9_has l D cI cJ cB cZ ad k t_1 (li 2) _ hR) ⟨⟨_, rfl⟩, by decide +kernel, Nat.le_of_ble_eq_true rfl, Nat.le_of_ble_eq_true rfl⟩ gX11_sign_X9_has (show ((wX cI cJ cB cZ ad t_1) : va_W)[3]? = some (_, .inr (9, _)) from rfl) rfl rfl hl.1 rfl (Nat.le_of_ble_eq_true rfl) dX11_sign_16 ⟨Nat.le_of_ble_eq_true rfl, Nat.le_of_ble_eq_true rfl⟩ (fun r_3 t_3 H locs hR h => ?_)
          refine lv_if_ne (tgt := 25) hx hb dX11_sign_19 (by decide) (fun c_4 => ?_) (fun c_4 => ?_)
          · have hR := hR.1 c_4
            refine lv_aload_n hx hb dX11_sign_25 rfl (lv_at hl 0 rfl) ?_
            refine x_get (ci := 11) (C := RX11) (T := TX11) (N := 11) (v := .ref (ad 3)) B h hin11 0 2 rfl rfl (by decide) (by decide +kernel) rfl dX11_sign_26 ?_
            refine lv_iload_n hx hb dX11_sign_29 rfl (lv_at hl 1 rfl) ?_
            refine lv_iload_n hx hb dX11_sign_30 rfl (lv_at hl 2 rfl) ?_
            refine x_cVIF (n := 2) (As := [.int (li 1), .int (li 2)]) (rest := []) B h (wkX9_signOf l D cI cJ cB cZ ad k t_3 (li 1) (li 2) _ hR) ⟨⟨_, rfl⟩, by decide +kernel, Nat.le_of_ble_eq_true rfl, Nat.le_of_ble_eq_true rfl⟩ gX11_sign_X9_signOf (show ((wX cI cJ cB cZ ad t_3) : va_W)[3]? = some (_, .inr (9, _)) from rfl) rfl rfl hl.1 rfl (Nat.le_of_ble_eq_true rfl) dX11_sign_31 ⟨Nat.le_of_ble_eq_true rfl, Nat.le_of_ble_eq_true rfl⟩ (fun r_5 t_5 H locs hR h => ?_)
            exact x_iret (w1 := (fun u : XT => (wX cI cJ cB cZ ad u))) t_5 B h hr rfl hR dX11_sign_34
          · have hR := hR.2 c_4
            exact ih.2 t_3 li lj H locs ls hR (lv_sub hl [0, 1, 2] rfl) h
      · intro t li lj H locs ls hR hl h
        have hR : wbX11_sign_1 (wpX11_sign k) k t li lj Q := hR
        unfold wbX11_sign_1 at hR
        refine lv_ldc (v := (-2147483648)) hx hb hown (hts (.constant RX11 160 (-2147483648)) (by decide +kernel)) dX11_sign_22 ?_
        exact x_iret (w1 := (fun u : XT => (wX cI cJ cB cZ ad u))) t B h hr rfl hR dX11_sign_24
  exact (main k).1 t _ _ s.heap [] ls hR hl h
