set_option maxRecDepth 20000 in
theorem ggX11_undo_X3_restore : GoodIn wsX11_undo wsX3_restore := goodIn_r _ [8, 9, 10, 11, 12, 13, 14, 15, 16, 17, 18, 19, 20, 21, 22, 23, 24, 25, 26, 27, 28, 29, 30, 31, 32, 33, 34, 35, 36, 37, 49, 50, 51, 52, 53, 54, 55, 56, 57, 58] (by decide +kernel) (by decide +kernel)
set_option maxRecDepth 20000 in
theorem gX11_undo_X3_restore : GoodIn wsX11_undo (wsV RX11 226 RX3 yX3_restore wsX3_restore) := goodIn_app (goodIn_of _ (by decide +kernel)) ggX11_undo_X3_restore
def wbX11_undo_0 (rec : Nat → XT → (Nat → Int32) → (Nat → Int64) → (Int32 → XT → Prop) → Prop) (k : Nat) (t : XT) (li : Nat → Int32) (lj : Nat → Int64) (Q : Int32 → XT → Prop) : Prop :=
  ((¬ (t.1 8) = 0) → (wqX3_restore_c4 k t  (fun t_2 => Q (t_2.1 8) t_2))) ∧ (((t.1 8) = 0) → Q (-1) t)
def wpX11_undo : Nat → Nat → XT → (Nat → Int32) → (Nat → Int64) → (Int32 → XT → Prop) → Prop
  | 0, _, _, _, _, _ => False
  | k + 1, 0, t, li, lj, Q => wbX11_undo_0 (wpX11_undo k) k t li lj Q
  | _ + 1, _, _, _, _, _ => False
def wqX11_undo (k : Nat) (t : XT)  (Q : Int32 → XT → Prop) : Prop := wpX11_undo k 0 t (fun _ => 0) (fun _ => 0) Q
set_option maxHeartbeats 8000000 in
set_option maxRecDepth 100000 in
theorem wkX11_undo (l : Launch) (D : va_G) (cI cJ cB cZ : ClassId) (ad : Nat → Nat) (k : Nat) (t : XT)  (Q : Int32 → XT → Prop) (hR : wqX11_undo k t  Q) : MetI l yX11_undo wsX11_undo 4 92 0 0 D (TYS cI cJ cB cZ) (wX cI cJ cB cZ ad t) [.ref (ad 0)] (fun r u => Q r u) (fun u : XT => (wX cI cJ cB cZ ad u)) := by
  refine x_startI (ty := .int) (cc := cX11_undo) (by decide) rfl (Nat.le_of_ble_eq_true rfl) ?_
  intro p e s m args below meth c A ls B hr hnm h hl
  have hx := B.1.1
  have hb := B.1.2.1
  have hml := B.1.2.2.1
  have hts := B.1.2.2.2.2
  have hown : s.vm.findClass RX11 = some m.cls := B.1.2.2.2.1
  have hin3 : ∀ w ∈ u_ws RX3 TX3 4, w ∈ wsX11_undo := by decide +kernel
  have hin11 : ∀ w ∈ u_ws RX11 TX11 11, w ∈ wsX11_undo := by decide +kernel
  have main : ∀ k : Nat, (∀ (t : XT) (li : Nat → Int32) (lj : Nat → Int64) (H : Heap) (locs : List Loc) (ls : Array Slot), wpX11_undo k 0 t li lj Q → lv_has ls 1 [(0, .ref (ad 0))] → Hp D A s.heap (wX cI cJ cB cZ ad t) H locs → W p l e { frames := 4, cells := 0, slots := 0, locals := 92 } s m args below meth c H locs 0 0 (MQ below (va_Qi (fun r u => Q r u) (fun u t => xEnd D ((fun u : XT => (wX cI cJ cB cZ ad u)) u) A t) A) args s 0 0 A) (F0 m 0 ls [])) := by
    intro k
    induction k with
    | zero => exact fun _ _ _ _ _ _ hR => False.elim hR
    | succ k ih =>
      intro t li lj H locs ls hR hl h
      have hR : wbX11_undo_0 (wpX11_undo k) k t li lj Q := hR
      unfold wbX11_undo_0 at hR
      refine lv_aload_n hx hb dX11_undo_0 rfl (lv_at hl 0 rfl) ?_
      refine x_get (ci := 11) (C := RX11) (T := TX11) (N := 11) (v := .ref (ad 9)) B h hin11 0 8 rfl rfl (by decide) (by decide +kernel) rfl dX11_undo_1 ?_
      refine x_get (ci := 3) (C := RX3) (T := TX3) (N := 4) (v := .int (t.1 8)) B h hin3 9 2 rfl rfl (by decide) (by decide +kernel) rfl dX11_undo_4 ?_
      refine lv_if_ne (tgt := 12) hx hb dX11_undo_7 (by decide) (fun c_1 => ?_) (fun c_1 => ?_)
      · have hR := hR.1 c_1
        refine lv_aload_n hx hb dX11_undo_12 rfl (lv_at hl 0 rfl) ?_
        refine x_get (ci := 11) (C := RX11) (T := TX11) (N := 11) (v := .ref (ad 9)) B h hin11 0 8 rfl rfl (by decide) (by decide +kernel) rfl dX11_undo_13 ?_
        refine lv_aload_n hx hb dX11_undo_16 rfl (lv_at hl 0 rfl) ?_
        refine x_get (ci := 11) (C := RX11) (T := TX11) (N := 11) (v := .ref (ad 4)) B h hin11 0 3 rfl rfl (by decide) (by decide +kernel) rfl dX11_undo_17 ?_
        refine x_cVVF (n := 1) (As := [.ref (ad 4)]) (rest := []) B h (wkX3_restore_c4 l D cI cJ cB cZ ad k t  _ hR) ⟨⟨_, rfl⟩, by decide +kernel, Nat.le_of_ble_eq_true rfl, Nat.le_of_ble_eq_true rfl⟩ gX11_undo_X3_restore (show ((wX cI cJ cB cZ ad t) : va_W)[9]? = some (_, .inr (3, _)) from rfl) rfl rfl hl.1 rfl (Nat.le_of_ble_eq_true rfl) dX11_undo_20 ⟨Nat.le_of_ble_eq_true rfl, Nat.le_of_ble_eq_true rfl⟩ (fun t_2 H locs hR h => ?_)
        refine lv_aload_n hx hb dX11_undo_23 rfl (lv_at hl 0 rfl) ?_
        refine x_get (ci := 11) (C := RX11) (T := TX11) (N := 11) (v := .ref (ad 9)) B h hin11 0 8 rfl rfl (by decide) (by decide +kernel) rfl dX11_undo_24 ?_
        refine x_get (ci := 3) (C := RX3) (T := TX3) (N := 4) (v := .int (t_2.1 8)) B h hin3 9 2 rfl rfl (by decide) (by decide +kernel) rfl dX11_undo_27 ?_
        exact x_iret (w1 := (fun u : XT => (wX cI cJ cB cZ ad u))) t_2 B h hr rfl hR dX11_undo_30
      · have hR := hR.2 c_1
        refine lv_iconst (v := (-1)) hx hb dX11_undo_10 (by decide) ?_
        exact x_iret (w1 := (fun u : XT => (wX cI cJ cB cZ ad u))) t B h hr rfl hR dX11_undo_11
  exact (main k) t _ _ s.heap [] ls hR hl h
def wbX11_isDim_0 (rec : Nat → (Nat → Int32) → (Nat → Int64) → (Int32 → Prop) → Prop) (k : Nat) (li : Nat → Int32) (lj : Nat → Int64) (Q : Int32 → Prop) : Prop :=
  (((li 0) < 0) → rec 1 li lj Q) ∧ (¬ ((li 0) < 0) → (((5 : Int32) ≤ (li 0)) → rec 1 li lj Q) ∧ (¬ ((5 : Int32) ≤ (li 0)) → Q 1))
def wbX11_isDim_1 (rec : Nat → (Nat → Int32) → (Nat → Int64) → (Int32 → Prop) → Prop) (k : Nat) (li : Nat → Int32) (lj : Nat → Int64) (Q : Int32 → Prop) : Prop :=
  Q 0
def wpX11_isDim : Nat → Nat → (Nat → Int32) → (Nat → Int64) → (Int32 → Prop) → Prop
  | 0, _, _, _, _ => False
  | k + 1, 0, li, lj, Q => wbX11_isDim_0 (wpX11_isDim k) k li lj Q
  | k + 1, 1, li, lj, Q => wbX11_isDim_1 (wpX11_isDim k) k li lj Q
  | _ + 1, _, _, _, _ => False
def wqX11_isDim (k : Nat) (a0 : Int32) (Q : Int32 → Prop) : Prop := wpX11_isDim k 0 (uI (fun _ => 0) 0 a0) (fun _ => 0) Q
set_option maxHeartbeats 8000000 in
set_option maxRecDepth 100000 in
theorem wkX11_isDim (l : Launch) (D : va_G) (cI cJ cB cZ : ClassId) (ad : Nat → Nat) (k : Nat) (a0 : Int32) (Q : Int32 → Prop) (hR : wqX11_isDim k a0 Q) : MetI l yX11_isDim wsX11_isDim 0 0 0 0 D (TYS cI cJ cB cZ) [] [.int a0] (fun r _ => Q r) (fun _ : Unit => []) := by
  refine x_startI (ty := .boolean) (cc := cX11_isDim) (by decide) rfl (Nat.le_of_ble_eq_true rfl) ?_
  intro p e s m args below meth c A ls B hr hnm h hl
  have hx := B.1.1
  have hb := B.1.2.1
  have hml := B.1.2.2.1
  have hts := B.1.2.2.2.2
  have hown : s.vm.findClass RX11 = some m.cls := B.1.2.2.2.1
  have main : ∀ k : Nat, (∀ (li : Nat → Int32) (lj : Nat → Int64) (H : Heap) (locs : List Loc) (ls : Array Slot), wpX11_isDim k 0 li lj Q → lv_has ls 1 [(0, .int (li 0))] → Hp D A s.heap [] H locs → W p l e { frames := 0, cells := 0, slots := 0, locals := 0 } s m args below meth c H locs 0 0 (MQ below (va_Qi (fun r _ => Q r) (fun u t => xEnd D ((fun _ : Unit => []) u) A t) A) args s 0 0 A) (F0 m 0 ls [])) ∧
      (∀ (li : Nat → Int32) (lj : Nat → Int64) (H : Heap) (locs : List Loc) (ls : Array Slot), wpX11_isDim k 1 li lj Q → lv_has ls 1 [(0, .int (li 0))] → Hp D A s.heap [] H locs → W p l e { frames := 0, cells := 0, slots := 0, locals := 0 } s m args below meth c H locs 0 0 (MQ below (va_Qi (fun r _ => Q r) (fun u t => xEnd D ((fun _ : Unit => []) u) A t) A) args s 0 0 A) (F0 m 13 ls [])) := by
    intro k
    induction k with
    | zero => exact ⟨fun _ _ _ _ _ hR => False.elim hR, fun _ _ _ _ _ hR => False.elim hR⟩
    | succ k ih =>
      refine ⟨?_, ?_⟩
      · intro li lj H locs ls hR hl h
        have hR : wbX11_isDim_0 (wpX11_isDim k) k li lj Q := hR
        unfold wbX11_isDim_0 at hR
        refine lv_iload_n hx hb dX11_isDim_0 rfl (lv_at hl 0 rfl) ?_
        refine lv_if_lt (tgt := 13) hx hb dX11_isDim_1 (by decide) (fun c_1 => ?_) (fun c_1 => ?_)
        · have hR := hR.1 c_1
          exact ih.2 li lj H locs ls hR (lv_sub hl [0] rfl) h
        · have hR := hR.2 c_1
          refine lv_iload_n hx hb dX11_isDim_4 rfl (lv_at hl 0 rfl) ?_
          refine lv_iconst (v := 5) hx hb dX11_isDim_5 (by decide) ?_
          refine lv_icmp_ge (tgt := 13) hx hb dX11_isDim_6 (by decide) (fun c_2 => ?_) (fun c_2 => ?_)
          · have hR := hR.1 c_2
            exact ih.2 li lj H locs ls hR (lv_sub hl [0] rfl) h
          · have hR := hR.2 c_2
            refine lv_iconst (v := 1) hx hb dX11_isDim_9 (by decide) ?_
            refine lv_goto (tgt := 14) hx hb dX11_isDim_10 (by decide) ?_
            exact x_iret (w1 := (fun _ : Unit => [])) () B h hr rfl hR dX11_isDim_14
      · intro li lj H locs ls hR hl h
        have hR : wbX11_isDim_1 (wpX11_isDim k) k li lj Q := hR
        unfold wbX11_isDim_1 at hR
        refine lv_iconst (v := 0) hx hb dX11_isDim_13 (by decide) ?_
        exact x_iret (w1 := (fun _ : Unit => [])) () B h hr rfl hR dX11_isDim_14
  exact (main k).1 _ _ s.heap [] ls hR hl h
set_option maxRecDepth 20000 in
theorem ggX11_listed_J13_bitCount_95d88 : GoodIn wsX11_listed wsJ13_bitCount_95d88 := goodIn_r _ [4, 5, 6, 7] (by decide +kernel) (by decide +kernel)
set_option maxRecDepth 20000 in
theorem gX11_listed_J13_bitCount_95d88 : GoodIn wsX11_listed (va_wsS RX11 151 yJ13_bitCount_95d88 wsJ13_bitCount_95d88) := goodIn_app (goodIn_of _ (by decide +kernel)) ggX11_listed_J13_bitCount_95d88
set_option maxRecDepth 20000 in
theorem ggX11_listed_X11_nth : GoodIn wsX11_listed wsX11_nth := goodIn_r _ [11, 12, 13, 10, 14, 1, 2, 3, 4, 5, 6, 7] (by decide +kernel) (by decide +kernel)
set_option maxRecDepth 20000 in
theorem gX11_listed_X11_nth : GoodIn wsX11_listed (va_wsS RX11 329 yX11_nth wsX11_nth) := goodIn_app (goodIn_of _ (by decide +kernel)) ggX11_listed_X11_nth
def wbX11_listed_0 (rec : Nat → (Nat → Int32) → (Nat → Int64) → (Int32 → Prop) → Prop) (k : Nat) (li : Nat → Int32) (lj : Nat → Int64) (Q : Int32 → Prop) : Prop :=
  (wqJ13_bitCount_95d88 k (lj 0) (fun r_1 => ((¬ (li 2) = (-1)) → (((r_1 : Int32) ≤ (li 2)) → Q (-2)) ∧ (¬ ((r_1 : Int32) ≤ (li 2)) → (wqX11_nth k (lj 0) (li 2) (fun r_4 => Q r_4)))) ∧ (((li 2) = (-1)) → Q r_1)))
def wpX11_listed : Nat → Nat → (Nat → Int32) → (Nat → Int64) → (Int32 → Prop) → Prop
  | 0, _, _, _, _ => False
  | k + 1, 0, li, lj, Q => wbX11_listed_0 (wpX11_listed k) k li lj Q
  | _ + 1, _, _, _, _ => False
def wqX11_listed (k : Nat) (a0 : Int64) (a1 : Int32) (Q : Int32 → Prop) : Prop := wpX11_listed k 0 (uI (fun _ => 0) 2 a1) (uI (fun _ => 0) 0 a0) Q
set_option maxHeartbeats 8000000 in
set_option maxRecDepth 100000 in
theorem wkX11_listed (l : Launch) (D : va_G) (cI cJ cB cZ : ClassId) (ad : Nat → Nat) (k : Nat) (a0 : Int64) (a1 : Int32) (Q : Int32 → Prop) (hR : wqX11_listed k a0 a1 Q) : MetI l yX11_listed wsX11_listed 3 67 0 0 D (TYS cI cJ cB cZ) [] [.long a0, .int a1] (fun r _ => Q r) (fun _ : Unit => []) := by
  refine x_startI (ty := .int) (cc := cX11_listed) (by decide) rfl (Nat.le_of_ble_eq_true rfl) ?_
  intro p e s m args below meth c A ls B hr hnm h hl
  have hx := B.1.1
  have hb := B.1.2.1
  have hml := B.1.2.2.1
  have hts := B.1.2.2.2.2
  have hown : s.vm.findClass RX11 = some m.cls := B.1.2.2.2.1
  have main : ∀ k : Nat, (∀ (li : Nat → Int32) (lj : Nat → Int64) (H : Heap) (locs : List Loc) (ls : Array Slot), wpX11_listed k 0 li lj Q → lv_has ls 4 [(0, .long (lj 0)), (2, .int (li 2))] → Hp D A s.heap [] H locs → W p l e { frames := 3, cells := 0, slots := 0, locals := 67 } s m args below meth c H locs 0 0 (MQ below (va_Qi (fun r _ => Q r) (fun u t => xEnd D ((fun _ : Unit => []) u) A t) A) args s 0 0 A) (F0 m 0 ls [])) := by
    intro k
    induction k with
    | zero => exact fun _ _ _ _ _ hR => False.elim hR
    | succ k ih =>
      intro li lj H locs ls hR hl h
      have hR : wbX11_listed_0 (wpX11_listed k) k li lj Q := hR
      unfold wbX11_listed_0 at hR
      refine lv_lload_n hx hb dX11_listed_0 rfl (lv_at hl 0 rfl) ?_
      refine x_cSIE (n := 1) (As := [.long (lj 0)]) (rest := []) B h (wkJ13_bitCount_95d88 l D cI cJ cB cZ ad k (lj 0) _ hR) ⟨⟨_, rfl⟩, by decide +kernel, Nat.le_of_ble_eq_true rfl, Nat.le_of_ble_eq_true rfl⟩ gX11_listed_J13_bitCount_95d88 rfl hl.1 rfl (Nat.le_of_ble_eq_true rfl) dX11_listed_1 ⟨Nat.le_of_ble_eq_true rfl, Nat.le_of_ble_eq_true rfl⟩ (fun r_1 _ H locs hR h => ?_)
      refine lv_istore_n (lv' := [(3, .int r_1), (0, .long (lj 0)), (2, .int (li 2))]) hx hb dX11_listed_4 rfl hl (by decide) rfl (fun ls hl => ?_)
      refine lv_iload_n hx hb dX11_listed_5 rfl (lv_at hl 2 rfl) ?_
      refine lv_iconst (v := (-1)) hx hb dX11_listed_6 (by decide) ?_
      refine lv_icmp_ne (tgt := 12) hx hb dX11_listed_7 (by decide) (fun c_2 => ?_) (fun c_2 => ?_)
      · have hR := hR.1 c_2
        refine lv_iload_n hx hb dX11_listed_12 rfl (lv_at hl 2 rfl) ?_
        refine lv_iload_n hx hb dX11_listed_13 rfl (lv_at hl 0 rfl) ?_
        refine lv_icmp_ge (tgt := 25) hx hb dX11_listed_14 (by decide) (fun c_3 => ?_) (fun c_3 => ?_)
        · have hR := hR.1 c_3
          refine lv_bipush (v := (-2)) hx hb dX11_listed_25 (by decide) ?_
          exact x_iret (w1 := (fun _ : Unit => [])) () B h hr rfl hR dX11_listed_27
        · have hR := hR.2 c_3
          refine lv_lload_n hx hb dX11_listed_17 rfl (lv_at hl 1 rfl) ?_
          refine lv_iload_n hx hb dX11_listed_18 rfl (lv_at hl 2 rfl) ?_
          refine x_cSIE (n := 2) (As := [.long (lj 0), .int (li 2)]) (rest := []) B h (wkX11_nth l D cI cJ cB cZ ad k (lj 0) (li 2) _ hR) ⟨⟨_, rfl⟩, by decide +kernel, Nat.le_of_ble_eq_true rfl, Nat.le_of_ble_eq_true rfl⟩ gX11_listed_X11_nth rfl hl.1 rfl (Nat.le_of_ble_eq_true rfl) dX11_listed_19 ⟨Nat.le_of_ble_eq_true rfl, Nat.le_of_ble_eq_true rfl⟩ (fun r_4 _ H locs hR h => ?_)
          refine lv_goto (tgt := 27) hx hb dX11_listed_22 (by decide) ?_
          exact x_iret (w1 := (fun _ : Unit => [])) () B h hr rfl hR dX11_listed_27
      · have hR := hR.2 c_2
        refine lv_iload_n hx hb dX11_listed_10 rfl (lv_at hl 0 rfl) ?_
        exact x_iret (w1 := (fun _ : Unit => [])) () B h hr rfl hR dX11_listed_11
  exact (main k) _ _ s.heap [] ls hR hl h
set_option maxRecDepth 20000 in
theorem ggX11_critical_X11_isDim : GoodIn wsX11_critical wsX11_isDim := goodIn_r _ [7] (by decide +kernel) (by decide +kernel)
set_option maxRecDepth 20000 in
theorem gX11_critical_X11_isDim : GoodIn wsX11_critical (va_wsS RX11 229 yX11_isDim wsX11_isDim) := goodIn_app (goodIn_of _ (by decide +kernel)) ggX11_critical_X11_isDim
set_option maxRecDepth 20000 in
theorem ggX11_critical_X6_unpaired : GoodIn wsX11_critical wsX6_unpaired := goodIn_r _ [12, 13, 14, 15, 16, 51, 52, 53, 54, 55, 56] (by decide +kernel) (by decide +kernel)
set_option maxRecDepth 20000 in
theorem gX11_critical_X6_unpaired : GoodIn wsX11_critical (wsV RX11 232 RX6 yX6_unpaired wsX6_unpaired) := goodIn_app (goodIn_of _ (by decide +kernel)) ggX11_critical_X6_unpaired
set_option maxRecDepth 20000 in
theorem ggX11_critical_X11_listed : GoodIn wsX11_critical wsX11_listed := goodIn_r _ [19, 20, 21, 22, 23, 24, 25, 26, 27, 28, 6, 29, 30, 31, 32] (by decide +kernel) (by decide +kernel)
set_option maxRecDepth 20000 in
theorem gX11_critical_X11_listed : GoodIn wsX11_critical (va_wsS RX11 238 yX11_listed wsX11_listed) := goodIn_app (goodIn_of _ (by decide +kernel)) ggX11_critical_X11_listed
def wbX11_critical_0 (rec : Nat → XT → (Nat → Int32) → (Nat → Int64) → (Int32 → XT → Prop) → Prop) (k : Nat) (t : XT) (li : Nat → Int32) (lj : Nat → Int64) (Q : Int32 → XT → Prop) : Prop :=
  (wqX11_isDim k (li 1) (fun r_1 => ((r_1 = 0) → rec 1 t li lj Q) ∧ (¬ (r_1 = 0) → ((((-1) : Int32) ≤ (li 2)) → (wqX6_unpaired k t  (fun r_4 t_4 => (vp_in (li 1) 5 ∧ (∀ v_5 : Int64, v_5 = (t_4.2.2.2 2) (li 1).toNatClampNeg → (∀ v_6 : Int64, v_6 = (r_4 &&& v_5) → (wqX11_listed k v_6 (li 2) (fun r_7 => Q r_7 t_4)))))))) ∧ (¬ (((-1) : Int32) ≤ (li 2)) → rec 1 t li lj Q))))
def wbX11_critical_1 (rec : Nat → XT → (Nat → Int32) → (Nat → Int64) → (Int32 → XT → Prop) → Prop) (k : Nat) (t : XT) (li : Nat → Int32) (lj : Nat → Int64) (Q : Int32 → XT → Prop) : Prop :=
  Q (-1) t
def wpX11_critical : Nat → Nat → XT → (Nat → Int32) → (Nat → Int64) → (Int32 → XT → Prop) → Prop
  | 0, _, _, _, _, _ => False
  | k + 1, 0, t, li, lj, Q => wbX11_critical_0 (wpX11_critical k) k t li lj Q
  | k + 1, 1, t, li, lj, Q => wbX11_critical_1 (wpX11_critical k) k t li lj Q
  | _ + 1, _, _, _, _, _ => False
def wqX11_critical (k : Nat) (t : XT) (a1 : Int32) (a2 : Int32) (Q : Int32 → XT → Prop) : Prop := wpX11_critical k 0 t (uI (uI (fun _ => 0) 1 a1) 2 a2) (fun _ => 0) Q
set_option maxHeartbeats 8000000 in
set_option maxRecDepth 100000 in
theorem wkX11_critical (l : Launch) (D : va_G) (cI cJ cB cZ : ClassId) (ad : Nat → Nat) (k : Nat) (t : XT) (a1 : Int32) (a2 : Int32) (Q : Int32 → XT → Prop) (hR : wqX11_critical k t a1 a2 Q) : MetI l yX11_critical wsX11_critical 4 90 0 0 D (TYS cI cJ cB cZ) (wX cI cJ cB cZ ad t) [.ref (ad 0), .int a1, .int a2] (fun r u => Q r u) (fun u : XT => (wX cI cJ cB cZ ad u)) := by
  refine x_startI (ty := .int) (cc := cX11_critical) (by decide) rfl (Nat.le_of_ble_eq_true rfl) ?_
  intro p e s m args below meth c A ls B hr hnm h hl
  have hx := B.1.1
  have hb := B.1.2.1
  have hml := B.1.2.2.1
  have hts := B.1.2.2.2.2
  have hown : s.vm.findClass RX11 = some m.cls := B.1.2.2.2.1
  have hin9 : ∀ w ∈ u_ws RX9 TX9 7, w ∈ wsX11_critical := by decide +kernel
  have hin11 : ∀ w ∈ u_ws RX11 TX11 11, w ∈ wsX11_critical := by decide +kernel
  have main : ∀ k : Nat, (∀ (t : XT) (li : Nat → Int32) (lj : Nat → Int64) (H : Heap) (locs : List Loc) (ls : Array Slot), wpX11_critical k 0 t li lj Q → lv_has ls 3 [(0, .ref (ad 0)), (1, .int (li 1)), (2, .int (li 2))] → Hp D A s.heap (wX cI cJ cB cZ ad t) H locs → W p l e { frames := 4, cells := 0, slots := 0, locals := 90 } s m args below meth c H locs 0 0 (MQ below (va_Qi (fun r u => Q r u) (fun u t => xEnd D ((fun u : XT => (wX cI cJ cB cZ ad u)) u) A t) A) args s 0 0 A) (F0 m 0 ls [])) ∧
      (∀ (t : XT) (li : Nat → Int32) (lj : Nat → Int64) (H : Heap) (locs : List Loc) (ls : Array Slot), wpX11_critical k 1 t li lj Q → lv_has ls 3 [(0, .ref (ad 0)), (1, .int (li 1)), (2, .int (li 2))] → Hp D A s.heap (wX cI cJ cB cZ ad t) H locs → W p l e { frames := 4, cells := 0, slots := 0, locals := 90 } s m args below meth c H locs 0 0 (MQ below (va_Qi (fun r u => Q r u) (fun u t => xEnd D ((fun u : XT => (wX cI cJ cB cZ ad u)) u) A t) A) args s 0 0 A) (F0 m 12 ls [])) := by
    intro k
    induction k with
    | zero => exact ⟨fun _ _ _ _ _ _ hR => False.elim hR, fun _ _ _ _ _ _ hR => False.elim hR⟩
    | succ k ih =>
      refine ⟨?_, ?_⟩
      · intro t li lj H locs ls hR hl h
        have hR : wbX11_critical_0 (wpX11_critical k) k t li lj Q := hR
        unfold wbX11_critical_0 at hR
        refine lv_iload_n hx hb dX11_critical_0 rfl (lv_at hl 1 rfl) ?_
        refine x_cSIE (n := 1) (As := [.int (li 1)]) (rest := []) B h (wkX11_isDim l D cI cJ cB cZ ad k (li 1) _ hR) ⟨⟨_, rfl⟩, by decide +kernel, Nat.le_of_ble_eq_true rfl, Nat.le_of_ble_eq_true rfl⟩ gX11_critical_X11_isDim rfl hl.1 rfl (Nat.le_of_ble_eq_true rfl) dX11_critical_1 ⟨Nat.le_of_ble_eq_true rfl, Nat.le_of_ble_eq_true rfl⟩ (fun r_1 _ H locs hR h => ?_)
        refine lv_if_eq (tgt := 12) hx hb dX11_critical_4 (by decide) (fun c_2 => ?_) (fun c_2 => ?_)
        · have hR := hR.1 c_2
          exact ih.2 t li lj H locs ls hR (lv_sub hl [0, 1, 2] rfl) h
        · have hR := hR.2 c_2
          refine lv_iload_n hx hb dX11_critical_7 rfl (lv_at hl 2 rfl) ?_
          refine lv_iconst (v := (-1)) hx hb dX11_critical_8 (by decide) ?_
          refine lv_icmp_ge (tgt := 14) hx hb dX11_critical_9 (by decide) (fun c_3 => ?_) (fun c_3 => ?_)
          · have hR := hR.1 c_3
            refine lv_aload_n hx hb dX11_critical_14 rfl (lv_at hl 0 rfl) ?_
            refine x_get (ci := 11) (C := RX11) (T := TX11) (N := 11) (v := .ref (ad 4)) B h hin11 0 3 rfl rfl (by decide) (by decide +kernel) rfl dX11_critical_15 ?_
            refine x_cVLF (n := 0) (As := []) (rest := []) B h (wkX6_unpaired l D cI cJ cB cZ ad k t  _ hR) ⟨⟨_, rfl⟩, by decide +kernel, Nat.le_of_ble_eq_true rfl, Nat.le_of_ble_eq_true rfl⟩ gX11_critical_X6_unpaired (show ((wX cI cJ cB cZ ad t) : va_W)[4]? = some (_, .inr (6, _)) from rfl) rfl rfl hl.1 rfl (Nat.le_of_ble_eq_true rfl) dX11_critical_18 ⟨Nat.le_of_ble_eq_true rfl, Nat.le_of_ble_eq_true rfl⟩ (fun r_4 t_4 H locs hR h => ?_)
            refine lv_aload_n hx hb dX11_critical_21 rfl (lv_at hl 0 rfl) ?_
            refine x_get (ci := 11) (C := RX11) (T := TX11) (N := 11) (v := .ref (ad 3)) B h hin11 0 2 rfl rfl (by decide) (by decide +kernel) rfl dX11_critical_22 ?_
            refine x_get (ci := 9) (C := RX9) (T := TX9) (N := 7) (v := .ref (ad 19)) B h hin9 3 6 rfl rfl (by decide) (by decide +kernel) rfl dX11_critical_25 ?_
            refine lv_iload_n hx hb dX11_critical_28 rfl (lv_at hl 1 rfl) ?_
            obtain ⟨hb_5, hR⟩ := hR
            refine va_lald (f := (t_4.2.2.2 2)) hx hb B.2.1 h.1 19 1 rfl rfl hb_5 dX11_critical_29 ?_
            refine lv_topl (fun v_5 ev_5 => ?_)
            have hR := hR v_5 ev_5
            refine lv_land hx hb dX11_critical_30 ?_
            refine lv_topl (fun v_6 ev_6 => ?_)
            have hR := hR v_6 ev_6
            refine lv_iload_n hx hb dX11_critical_31 rfl (lv_at hl 2 rfl) ?_
            refine x_cSIE (n := 2) (As := [.long v_6, .int (li 2)]) (rest := []) B h (wkX11_listed l D cI cJ cB cZ ad k v_6 (li 2) _ hR) ⟨⟨_, rfl⟩, by decide +kernel, Nat.le_of_ble_eq_true rfl, Nat.le_of_ble_eq_true rfl⟩ gX11_critical_X11_listed rfl hl.1 rfl (Nat.le_of_ble_eq_true rfl) dX11_critical_32 ⟨Nat.le_of_ble_eq_true rfl, Nat.le_of_ble_eq_true rfl⟩ (fun r_7 _ H locs hR h => ?_)
            exact x_iret (w1 := (fun u : XT => (wX cI cJ cB cZ ad u))) t_4 B h hr rfl hR dX11_critical_35
          · have hR := hR.2 c_3
            exact ih.2 t li lj H locs ls hR (lv_sub hl [0, 1, 2] rfl) h
      · intro t li lj H locs ls hR hl h
        have hR : wbX11_critical_1 (wpX11_critical k) k t li lj Q := hR
        unfold wbX11_critical_1 at hR
        refine lv_iconst (v := (-1)) hx hb dX11_critical_12 (by decide) ?_
        exact x_iret (w1 := (fun u : XT => (wX cI cJ cB cZ ad u))) t B h hr rfl hR dX11_critical_13
  exact (main k).1 t _ _ s.heap [] ls hR hl h
set_option maxRecDepth 20000 in
theorem ggX11_paths_X11_areEnds : GoodIn wsX11_paths wsX11_areEnds := goodIn_r _ [7, 8, 9, 10, 11, 12, 13, 6, 14, 15, 16, 17, 18, 19, 20, 21, 22, 23, 24, 25, 26, 27, 28, 29, 30, 31, 32, 33, 34, 35, 36, 37, 103, 104, 105, 106, 107, 108, 109, 110, 111, 112, 113, 114, 115, 116, 117, 118, 119, 120, 121, 122, 123, 124, 125, 126] (by decide +kernel) (by decide +kernel)
set_option maxRecDepth 20000 in
theorem gX11_paths_X11_areEnds : GoodIn wsX11_paths (wsV RX11 203 RX11 yX11_areEnds wsX11_areEnds) := goodIn_app (goodIn_of _ (by decide +kernel)) ggX11_paths_X11_areEnds
set_option maxRecDepth 20000 in
theorem ggX11_paths_X1_countWays : GoodIn wsX11_paths wsX1_countWays := goodIn_r _ [42, 43, 44, 45, 46, 47, 48, 49, 50, 51, 52, 53, 54, 55, 56, 57, 58, 59, 60, 61, 62, 63, 64, 65, 66, 67, 68, 69, 70, 71, 72, 73, 23, 6, 24, 74, 75, 76, 28, 77, 78, 79, 80, 81, 82, 83, 84, 85, 86, 87, 88, 41, 89, 90, 91, 92, 93, 37, 94, 95, 96, 97, 98, 99, 100, 101, 102, 127, 128, 129, 130, 131, 132, 133, 134, 135, 136, 137, 138, 139, 114, 115, 116, 117, 118, 119, 120, 121, 122, 123, 124, 125, 126] (by decide +kernel) (by decide +kernel)
set_option maxRecDepth 20000 in
theorem gX11_paths_X1_countWays : GoodIn wsX11_paths (wsV RX11 206 RX1 yX1_countWays wsX1_countWays) := goodIn_app (goodIn_of _ (by decide +kernel)) ggX11_paths_X1_countWays
def wbX11_paths_0 (rec : Nat → XT → (Nat → Int32) → (Nat → Int64) → (Int64 → XT → Prop) → Prop) (k : Nat) (t : XT) (li : Nat → Int32) (lj : Nat → Int64) (Q : Int64 → XT → Prop) : Prop :=
  (wqX11_areEnds k t (li 1) (li 2) (fun r_1 t_1 => ((¬ r_1 = 0) → (wqX1_countWays k t_1 (li 1) (li 2) (fun r_3 t_3 => Q r_3 t_3))) ∧ ((r_1 = 0) → Q (-1) t_1)))
def wpX11_paths : Nat → Nat → XT → (Nat → Int32) → (Nat → Int64) → (Int64 → XT → Prop) → Prop
  | 0, _, _, _, _, _ => False
  | k + 1, 0, t, li, lj, Q => wbX11_paths_0 (wpX11_paths k) k t li lj Q
  | _ + 1, _, _, _, _, _ => False
def wqX11_paths (k : Nat) (t : XT) (a1 : Int32) (a2 : Int32) (Q : Int64 → XT → Prop) : Prop := wpX11_paths k 0 t (uI (uI (fun _ => 0) 1 a1) 2 a2) (fun _ => 0) Q
set_option maxHeartbeats 8000000 in
set_option maxRecDepth 100000 in
theorem wkX11_paths (l : Launch) (D : va_G) (cI cJ cB cZ : ClassId) (ad : Nat → Nat) (k : Nat) (t : XT) (a1 : Int32) (a2 : Int32) (Q : Int64 → XT → Prop) (hR : wqX11_paths k t a1 a2 Q) : MetL l yX11_paths wsX11_paths 4 95 0 0 D (TYS cI cJ cB cZ) (wX cI cJ cB cZ ad t) [.ref (ad 0), .int a1, .int a2] (fun r u => Q r u) (fun u : XT => (wX cI cJ cB cZ ad u)) := by
  refine x_startL (ty := .long) (cc := cX11_paths) (by decide) rfl (Nat.le_of_ble_eq_true rfl) ?_
  intro p e s m args below meth c A ls B hr hnm h hl
  have hx := B.1.1
  have hb := B.1.2.1
  have hml := B.1.2.2.1
  have hts := B.1.2.2.2.2
  have hown : s.vm.findClass RX11 = some m.cls := B.1.2.2.2.1
  have hin11 : ∀ w ∈ u_ws RX11 TX11 11, w ∈ wsX11_paths := by decide +kernel
  have main : ∀ k : Nat, (∀ (t : XT) (li : Nat → Int32) (lj : Nat → Int64) (H : Heap) (locs : List Loc) (ls : Array Slot), wpX11_paths k 0 t li lj Q → lv_has ls 3 [(0, .ref (ad 0)), (1, .int (li 1)), (2, .int (li 2))] → Hp D A s.heap (wX cI cJ cB cZ ad t) H locs → W p l e { frames := 4, cells := 0, slots := 0, locals := 95 } s m args below meth c H locs 0 0 (MQ below (va_Ql (fun r u => Q r u) (fun u t => xEnd D ((fun u : XT => (wX cI cJ cB cZ ad u)) u) A t) A) args s 0 0 A) (F0 m 0 ls [])) := by
    intro k
    induction k with
    | zero => exact fun _ _ _ _ _ _ hR => False.elim hR
    | succ k ih =>
      intro t li lj H locs ls hR hl h
      have hR : wbX11_paths_0 (wpX11_paths k) k t li lj Q := hR
      unfold wbX11_paths_0 at hR
      refine lv_aload_n hx hb dX11_paths_0 rfl (lv_at hl 0 rfl) ?_
      refine lv_iload_n hx hb dX11_paths_1 rfl (lv_at hl 1 rfl) ?_
      refine lv_iload_n hx hb dX11_paths_2 rfl (lv_at hl 2 rfl) ?_
      refine x_cVIF (n := 2) (As := [.int (li 1), .int (li 2)]) (rest := []) B h (wkX11_areEnds l D cI cJ cB cZ ad k t (li 1) (li 2) _ hR) ⟨⟨_, rfl⟩, by decide +kernel, Nat.le_of_ble_eq_true rfl, Nat.le_of_ble_eq_true rfl⟩ gX11_paths_X11_areEnds (show ((wX cI cJ cB cZ ad t) : va_W)[0]? = some (_, .inr (11, _)) from rfl) rfl rfl hl.1 rfl (Nat.le_of_ble_eq_true rfl) dX11_paths_3 ⟨Nat.le_of_ble_eq_true rfl, Nat.le_of_ble_eq_true rfl⟩ (fun r_1 t_1 H locs hR h => ?_)
      refine lv_if_ne (tgt := 13) hx hb dX11_paths_6 (by decide) (fun c_2 => ?_) (fun c_2 => ?_)
      · have hR := hR.1 c_2
        refine lv_aload_n hx hb dX11_paths_13 rfl (lv_at hl 0 rfl) ?_
        refine x_get (ci := 11) (C := RX11) (T := TX11) (N := 11) (v := .ref (ad 7)) B h hin11 0 6 rfl rfl (by decide) (by decide +kernel) rfl dX11_paths_14 ?_
        refine lv_iload_n hx hb dX11_paths_17 rfl (lv_at hl 1 rfl) ?_
        refine lv_iload_n hx hb dX11_paths_18 rfl (lv_at hl 2 rfl) ?_
        refine x_cVLF (n := 2) (As := [.int (li 1), .int (li 2)]) (rest := []) B h (wkX1_countWays l D cI cJ cB cZ ad k t_1 (li 1) (li 2) _ hR) ⟨⟨_, rfl⟩, by decide +kernel, Nat.le_of_ble_eq_true rfl, Nat.le_of_ble_eq_true rfl⟩ gX11_paths_X1_countWays (show ((wX cI cJ cB cZ ad t_1) : va_W)[7]? = some (_, .inr (1, _)) from rfl) rfl rfl hl.1 rfl (Nat.le_of_ble_eq_true rfl) dX11_paths_19 ⟨Nat.le_of_ble_eq_true rfl, Nat.le_of_ble_eq_true rfl⟩ (fun r_3 t_3 H locs hR h => ?_)
        exact x_lret (w1 := (fun u : XT => (wX cI cJ cB cZ ad u))) t_3 B h hr hR dX11_paths_22
      · have hR := hR.2 c_2
        refine lv_ldc2 (v := (-1)) hx hb hown (hts (.constantLong RX11 242 (-1)) (by decide +kernel)) dX11_paths_9 ?_
        exact x_lret (w1 := (fun u : XT => (wX cI cJ cB cZ ad u))) t_1 B h hr hR dX11_paths_12
  exact (main k) t _ _ s.heap [] ls hR hl h
set_option maxRecDepth 20000 in
theorem ggX11_path_X11_areEnds : GoodIn wsX11_path wsX11_areEnds := goodIn_r _ [7, 8, 9, 10, 11, 12, 13, 6, 14, 15, 16, 17, 18, 19, 20, 21, 22, 23, 24, 25, 26, 27, 28, 29, 30, 31, 32, 33, 34, 35, 36, 37, 113, 114, 115, 116, 117, 118, 119, 120, 121, 122, 123, 131, 132, 133, 134, 135, 136, 137, 138, 139, 140, 141, 142, 143] (by decide +kernel) (by decide +kernel)
set_option maxRecDepth 20000 in
theorem gX11_path_X11_areEnds : GoodIn wsX11_path (wsV RX11 203 RX11 yX11_areEnds wsX11_areEnds) := goodIn_app (goodIn_of _ (by decide +kernel)) ggX11_path_X11_areEnds
set_option maxRecDepth 20000 in
theorem ggX11_path_X1_countWays : GoodIn wsX11_path wsX1_countWays := goodIn_r _ [42, 43, 44, 45, 46, 47, 48, 49, 50, 51, 52, 53, 54, 55, 56, 57, 58, 59, 60, 61, 62, 63, 64, 65, 66, 67, 68, 69, 70, 71, 72, 73, 23, 6, 24, 74, 75, 76, 28, 77, 78, 79, 80, 81, 82, 83, 84, 85, 86, 87, 88, 41, 89, 90, 91, 92, 93, 37, 94, 95, 96, 97, 98, 99, 100, 101, 102, 124, 125, 126, 127, 128, 129, 130, 144, 145, 146, 147, 148, 149, 131, 132, 133, 134, 135, 136, 137, 138, 139, 140, 141, 142, 143] (by decide +kernel) (by decide +kernel)
set_option maxRecDepth 20000 in
theorem gX11_path_X1_countWays : GoodIn wsX11_path (wsV RX11 206 RX1 yX1_countWays wsX1_countWays) := goodIn_app (goodIn_of _ (by decide +kernel)) ggX11_path_X1_countWays
set_option maxRecDepth 20000 in
theorem ggX11_path_X1_trace : GoodIn wsX11_path wsX1_trace := goodIn_r _ [106, 107, 108, 49, 50, 109, 110, 111, 41, 112, 44, 90, 91, 92, 28, 93, 78, 79, 80, 37, 94, 6, 95, 96, 97, 98, 99, 100, 101, 102, 124, 125, 126, 127, 128, 129, 130, 138, 139, 140, 141, 142, 143, 131, 132, 133, 134, 135, 136, 137] (by decide +kernel) (by decide +kernel)
set_option maxRecDepth 20000 in
theorem gX11_path_X1_trace : GoodIn wsX11_path (wsV RX11 210 RX1 yX1_trace wsX1_trace) := goodIn_app (goodIn_of _ (by decide +kernel)) ggX11_path_X1_trace
def wbX11_path_0 (rec : Nat → XT → (Nat → Int32) → (Nat → Int64) → (Int32 → XT → Prop) → Prop) (k : Nat) (t : XT) (li : Nat → Int32) (lj : Nat → Int64) (Q : Int32 → XT → Prop) : Prop :=
  (wqX11_areEnds k t (li 1) (li 2) (fun r_1 t_1 => ((r_1 = 0) → rec 1 t_1 li lj Q) ∧ (¬ (r_1 = 0) → (((li 3) < 0) → rec 1 t_1 li lj Q) ∧ (¬ ((li 3) < 0) → ((((-1) : Int32) ≤ (li 4)) → (∀ v_5 : Int64, v_5 = (li 3).toInt64 → (wqX1_countWays k t_1 (li 1) (li 2) (fun r_6 t_6 => (∀ v_7 : Int32, v_7 = (lg_cmp v_5 r_6) → ((v_7 < 0) → (∀ v_9 : Int64, v_9 = (li 3).toInt64 → (wqX1_trace k t_6 (li 1) (li 2) v_9 (fun r_10 t_10 => ((¬ (li 4) = (-1)) → (((r_10 : Int32) ≤ (li 4)) → Q (-2) t_10) ∧ (¬ ((r_10 : Int32) ≤ (li 4)) → (vp_in (li 4) 64 ∧ (∀ v_13 : Int32, v_13 = (t_10.2.2.1 8) (li 4).toNatClampNeg → Q v_13 t_10)))) ∧ (((li 4) = (-1)) → Q r_10 t_10))))) ∧ (¬ (v_7 < 0) → Q (-2) t_6)))))) ∧ (¬ (((-1) : Int32) ≤ (li 4)) → rec 1 t_1 li lj Q)))))
def wbX11_path_1 (rec : Nat → XT → (Nat → Int32) → (Nat → Int64) → (Int32 → XT → Prop) → Prop) (k : Nat) (t : XT) (li : Nat → Int32) (lj : Nat → Int64) (Q : Int32 → XT → Prop) : Prop :=
  Q (-1) t
def wpX11_path : Nat → Nat → XT → (Nat → Int32) → (Nat → Int64) → (Int32 → XT → Prop) → Prop
  | 0, _, _, _, _, _ => False
  | k + 1, 0, t, li, lj, Q => wbX11_path_0 (wpX11_path k) k t li lj Q
  | k + 1, 1, t, li, lj, Q => wbX11_path_1 (wpX11_path k) k t li lj Q
  | _ + 1, _, _, _, _, _ => False
def wqX11_path (k : Nat) (t : XT) (a1 : Int32) (a2 : Int32) (a3 : Int32) (a4 : Int32) (Q : Int32 → XT → Prop) : Prop := wpX11_path k 0 t (uI (uI (uI (uI (fun _ => 0) 1 a1) 2 a2) 3 a3) 4 a4) (fun _ => 0) Q
set_option maxHeartbeats 8000000 in
set_option maxRecDepth 100000 in
theorem wkX11_path (l : Launch) (D : va_G) (cI cJ cB cZ : ClassId) (ad : Nat → Nat) (k : Nat) (t : XT) (a1 : Int32) (a2 : Int32) (a3 : Int32) (a4 : Int32) (Q : Int32 → XT → Prop) (hR : wqX11_path k t a1 a2 a3 a4 Q) : MetI l yX11_path wsX11_path 4 95 0 0 D (TYS cI cJ cB cZ) (wX cI cJ cB cZ ad t) [.ref (ad 0), .int a1, .int a2, .int a3, .int a4] (fun r u => Q r u) (fun u : XT => (wX cI cJ cB cZ ad u)) := by
  refine x_startI (ty := .int) (cc := cX11_path) (by decide) rfl (Nat.le_of_ble_eq_true rfl) ?_
  intro p e s m args below meth c A ls B hr hnm h hl
  have hx := B.1.1
  have hb := B.1.2.1
  have hml := B.1.2.2.1
  have hts := B.1.2.2.2.2
  have hown : s.vm.findClass RX11 = some m.cls := B.1.2.2.2.1
  have hin1 : ∀ w ∈ u_ws RX1 TX1 7, w ∈ wsX11_path := by decide +kernel
  have hin11 : ∀ w ∈ u_ws RX11 TX11 11, w ∈ wsX11_path := by decide +kernel
  have main : ∀ k : Nat, (∀ (t : XT) (li : Nat → Int32) (lj : Nat → Int64) (H : Heap) (locs : List Loc) (ls : Array Slot), wpX11_path k 0 t li lj Q → lv_has ls 6 [(0, .ref (ad 0)), (1, .int (li 1)), (2, .int (li 2)), (3, .int (li 3)), (4, .int (li 4))] → Hp D A s.heap (wX cI cJ cB cZ ad t) H locs → W p l e { frames := 4, cells := 0, slots := 0, locals := 95 } s m args below meth c H locs 0 0 (MQ below (va_Qi (fun r u => Q r u) (fun u t => xEnd D ((fun u : XT => (wX cI cJ cB cZ ad u)) u) A t) A) args s 0 0 A) (F0 m 0 ls [])) ∧
      (∀ (t : XT) (li : Nat → Int32) (lj : Nat → Int64) (H : Heap) (locs : List Loc) (ls : Array Slot), wpX11_path k 1 t li lj Q → lv_has ls 6 [(0, .ref (ad 0)), (1, .int (li 1)), (2, .int (li 2)), (3, .int (li 3)), (4, .int (li 4))] → Hp D A s.heap (wX cI cJ cB cZ ad t) H locs → W p l e { frames := 4, cells := 0, slots := 0, locals := 95 } s m args below meth c H locs 0 0 (MQ below (va_Qi (fun r u => Q r u) (fun u t => xEnd D ((fun u : XT => (wX cI cJ cB cZ ad u)) u) A t) A) args s 0 0 A) (F0 m 19 ls [])) := by
    intro k
    induction k with
    | zero => exact ⟨fun _ _ _ _ _ _ hR => False.elim hR, fun _ _ _ _ _ _ hR => False.elim hR⟩
    | succ k ih =>
      refine ⟨?_, ?_⟩
      · intro t li lj H locs ls hR hl h
        have hR : wbX11_path_0 (wpX11_path k) k t li lj Q := hR
        unfold wbX11_path_0 at hR
        refine lv_aload_n hx hb dX11_path_0 rfl (lv_at hl 0 rfl) ?_
        refine lv_iload_n hx hb dX11_path_1 rfl (lv_at hl 1 rfl) ?_
        refine lv_iload_n hx hb dX11_path_2 rfl (lv_at hl 2 rfl) ?_
        refine x_cVIF (n := 2) (As := [.int (li 1), .int (li 2)]) (rest := []) B h (wkX11_areEnds l D cI cJ cB cZ ad k t (li 1) (li 2) _ hR) ⟨⟨_, rfl⟩, by decide +kernel, Nat.le_of_ble_eq_true rfl, Nat.le_of_ble_eq_true rfl⟩ gX11_path_X11_areEnds (show ((wX cI cJ cB cZ ad t) : va_W)[0]? = some (_, .inr (11, _)) from rfl) rfl rfl hl.1 rfl (Nat.le_of_ble_eq_true rfl) dX11_path_3 ⟨Nat.le_of_ble_eq_true rfl, Nat.le_of_ble_eq_true rfl⟩ (fun r_1 t_1 H locs hR h => ?_)
        refine lv_if_eq (tgt := 19) hx hb dX11_path_6 (by decide) (fun c_2 => ?_) (fun c_2 => ?_)
        · have hR := hR.1 c_2
          exact ih.2 t_1 li lj H locs ls hR (lv_sub hl [0, 1, 2, 3, 4] rfl) h
        · have hR := hR.2 c_2
          refine lv_iload_n hx hb dX11_path_9 rfl (lv_at hl 3 rfl) ?_
          refine lv_if_lt (tgt := 19) hx hb dX11_path_10 (by decide) (fun c_3 => ?_) (fun c_3 => ?_)
          · have hR := hR.1 c_3
            exact ih.2 t_1 li lj H locs ls hR (lv_sub hl [0, 1, 2, 3, 4] rfl) h
          · have hR := hR.2 c_3
            refine lv_iload hx hb dX11_path_13 (lv_at hl 4 rfl) ?_
            refine lv_iconst (v := (-1)) hx hb dX11_path_15 (by decide) ?_
            refine lv_icmp_ge (tgt := 21) hx hb dX11_path_16 (by decide) (fun c_4 => ?_) (fun c_4 => ?_)
            · have hR := hR.1 c_4
              refine lv_iload_n hx hb dX11_path_21 rfl (lv_at hl 3 rfl) ?_
              obtain ⟨v_5, ev_5⟩ : ∃ v : Int64, v = (li 3).toInt64 := ⟨_, rfl⟩
              have hR := hR v_5 ev_5
              refine lv_i2l (v := v_5) hx hb dX11_path_22 ev_5.symm ?_
              refine lv_aload_n hx hb dX11_path_23 rfl (lv_at hl 0 rfl) ?_
              refine x_get (ci := 11) (C := RX11) (T := TX11) (N := 11) (v := .ref (ad 7)) B h hin11 0 6 rfl rfl (by decide) (by decide +kernel) rfl dX11_path_24 ?_
              refine lv_iload_n hx hb dX11_path_27 rfl (lv_at hl 1 rfl) ?_
              refine lv_iload_n hx hb dX11_path_28 rfl (lv_at hl 2 rfl) ?_
              refine x_cVLF (n := 2) (As := [.int (li 1), .int (li 2)]) (rest := [.long v_5]) B h (wkX1_countWays l D cI cJ cB cZ ad k t_1 (li 1) (li 2) _ hR) ⟨⟨_, rfl⟩, by decide +kernel, Nat.le_of_ble_eq_true rfl, Nat.le_of_ble_eq_true rfl⟩ gX11_path_X1_countWays (show ((wX cI cJ cB cZ ad t_1) : va_W)[7]? = some (_, .inr (1, _)) from rfl) rfl rfl hl.1 rfl (Nat.le_of_ble_eq_true rfl) dX11_path_29 ⟨Nat.le_of_ble_eq_true rfl, Nat.le_of_ble_eq_true rfl⟩ (fun r_6 t_6 H locs hR h => ?_)
              refine W.lcmp hx hb dX11_path_32 ?_
              refine lv_topi (fun v_7 ev_7 => ?_)
              have hR := hR v_7 ev_7
              refine lv_if_lt (tgt := 39) hx hb dX11_path_33 (by decide) (fun c_8 => ?_) (fun c_8 => ?_)
              · have hR := hR.1 c_8
                refine lv_aload_n hx hb dX11_path_39 rfl (lv_at hl 0 rfl) ?_
                refine x_get (ci := 11) (C := RX11) (T := TX11) (N := 11) (v := .ref (ad 7)) B h hin11 0 6 rfl rfl (by decide) (by decide +kernel) rfl dX11_path_40 ?_
                refine lv_iload_n hx hb dX11_path_43 rfl (lv_at hl 1 rfl) ?_
                refine lv_iload_n hx hb dX11_path_44 rfl (lv_at hl 2 rfl) ?_
                refine lv_iload_n hx hb dX11_path_45 rfl (lv_at hl 3 rfl) ?_
                obtain ⟨v_9, ev_9⟩ : ∃ v : Int64, v = (li 3).toInt64 := ⟨_, rfl⟩
                have hR := hR v_9 ev_9
                refine lv_i2l (v := v_9) hx hb dX11_path_46 ev_9.symm ?_
                refine x_cVIF (n := 3) (As := [.int (li 1), .int (li 2), .long v_9]) (rest := []) B h (wkX1_trace l D cI cJ cB cZ ad k t_6 (li 1) (li 2) v_9 _ hR) ⟨⟨_, rfl⟩, by decide +kernel, Nat.le_of_ble_eq_true rfl, Nat.le_of_ble_eq_true rfl⟩ gX11_path_X1_trace (show ((wX cI cJ cB cZ ad t_6) : va_W)[7]? = some (_, .inr (1, _)) from rfl) rfl rfl hl.1 rfl (Nat.le_of_ble_eq_true rfl) dX11_path_47 ⟨Nat.le_of_ble_eq_true rfl, Nat.le_of_ble_eq_true rfl⟩ (fun r_10 t_10 H locs hR h => ?_)
                refine lv_istore (lv' := [(5, .int r_10), (0, .ref (ad 0)), (1, .int (li 1)), (2, .int (li 2)), (3, .int (li 3)), (4, .int (li 4))]) hx hb dX11_path_50 hl (by decide) rfl (fun ls hl => ?_)
                refine lv_iload hx hb dX11_path_52 (lv_at hl 5 rfl) ?_
                refine lv_iconst (v := (-1)) hx hb dX11_path_54 (by decide) ?_
                refine lv_icmp_ne (tgt := 61) hx hb dX11_path_55 (by decide) (fun c_11 => ?_) (fun c_11 => ?_)
                · have hR := hR.1 c_11
                  refine lv_iload hx hb dX11_path_61 (lv_at hl 5 rfl) ?_
                  refine lv_iload hx hb dX11_path_63 (lv_at hl 0 rfl) ?_
                  refine lv_icmp_ge (tgt := 81) hx hb dX11_path_65 (by decide) (fun c_12 => ?_) (fun c_12 => ?_)
                  · have hR := hR.1 c_12
                    refine lv_bipush (v := (-2)) hx hb dX11_path_81 (by decide) ?_
                    exact x_iret (w1 := (fun u : XT => (wX cI cJ cB cZ ad u))) t_10 B h hr rfl hR dX11_path_83
                  · have hR := hR.2 c_12
                    refine lv_aload_n hx hb dX11_path_68 rfl (lv_at hl 1 rfl) ?_
                    refine x_get (ci := 11) (C := RX11) (T := TX11) (N := 11) (v := .ref (ad 7)) B h hin11 0 6 rfl rfl (by decide) (by decide +kernel) rfl dX11_path_69 ?_
                    refine x_get (ci := 1) (C := RX1) (T := TX1) (N := 7) (v := .ref (ad 25)) B h hin1 7 5 rfl rfl (by decide) (by decide +kernel) rfl dX11_path_72 ?_
                    refine lv_iload hx hb dX11_path_75 (lv_at hl 5 rfl) ?_
                    obtain ⟨hb_13, hR⟩ := hR
                    refine va_iald (f := (t_10.2.2.1 8)) hx hb B.2.1 h.1 25 0 rfl rfl hb_13 dX11_path_77 ?_
                    refine lv_topi (fun v_13 ev_13 => ?_)
                    have hR := hR v_13 ev_13
                    refine lv_goto (tgt := 83) hx hb dX11_path_78 (by decide) ?_
                    exact x_iret (w1 := (fun u : XT => (wX cI cJ cB cZ ad u))) t_10 B h hr rfl hR dX11_path_83
                · have hR := hR.2 c_11
                  refine lv_iload hx hb dX11_path_58 (lv_at hl 0 rfl) ?_
                  exact x_iret (w1 := (fun u : XT => (wX cI cJ cB cZ ad u))) t_10 B h hr rfl hR dX11_path_60
              · have hR := hR.2 c_8
                refine lv_bipush (v := (-2)) hx hb dX11_path_36 (by decide) ?_
                exact x_iret (w1 := (fun u : XT => (wX cI cJ cB cZ ad u))) t_6 B h hr rfl hR dX11_path_38
            · have hR := hR.2 c_4
              exact ih.2 t_1 li lj H locs ls hR (lv_sub hl [0, 1, 2, 3, 4] rfl) h
      · intro t li lj H locs ls hR hl h
        have hR : wbX11_path_1 (wpX11_path k) k t li lj Q := hR
        unfold wbX11_path_1 at hR
        refine lv_iconst (v := (-1)) hx hb dX11_path_19 (by decide) ?_
        exact x_iret (w1 := (fun u : XT => (wX cI cJ cB cZ ad u))) t B h hr rfl hR dX11_path_20
  exact (main k).1 t _ _ s.heap [] ls hR hl h
set_option maxRecDepth 20000 in
theorem ggX1_start_X2_measure : GoodIn wsX1_start wsX2_measure := goodIn_r _ [7, 8, 9, 10, 11, 12, 13, 14, 15, 16, 17, 18, 19, 20, 21, 6, 22, 23, 24, 25, 26, 27, 28, 29, 30, 31, 32, 33, 34, 35, 36, 37, 38, 49, 50, 51, 52, 53, 54, 55, 56, 57, 58, 59, 60, 61, 62, 63, 64, 65, 66, 67] (by decide +kernel) (by decide +kernel)
set_option maxRecDepth 20000 in
theorem gX1_start_X2_measure : GoodIn wsX1_start (wsV RX1 34 RX2 yX2_measure wsX2_measure) := goodIn_app (goodIn_of _ (by decide +kernel)) ggX1_start_X2_measure
set_option maxRecDepth 20000 in
theorem ggX1_start_J7_fill_d0a16 : GoodIn wsX1_start wsJ7_fill_d0a16 := goodIn_r _ [41] (by decide +kernel) (by decide +kernel)
set_option maxRecDepth 20000 in
theorem gX1_start_J7_fill_d0a16 : GoodIn wsX1_start (va_wsS RX1 39 yJ7_fill_d0a16 wsJ7_fill_d0a16) := goodIn_app (goodIn_of _ (by decide +kernel)) ggX1_start_J7_fill_d0a16
def wbX1_start_0 (rec : Nat → XT → (Nat → Int32) → (Nat → Int64) → (XT → Prop) → Prop) (k : Nat) (t : XT) (li : Nat → Int32) (lj : Nat → Int64) (Q : XT → Prop) : Prop :=
  (wqX2_measure k t  (fun t_1 => (∀ t_2 : XT, t_2 = sB t_1 3 (fun _ => 0) → (vp_in (li 1) 64 ∧ (∀ t_3 : XT, t_3 = sB t_2 3 (vp_updL (t_2.2.2.2 3) (li 1).toNatClampNeg 1) → Q t_3)))))
def wpX1_start : Nat → Nat → XT → (Nat → Int32) → (Nat → Int64) → (XT → Prop) → Prop
  | 0, _, _, _, _, _ => False
  | k + 1, 0, t, li, lj, Q => wbX1_start_0 (wpX1_start k) k t li lj Q
  | _ + 1, _, _, _, _, _ => False
def wqX1_start (k : Nat) (t : XT) (a1 : Int32) (Q : XT → Prop) : Prop := wpX1_start k 0 t (uI (fun _ => 0) 1 a1) (fun _ => 0) Q
set_option maxHeartbeats 8000000 in
set_option maxRecDepth 100000 in
theorem wkX1_start (l : Launch) (D : va_G) (cI cJ cB cZ : ClassId) (ad : Nat → Nat) (k : Nat) (t : XT) (a1 : Int32) (Q : XT → Prop) (hR : wqX1_start k t a1 Q) : MetV l yX1_start wsX1_start 3 71 0 0 D (TYS cI cJ cB cZ) (wX cI cJ cB cZ ad t) [.ref (ad 7), .int a1] (fun u => Q u) (fun u : XT => (wX cI cJ cB cZ ad u)) := by
  refine x_startV (ty := .int) (cc := cX1_start) (by decide) rfl (Nat.le_of_ble_eq_true rfl) ?_
  intro p e s m args below meth c A ls B hr hnm h hl
  have hx := B.1.1
  have hb := B.1.2.1
  have hml := B.1.2.2.1
  have hts := B.1.2.2.2.2
  have hown : s.vm.findClass RX1 = some m.cls := B.1.2.2.2.1
  have hin1 : ∀ w ∈ u_ws RX1 TX1 7, w ∈ wsX1_start := by decide +kernel
  have main : ∀ k : Nat, (∀ (t : XT) (li : Nat → Int32) (lj : Nat → Int64) (H : Heap) (locs : List Loc) (ls : Array Slot), wpX1_start k 0 t li lj Q → lv_has ls 2 [(0, .ref (ad 7)), (1, .int (li 1))] → Hp D A s.heap (wX cI cJ cB cZ ad t) H locs → W p l e { frames := 3, cells := 0, slots := 0, locals := 71 } s m args below meth c H locs 0 0 (MQ below (va_Qv (fun u => Q u) (fun u t => xEnd D ((fun u : XT => (wX cI cJ cB cZ ad u)) u) A t) A) args s 0 0 A) (F0 m 0 ls [])) := by
    intro k
    induction k with
    | zero => exact fun _ _ _ _ _ _ hR => False.elim hR
    | succ k ih =>
      intro t li lj H locs ls hR hl h
      have hR : wbX1_start_0 (wpX1_start k) k t li lj Q := hR
      unfold wbX1_start_0 at hR
      refine lv_aload_n hx hb dX1_start_0 rfl (lv_at hl 0 rfl) ?_
      refine x_get (ci := 1) (C := RX1) (T := TX1) (N := 7) (v := .ref (ad 6)) B h hin1 7 2 rfl rfl (by decide) (by decide +kernel) rfl dX1_start_1 ?_
      refine x_cVVF (n := 0) (As := []) (rest := []) B h (wkX2_measure l D cI cJ cB cZ ad k t  _ hR) ⟨⟨_, rfl⟩, by decide +kernel, Nat.le_of_ble_eq_true rfl, Nat.le_of_ble_eq_true rfl⟩ gX1_start_X2_measure (show ((wX cI cJ cB cZ ad t) : va_W)[6]? = some (_, .inr (2, _)) from rfl) rfl rfl hl.1 rfl (Nat.le_of_ble_eq_true rfl) dX1_start_4 ⟨Nat.le_of_ble_eq_true rfl, Nat.le_of_ble_eq_true rfl⟩ (fun t_1 H locs hR h => ?_)
      refine lv_aload_n hx hb dX1_start_7 rfl (lv_at hl 0 rfl) ?_
      refine x_get (ci := 1) (C := RX1) (T := TX1) (N := 7) (v := .ref (ad 23)) B h hin1 7 3 rfl rfl (by decide) (by decide +kernel) rfl dX1_start_8 ?_
      refine lv_lconst (v := 0) hx hb dX1_start_11 (by decide) ?_
      refine x_cSV (n := 2) (pre := ((wX cI cJ cB cZ ad t_1) : va_W).take 23) (post := ((wX cI cJ cB cZ ad t_1) : va_W).drop 24) (wc := [((ad 23), .inl (cJ, 64, .inr (.inl (t_1.2.2.2 3))))]) (As := [.ref (ad 23), .long 0]) (rest := []) B h (c_fillL l D (TYS cI cJ cB cZ) cJ 1 rfl (ad 23) 64 (by decide) (t_1.2.2.2 3) 0) ⟨⟨_, rfl⟩, by decide +kernel, Nat.le_of_ble_eq_true rfl, Nat.le_of_ble_eq_true rfl⟩ gX1_start_J7_fill_d0a16 rfl hl.1 rfl (Nat.le_of_ble_eq_true rfl) dX1_start_12 ⟨Nat.le_of_ble_eq_true rfl, Nat.le_of_ble_eq_true rfl⟩ (fun _ H locs _ h => ?_)
      obtain ⟨t_2, et_2⟩ : ∃ v : XT, v = sB t_1 3 (fun _ => 0) := ⟨_, rfl⟩
      have hR := hR t_2 et_2
      have h : Hp D A s.heap (wX cI cJ cB cZ ad t_2) H locs := by rw [et_2]; exact h
      refine lv_aload_n hx hb dX1_start_15 rfl (lv_at hl 0 rfl) ?_
      refine x_get (ci := 1) (C := RX1) (T := TX1) (N := 7) (v := .ref (ad 23)) B h hin1 7 3 rfl rfl (by decide) (by decide +kernel) rfl dX1_start_16 ?_
      refine lv_iload_n hx hb dX1_start_19 rfl (lv_at hl 1 rfl) ?_
      refine lv_lconst (v := 1) hx hb dX1_start_20 (by decide) ?_
      obtain ⟨hb_3, hR⟩ := hR
      refine z_last (f := (t_2.2.2.2 3)) B h 23 1 rfl rfl hb_3 dX1_start_21 (fun H locs h => ?_)
      obtain ⟨t_3, et_3⟩ : ∃ v : XT, v = sB t_2 3 (vp_updL (t_2.2.2.2 3) (li 1).toNatClampNeg 1) := ⟨_, rfl⟩
      have hR := hR t_3 et_3
      have h : Hp D A s.heap (wX cI cJ cB cZ ad t_3) H locs := by rw [et_3]; exact h
      exact x_vret (w1 := (fun u : XT => (wX cI cJ cB cZ ad u))) t_3 B h hr hR dX1_start_22
  exact (main k) t _ _ s.heap [] ls hR hl h
set_option maxRecDepth 20000 in
theorem ggX1_goDown_X6_below : GoodIn wsX1_goDown wsX6_below := goodIn_r _ [8, 9, 10, 11, 12, 46, 47, 48, 49, 50, 51, 52, 53, 54, 55, 56, 57, 58] (by decide +kernel) (by decide +kernel)
set_option maxRecDepth 20000 in
theorem gX1_goDown_X6_below : GoodIn wsX1_goDown (wsV RX1 68 RX6 yX6_below wsX6_below) := goodIn_app (goodIn_of _ (by decide +kernel)) ggX1_goDown_X6_below
set_option maxRecDepth 20000 in
theorem ggX1_goDown_X11_lowest : GoodIn wsX1_goDown wsX11_lowest := goodIn_r _ [15, 16, 17, 18, 19, 20, 21, 22] (by decide +kernel) (by decide +kernel)
set_option maxRecDepth 20000 in
theorem gX1_goDown_X11_lowest_n74 : GoodIn wsX1_goDown (wsX11_lowest) := ggX1_goDown_X11_lowest
set_option maxRecDepth 20000 in
theorem ggX1_goDown_X9_signOf : GoodIn wsX1_goDown wsX9_signOf := goodIn_r _ [27, 28, 29, 30, 14, 31, 32, 33, 34, 35, 36, 37, 38, 52, 53, 54, 55, 56, 57, 58] (by decide +kernel) (by decide +kernel)
set_option maxRecDepth 20000 in
theorem gX1_goDown_X9_signOf : GoodIn wsX1_goDown (wsV RX1 78 RX9 yX9_signOf wsX9_signOf) := goodIn_app (goodIn_of _ (by decide +kernel)) ggX1_goDown_X9_signOf
def wbX1_goDown_0 (rec : Nat → XT → (Nat → Int32) → (Nat → Int64) → (XT → Prop) → Prop) (k : Nat) (t : XT) (li : Nat → Int32) (lj : Nat → Int64) (Q : XT → Prop) : Prop :=
  (wqX6_below k t (li 1) (fun r_1 t_1 => rec 1 t_1 (uI li 5 0) (uI lj 3 r_1) Q))
def wbX1_goDown_1 (rec : Nat → XT → (Nat → Int32) → (Nat → Int64) → (XT → Prop) → Prop) (k : Nat) (t : XT) (li : Nat → Int32) (lj : Nat → Int64) (Q : XT → Prop) : Prop :=
  (((5 : Int32) ≤ (li 5)) → Q t) ∧ (¬ ((5 : Int32) ≤ (li 5)) → (∀ v_3 : Int32, v_3 = (lg_cmp (lj 3) 0) → ((v_3 = 0) → Q t) ∧ (¬ (v_3 = 0) → (wqX11_lowest k (lj 3) (fun r_5 => (∀ v_6 : Int64, v_6 = ((lj 3) - 1) → (∀ v_7 : Int64, v_7 = ((lj 3) &&& v_6) → (vp_in r_5 64 ∧ (∀ v_8 : Int64, v_8 = (t.2.2.2 3) r_5.toNatClampNeg → (((li 2) = 0) → (vp_in (li 1) 64 ∧ (∀ v_10 : Int64, v_10 = (t.2.2.2 3) (li 1).toNatClampNeg → rec 2 t (uI (uI li 6 r_5) 101 r_5) (uI (uI (uI lj 3 v_7) 103 v_10) 102 v_8) Q))) ∧ (¬ ((li 2) = 0) → (vp_in (li 1) 64 ∧ (∀ v_11 : Int64, v_11 = (t.2.2.2 3) (li 1).toNatClampNeg → (wqX9_signOf k t r_5 (li 1) (fun r_12 t_12 => (∀ v_13 : Int64, v_13 = r_12.toInt64 → (∀ v_14 : Int64, v_14 = (v_11 * v_13) → rec 2 t_12 (uI (uI li 6 r_5) 101 r_5) (uI (uI (uI lj 3 v_7) 103 v_14) 102 v_8) Q))))))))))))))))
def wbX1_goDown_2 (rec : Nat → XT → (Nat → Int32) → (Nat → Int64) → (XT → Prop) → Prop) (k : Nat) (t : XT) (li : Nat → Int32) (lj : Nat → Int64) (Q : XT → Prop) : Prop :=
  (∀ v_15 : Int64, v_15 = ((lj 102) + (lj 103)) → (vp_in (li 101) 64 ∧ (∀ t_16 : XT, t_16 = sB t 3 (vp_updL (t.2.2.2 3) (li 101).toNatClampNeg v_15) → (∀ v_17 : Int32, v_17 = (li 5) + Int32.ofInt 1 → rec 1 t_16 (uI li 5 v_17) lj Q))))
def wpX1_goDown : Nat → Nat → XT → (Nat → Int32) → (Nat → Int64) → (XT → Prop) → Prop
  | 0, _, _, _, _, _ => False
  | k + 1, 0, t, li, lj, Q => wbX1_goDown_0 (wpX1_goDown k) k t li lj Q
  | k + 1, 1, t, li, lj, Q => wbX1_goDown_1 (wpX1_goDown k) k t li lj Q
  | k + 1, 2, t, li, lj, Q => wbX1_goDown_2 (wpX1_goDown k) k t li lj Q
  | _ + 1, _, _, _, _, _ => False
def wqX1_goDown (k : Nat) (t : XT) (a1 : Int32) (a2 : Int32) (Q : XT → Prop) : Prop := wpX1_goDown k 0 t (uI (uI (fun _ => 0) 1 a1) 2 a2) (fun _ => 0) Q
set_option maxHeartbeats 8000000 in
set_option maxRecDepth 100000 in
theorem wkX1_goDown (l : Launch) (D : va_G) (cI cJ cB cZ : ClassId) (ad : Nat → Nat) (k : Nat) (t : XT) (a1 : Int32) (a2 : Int32) (Q : XT → Prop) (hR : wqX1_goDown k t a1 a2 Q) : MetV l yX1_goDown wsX1_goDown 2 46 0 0 D (TYS cI cJ cB cZ) (wX cI cJ cB cZ ad t) [.ref (ad 7), .int a1, .int a2] (fun u => Q u) (fun u : XT => (wX cI cJ cB cZ ad u)) := by
  refine x_startV (ty := .int) (cc := cX1_goDown) (by decide) rfl (Nat.le_of_ble_eq_true rfl) ?_
  intro p e s m args below meth c A ls B hr hnm h hl
  have hx := B.1.1
  have hb := B.1.2.1
  have hml := B.1.2.2.1
  have hts := B.1.2.2.2.2
  have hown : s.vm.findClass RX1 = some m.cls := B.1.2.2.2.1
  have hin1 : ∀ w ∈ u_ws RX1 TX1 7, w ∈ wsX1_goDown := by decide +kernel
  have main : ∀ k : Nat, (∀ (t : XT) (li : Nat → Int32) (lj : Nat → Int64) (H : Heap) (locs : List Loc) (ls : Array Slot), wpX1_goDown k 0 t li lj Q → lv_has ls 7 [(0, .ref (ad 7)), (1, .int (li 1)), (2, .int (li 2))] → Hp D A s.heap (wX cI cJ cB cZ ad t) H locs → W p l e { frames := 2, cells := 0, slots := 0, locals := 46 } s m args below meth c H locs 0 0 (MQ below (va_Qv (fun u => Q u) (fun u t => xEnd D ((fun u : XT => (wX cI cJ cB cZ ad u)) u) A t) A) args s 0 0 A) (F0 m 0 ls [])) ∧
      (∀ (t : XT) (li : Nat → Int32) (lj : Nat → Int64) (H : Heap) (locs : List Loc) (ls : Array Slot), wpX1_goDown k 1 t li lj Q → lv_has ls 7 [(0, .ref (ad 7)), (1, .int (li 1)), (2, .int (li 2)), (3, .long (lj 3)), (5, .int (li 5))] → Hp D A s.heap (wX cI cJ cB cZ ad t) H locs → W p l e { frames := 2, cells := 0, slots := 0, locals := 46 } s m args below meth c H locs 0 0 (MQ below (va_Qv (fun u => Q u) (fun u t => xEnd D ((fun u : XT => (wX cI cJ cB cZ ad u)) u) A t) A) args s 0 0 A) (F0 m 12 ls [])) ∧
      (∀ (t : XT) (li : Nat → Int32) (lj : Nat → Int64) (H : Heap) (locs : List Loc) (ls : Array Slot), wpX1_goDown k 2 t li lj Q → lv_has ls 7 [(0, .ref (ad 7)), (1, .int (li 1)), (2, .int (li 2)), (3, .long (lj 3)), (5, .int (li 5)), (6, .int (li 6))] → Hp D A s.heap (wX cI cJ cB cZ ad t) H locs → W p l e { frames := 2, cells := 0, slots := 0, locals := 46 } s m args below meth c H locs 0 0 (MQ below (va_Qv (fun u => Q u) (fun u t => xEnd D ((fun u : XT => (wX cI cJ cB cZ ad u)) u) A t) A) args s 0 0 A) (F0 m 75 ls [.long (lj 103), .long (lj 102), .int (li 101), .ref (ad 23)])) := by
    intro k
    induction k with
    | zero => exact ⟨fun _ _ _ _ _ _ hR => False.elim hR, fun _ _ _ _ _ _ hR => False.elim hR, fun _ _ _ _ _ _ hR => False.elim hR⟩
    | succ k ih =>
      refine ⟨?_, ?_, ?_⟩
      · intro t li lj H locs ls hR hl h
        have hR : wbX1_goDown_0 (wpX1_goDown k) k t li lj Q := hR
        unfold wbX1_goDown_0 at hR
        refine lv_aload_n hx hb dX1_goDown_0 rfl (lv_at hl 0 rfl) ?_
        refine x_get (ci := 1) (C := RX1) (T := TX1) (N := 7) (v := .ref (ad 4)) B h hin1 7 1 rfl rfl (by decide) (by decide +kernel) rfl dX1_goDown_1 ?_
        refine lv_iload_n hx hb dX1_goDown_4 rfl (lv_at hl 1 rfl) ?_
        refine x_cVLF (n := 1) (As := [.int (li 1)]) (rest := []) B h (wkX6_below l D cI cJ cB cZ ad k t (li 1) _ hR) ⟨⟨_, rfl⟩, by decide +kernel, Nat.le_of_ble_eq_true rfl, Nat.le_of_ble_eq_true rfl⟩ gX1_goDown_X6_below (show ((wX cI cJ cB cZ ad t) : va_W)[4]? = some (_, .inr (6, _)) from rfl) rfl rfl hl.1 rfl (Nat.le_of_ble_eq_true rfl) dX1_goDown_5 ⟨Nat.le_of_ble_eq_true rfl, Nat.le_of_ble_eq_true rfl⟩ (fun r_1 t_1 H locs hR h => ?_)
        refine lv_lstore_n (lv' := [(3, .long r_1), (0, .ref (ad 7)), (1, .int (li 1)), (2, .int (li 2))]) hx hb dX1_goDown_8 rfl hl (by decide) rfl (fun ls hl => ?_)
        refine lv_iconst (v := 0) hx hb dX1_goDown_9 (by decide) ?_
        refine lv_istore (lv' := [(5, .int 0), (3, .long r_1), (0, .ref (ad 7)), (1, .int (li 1)), (2, .int (li 2))]) hx hb dX1_goDown_10 hl (by decide) rfl (fun ls hl => ?_)
        exact ih.2.1 t_1 (uI li 5 0) (uI lj 3 r_1) H locs ls hR (lv_sub hl [2, 3, 4, 1, 0] rfl) h
      · intro t li lj H locs ls hR hl h
        have hR : wbX1_goDown_1 (wpX1_goDown k) k t li lj Q := hR
        unfold wbX1_goDown_1 at hR
        refine lv_iload hx hb dX1_goDown_12 (lv_at hl 4 rfl) ?_
        refine lv_iconst (v := 5) hx hb dX1_goDown_14 (by decide) ?_
        refine lv_icmp_ge (tgt := 83) hx hb dX1_goDown_15 (by decide) (fun c_2 => ?_) (fun c_2 => ?_)
        · have hR := hR.1 c_2
          exact x_vret (w1 := (fun u : XT => (wX cI cJ cB cZ ad u))) t B h hr hR dX1_goDown_83
        · have hR := hR.2 c_2
          refine lv_lload_n hx hb dX1_goDown_18 rfl (lv_at hl 3 rfl) ?_
          refine lv_lconst (v := 0) hx hb dX1_goDown_19 (by decide) ?_
          refine W.lcmp hx hb dX1_goDown_20 ?_
          refine lv_topi (fun v_3 ev_3 => ?_)
          have hR := hR v_3 ev_3
          refine lv_if_eq (tgt := 83) hx hb dX1_goDown_21 (by decide) (fun c_4 => ?_) (fun c_4 => ?_)
          · have hR := hR.1 c_4
            exact x_vret (w1 := (fun u : XT => (wX cI cJ cB cZ ad u))) t B h hr hR dX1_goDown_83
          · have hR := hR.2 c_4
            refine lv_lload_n hx hb dX1_goDown_24 rfl (lv_at hl 3 rfl) ?_
            refine x_cNIE (n := 1) (As := [.long (lj 3)]) (rest := []) B h (wkX11_lowest l D cI cJ cB cZ ad k (lj 3) _ hR) ⟨⟨_, rfl⟩, by decide +kernel, Nat.le_of_ble_eq_true rfl, Nat.le_of_ble_eq_true rfl⟩ gX1_goDown_X11_lowest_n74 (by decide +kernel) (by decide +kernel) (host := "MorseDesk") (by decide +kernel) rfl hl.1 rfl (Nat.le_of_ble_eq_true rfl) dX1_goDown_25 ⟨Nat.le_of_ble_eq_true rfl, Nat.le_of_ble_eq_true rfl⟩ (fun r_5 _ H locs hR h => ?_)
            refine lv_istore (lv' := [(6, .int r_5), (0, .ref (ad 7)), (1, .int (li 1)), (2, .int (li 2)), (3, .long (lj 3)), (5, .int (li 5))]) hx hb dX1_goDown_28 hl (by decide) rfl (fun ls hl => ?_)
            refine lv_lload_n hx hb dX1_goDown_30 rfl (lv_at hl 4 rfl) ?_
            refine lv_lload_n hx hb dX1_goDown_31 rfl (lv_at hl 4 rfl) ?_
            refine lv_lconst (v := 1) hx hb dX1_goDown_32 (by decide) ?_
            refine lv_lsub hx hb dX1_goDown_33 ?_
            refine lv_topl (fun v_6 ev_6 => ?_)
            have hR := hR v_6 ev_6
            refine lv_land hx hb dX1_goDown_34 ?_
            refine lv_topl (fun v_7 ev_7 => ?_)
            have hR := hR v_7 ev_7
            refine lv_lstore_n (lv' := [(3, .long v_7), (6, .int r_5), (0, .ref (ad 7)), (1, .int (li 1)), (2, .int (li 2)), (5, .int (li 5))]) hx hb dX1_goDown_35 rfl hl (by decide) rfl (fun ls hl => ?_)
            refine lv_aload_n hx hb dX1_goDown_36 rfl (lv_at hl 2 rfl) ?_
            refine x_get (ci := 1) (C := RX1) (T := TX1) (N := 7) (v := .ref (ad 23)) B h hin1 7 3 rfl rfl (by decide) (by decide +kernel) rfl dX1_goDown_37 ?_
            refine lv_iload hx hb dX1_goDown_40 (lv_at hl 1 rfl) ?_
            refine lv_dup2_11 hx hb dX1_goDown_42 rfl rfl ?_
            obtain ⟨hb_8, hR⟩ := hR
            refine va_lald (f := (t.2.2.2 3)) hx hb B.2.1 h.1 23 1 rfl rfl hb_8 dX1_goDown_43 ?_
            refine lv_topl (fun v_8 ev_8 => ?_)
            have hR := hR v_8 ev_8
            refine lv_iload_n hx hb dX1_goDown_44 rfl (lv_at hl 4 rfl) ?_
            refine lv_if_eq (tgt := 69) hx hb dX1_goDown_45 (by decide) (fun c_9 => ?_) (fun c_9 => ?_)
            · have hR := hR.1 c_9
              refine lv_aload_n hx hb dX1_goDown_69 rfl (lv_at hl 2 rfl) ?_
              refine x_get (ci := 1) (C := RX1) (T := TX1) (N := 7) (v := .ref (ad 23)) B h hin1 7 3 rfl rfl (by decide) (by decide +kernel) rfl dX1_goDown_70 ?_
              refine lv_iload_n hx hb dX1_goDown_73 rfl (lv_at hl 3 rfl) ?_
              obtain ⟨hb_10, hR⟩ := hR
              refine va_lald (f := (t.2.2.2 3)) hx hb B.2.1 h.1 23 1 rfl rfl hb_10 dX1_goDown_74 ?_
              refine lv_topl (fun v_10 ev_10 => ?_)
              have hR := hR v_10 ev_10
              exact ih.2.2 t (uI (uI li 6 r_5) 101 r_5) (uI (uI (uI lj 3 v_7) 103 v_10) 102 v_8) H locs ls hR (lv_sub hl [2, 3, 4, 0, 5, 1] rfl) h
            · have hR := hR.2 c_9
              refine lv_aload_n hx hb dX1_goDown_48 rfl (lv_at hl 2 rfl) ?_
              refine x_get (ci := 1) (C := RX1) (T := TX1) (N := 7) (v := .ref (ad 23)) B h hin1 7 3 rfl rfl (by decide) (by decide +kernel) rfl dX1_goDown_49 ?_
              refine lv_iload_n hx hb dX1_goDown_52 rfl (lv_at hl 3 rfl) ?_
              obtain ⟨hb_11, hR⟩ := hR
              refine va_lald (f := (t.2.2.2 3)) hx hb B.2.1 h.1 23 1 rfl rfl hb_11 dX1_goDown_53 ?_
              refine lv_topl (fun v_11 ev_11 => ?_)
              have hR := hR v_11 ev_11
              refine lv_aload_n hx hb dX1_goDown_54 rfl (lv_at hl 2 rfl) ?_
              refine x_get (ci := 1) (C := RX1) (T := TX1) (N := 7) (v := .ref (ad 3)) B h hin1 7 0 rfl rfl (by decide) (by decide +kernel) rfl dX1_goDown_55 ?_
              refine lv_iload hx hb dX1_goDown_58 (lv_at hl 1 rfl) ?_
              refine lv_iload_n hx hb dX1_goDown_60 rfl (lv_at hl 3 rfl) ?_
              refine x_cVIF (n := 2) (As := [.int r_5, .int (li 1)]) (rest := [.long v_11, .long v_8, .int r_5, .ref (ad 23)]) B h (wkX9_signOf l D cI cJ cB cZ ad k t r_5 (li 1) _ hR) ⟨⟨_, rfl⟩, by decide +kernel, Nat.le_of_ble_eq_true rfl, Nat.le_of_ble_eq_true rfl⟩ gX1_goDown_X9_signOf (show ((wX cI cJ cB cZ ad t) : va_W)[3]? = some (_, .inr (9, _)) from rfl) rfl rfl hl.1 rfl (Nat.le_of_ble_eq_true rfl) dX1_goDown_61 ⟨Nat.le_of_ble_eq_true rfl, Nat.le_of_ble_eq_true rfl⟩ (fun r_12 t_12 H locs hR h => ?_)
              obtain ⟨v_13, ev_13⟩ : ∃ v : Int64, v = r_12.toInt64 := ⟨_, rfl⟩
              have hR := hR v_13 ev_13
              refine lv_i2l (v := v_13) hx hb dX1_goDown_64 ev_13.symm ?_
              refine lv_lmul hx hb dX1_goDown_65 ?_
              refine lv_topl (fun v_14 ev_14 => ?_)
              have hR := hR v_14 ev_14
              refine lv_goto (tgt := 75) hx hb dX1_goDown_66 (by decide) ?_
              exact ih.2.2 t_12 (uI (uI li 6 r_5) 101 r_5) (uI (uI (uI lj 3 v_7) 103 v_14) 102 v_8) H locs ls hR (lv_sub hl [2, 3, 4, 0, 5, 1] rfl) h
      · intro t li lj H locs ls hR hl h
        have hR : wbX1_goDown_2 (wpX1_goDown k) k t li lj Q := hR
        unfold wbX1_goDown_2 at hR
        refine lv_ladd hx hb dX1_goDown_75 ?_
        refine lv_topl (fun v_15 ev_15 => ?_)
        have hR := hR v_15 ev_15
        obtain ⟨hb_16, hR⟩ := hR
        refine z_last (f := (t.2.2.2 3)) B h 23 1 rfl rfl hb_16 dX1_goDown_76 (fun H locs h => ?_)
        obtain ⟨t_16, et_16⟩ : ∃ v : XT, v = sB t 3 (vp_updL (t.2.2.2 3) (li 101).toNatClampNeg v_15) := ⟨_, rfl⟩
        have hR := hR t_16 et_16
        have h : Hp D A s.heap (wX cI cJ cB cZ ad t_16) H locs := by rw [et_16]; exact h
        obtain ⟨v_17, ev_17⟩ : ∃ v : Int32, v = (li 5) + Int32.ofInt 1 := ⟨_, rfl⟩
        have hR := hR v_17 ev_17
        refine lv_iinc (v := v_17) (lv' := [(5, .int v_17), (0, .ref (ad 7)), (1, .int (li 1)), (2, .int (li 2)), (3, .long (lj 3)), (6, .int (li 6))]) hx hb dX1_goDown_77 hl (k := 4) rfl ev_17.symm (by decide) rfl (fun ls hl => ?_)
        refine lv_goto (tgt := 12) hx hb dX1_goDown_80 (by decide) ?_
        exact ih.2.1 t_16 (uI li 5 v_17) lj H locs ls hR (lv_sub hl [1, 2, 3, 4, 0] rfl) h
  exact (main k).1 t _ _ s.heap [] ls hR hl h
