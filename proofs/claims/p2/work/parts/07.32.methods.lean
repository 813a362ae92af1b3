def wbX3_restore_c4_0 (rec : Nat → XT → (Nat → Int32) → (Nat → Int64) → (XT → Prop) → Prop) (k : Nat) (t : XT) (li : Nat → Int32) (lj : Nat → Int64) (Q : XT → Prop) : Prop :=
  ((¬ (t.1 8) = 0) → (∀ v_2 : Int32, v_2 = ((t.1 9) + 16) → (∀ v_3 : Int32, v_3 = (v_2 - 1) → ((¬ (16 : Int32) = 0) ∧ (∀ v_4 : Int32, v_4 = (v_3 - v_3 / 16 * 16) → (∀ t_5 : XT, t_5 = sI t 9 v_4 → (∀ v_6 : Int32, v_6 = ((t_5.1 8) - 1) → (∀ t_7 : XT, t_7 = sI t_5 8 v_6 → (∀ v_8 : Int32, v_8 = ((t_7.1 9) * 64) → (vp_in (t_7.1 9) 16 ∧ (∀ v_9 : Int64, v_9 = (t_7.2.2.2 6) (t_7.1 9).toNatClampNeg → (wqX6_takeBack_c27 k t_7 v_8 v_9 (fun t_10 => Q t_10))))))))))))) ∧ (((t.1 8) = 0) → Q t)
def wpX3_restore_c4 : Nat → Nat → XT → (Nat → Int32) → (Nat → Int64) → (XT → Prop) → Prop
  | 0, _, _, _, _, _ => False
  | k + 1, 0, t, li, lj, Q => wbX3_restore_c4_0 (wpX3_restore_c4 k) k t li lj Q
  | _ + 1, _, _, _, _, _ => False
def wqX3_restore_c4 (k : Nat) (t : XT)  (Q : XT → Prop) : Prop := wpX3_restore_c4 k 0 t (fun _ => 0) (fun _ => 0) Q
set_option maxHeartbeats 8000000 in
set_option maxRecDepth 100000 in
theorem wkX3_restore_c4 (l : Launch) (D : va_G) (cI cJ cB cZ : ClassId) (ad : Nat → Nat) (k : Nat) (t : XT)  (Q : XT → Prop) (hR : wqX3_restore_c4 k t  Q) : MetV l yX3_restore wsX3_restore 3 71 0 0 D (TYS cI cJ cB cZ) (wX cI cJ cB cZ ad t) [.ref (ad 9), .ref (ad 4)] (fun u => Q u) (fun u : XT => (wX cI cJ cB cZ ad u)) := by
  refine x_startV (ty := .int) (cc := cX3_restore) (by decide) rfl (Nat.le_of_ble_eq_true rfl) ?_
  intro p e s m args below meth c A ls B hr hnm h hl
  have hx := B.1.1
  have hb := B.1.2.1
  have hml := B.1.2.2.1
  have hts := B.1.2.2.2.2
  have hown : s.vm.findClass RX3 = some m.cls := B.1.2.2.2.1
  have hin3 : ∀ w ∈ u_ws RX3 TX3 4, w ∈ wsX3_restore := by decide +kernel
  have main : ∀ k : Nat, (∀ (t : XT) (li : Nat → Int32) (lj : Nat → Int64) (H : Heap) (locs : List Loc) (ls : Array Slot), wpX3_restore_c4 k 0 t li lj Q → lv_has ls 2 [(0, .ref (ad 9)), (1, .ref (ad 4))] → Hp D A s.heap (wX cI cJ cB cZ ad t) H locs → W p l e { frames := 3, cells := 0, slots := 0, locals := 71 } s m args below meth c H locs 0 0 (MQ below (va_Qv (fun u => Q u) (fun u t => xEnd D ((fun u : XT => (wX cI cJ cB cZ ad u)) u) A t) A) args s 0 0 A) (F0 m 0 ls [])) := by
    intro k
    induction k with
    | zero => exact fun _ _ _ _ _ _ hR => False.elim hR
    | succ k ih =>
      intro t li lj H locs ls hR hl h
      have hR : wbX3_restore_c4_0 (wpX3_restore_c4 k) k t li lj Q := hR
      unfold wbX3_restore_c4_0 at hR
      refine lv_aload_n hx hb dX3_restore_0 rfl (lv_at hl 0 rfl) ?_
      refine x_get (ci := 3) (C := RX3) (T := TX3) (N := 4) (v := .int (t.1 8)) B h hin3 9 2 rfl rfl (by decide) (by decide +kernel) rfl dX3_restore_1 ?_
      refine lv_if_ne (tgt := 8) hx hb dX3_restore_4 (by decide) (fun c_1 => ?_) (fun c_1 => ?_)
      · have hR := hR.1 c_1
        refine lv_aload_n hx hb dX3_restore_8 rfl (lv_at hl 0 rfl) ?_
        refine lv_aload_n hx hb dX3_restore_9 rfl (lv_at hl 0 rfl) ?_
        refine x_get (ci := 3) (C := RX3) (T := TX3) (N := 4) (v := .int (t.1 9)) B h hin3 9 3 rfl rfl (by decide) (by decide +kernel) rfl dX3_restore_10 ?_
        refine lv_bipush (v := 16) hx hb dX3_restore_13 (by decide) ?_
        refine lv_iadd hx hb dX3_restore_15 ?_
        refine lv_topi (fun v_2 ev_2 => ?_)
        have hR := hR v_2 ev_2
        refine lv_iconst (v := 1) hx hb dX3_restore_16 (by decide) ?_
        refine lv_isub hx hb dX3_restore_17 ?_
        refine lv_topi (fun v_3 ev_3 => ?_)
        have hR := hR v_3 ev_3
        refine lv_bipush (v := 16) hx hb dX3_restore_18 (by decide) ?_
        obtain ⟨hd_4, hR⟩ := hR
        refine lv_irem hx hb dX3_restore_20 hd_4 ?_
        refine lv_topi (fun v_4 ev_4 => ?_)
        have hR := hR v_4 ev_4
        refine x_put (ci := 3) (C := RX3) (T := TX3) (N := 4) (v := .int v_4) (ty := .int) B h hin3 tyX3 tyX3_ok nmX3 9 3 rfl rfl (by decide) (by decide +kernel) rfl rfl rfl rfl (Nat.le_of_ble_eq_true rfl) dX3_restore_21 (fun H locs h => ?_)
        obtain ⟨t_5, et_5⟩ : ∃ v : XT, v = sI t 9 v_4 := ⟨_, rfl⟩
        have hR := hR t_5 et_5
        have h : Hp D A s.heap (wX cI cJ cB cZ ad t_5) H locs := by rw [et_5]; exact h
        refine lv_aload_n hx hb dX3_restore_24 rfl (lv_at hl 0 rfl) ?_
        refine lv_dup hx hb dX3_restore_25 rfl ?_
        refine x_get (ci := 3) (C := RX3) (T := TX3) (N := 4) (v := .int (t_5.1 8)) B h hin3 9 2 rfl rfl (by decide) (by decide +kernel) rfl dX3_restore_26 ?_
        refine lv_iconst (v := 1) hx hb dX3_restore_29 (by decide) ?_
        refine lv_isub hx hb dX3_restore_30 ?_
        refine lv_topi (fun v_6 ev_6 => ?_)
        have hR := hR v_6 ev_6
        refine x_put (ci := 3) (C := RX3) (T := TX3) (N := 4) (v := .int v_6) (ty := .int) B h hin3 tyX3 tyX3_ok nmX3 9 2 rfl rfl (by decide) (by decide +kernel) rfl rfl rfl rfl (Nat.le_of_ble_eq_true rfl) dX3_restore_31 (fun H locs h => ?_)
        obtain ⟨t_7, et_7⟩ : ∃ v : XT, v = sI t_5 8 v_6 := ⟨_, rfl⟩
        have hR := hR t_7 et_7
        have h : Hp D A s.heap (wX cI cJ cB cZ ad t_7) H locs := by rw [et_7]; exact h
        refine lv_aload_n hx hb dX3_restore_34 rfl (lv_at hl 1 rfl) ?_
        refine lv_aload_n hx hb dX3_restore_35 rfl (lv_at hl 0 rfl) ?_
        refine x_get (ci := 3) (C := RX3) (T := TX3) (N := 4) (v := .ref (ad 27)) B h hin3 9 0 rfl rfl (by decide) (by decide +kernel) rfl dX3_restore_36 ?_
        refine lv_aload_n hx hb dX3_restore_39 rfl (lv_at hl 0 rfl) ?_
        refine x_get (ci := 3) (C := RX3) (T := TX3) (N := 4) (v := .int (t_7.1 9)) B h hin3 9 3 rfl rfl (by decide) (by decide +kernel) rfl dX3_restore_40 ?_
        refine lv_bipush (v := 64) hx hb dX3_restore_43 (by decide) ?_
        refine lv_imul hx hb dX3_restore_45 ?_
        refine lv_topi (fun v_8 ev_8 => ?_)
        have hR := hR v_8 ev_8
        refine lv_aload_n hx hb dX3_restore_46 rfl (lv_at hl 0 rfl) ?_
        refine x_get (ci := 3) (C := RX3) (T := TX3) (N := 4) (v := .ref (ad 28)) B h hin3 9 1 rfl rfl (by decide) (by decide +kernel) rfl dX3_restore_47 ?_
        refine lv_aload_n hx hb dX3_restore_50 rfl (lv_at hl 0 rfl) ?_
        refine x_get (ci := 3) (C := RX3) (T := TX3) (N := 4) (v := .int (t_7.1 9)) B h hin3 9 3 rfl rfl (by decide) (by decide +kernel) rfl dX3_restore_51 ?_
        obtain ⟨hb_9, hR⟩ := hR
        refine va_lald (f := (t_7.2.2.2 6)) hx hb B.2.1 h.1 28 1 rfl rfl hb_9 dX3_restore_54 ?_
        refine lv_topl (fun v_9 ev_9 => ?_)
        have hR := hR v_9 ev_9
        refine x_cVVF (n := 3) (As := [.ref (ad 27), .int v_8, .long v_9]) (rest := []) B h (wkX6_takeBack_c27 l D cI cJ cB cZ ad k t_7 v_8 v_9 _ hR) ⟨⟨_, rfl⟩, by decide +kernel, Nat.le_of_ble_eq_true rfl, Nat.le_of_ble_eq_true rfl⟩ gX3_restore_X6_takeBack (show ((wX cI cJ cB cZ ad t_7) : va_W)[4]? = some (_, .inr (6, _)) from rfl) rfl rfl hl.1 rfl (Nat.le_of_ble_eq_true rfl) dX3_restore_55 ⟨Nat.le_of_ble_eq_true rfl, Nat.le_of_ble_eq_true rfl⟩ (fun t_10 H locs hR h => ?_)
        exact x_vret (w1 := (fun u : XT => (wX cI cJ cB cZ ad u))) t_10 B h hr hR dX3_restore_58
      · have hR := hR.2 c_1
        exact x_vret (w1 := (fun u : XT => (wX cI cJ cB cZ ad u))) t B h hr hR dX3_restore_7
  exact (main k) t _ _ s.heap [] ls hR hl h
def wbX11_undo_0 (rec : Nat → XT → (Nat → Int32) → (Nat → Int64) → (Int32 → XT → Prop) → Prop) (k : Nat) (t : XT) (li : Nat → Int32) (lj : Nat → Int64) (Q : Int32 → XT → Prop) : Prop :=
  ((¬ (t.1 8) = 0) → (wqX3_restore_c4 k t  (fun t_2 => Q (t_2.1 8) t_2))) ∧ (((t.1 8) = 0) → Q (-1) t)
def wpX11_undo : Nat → Nat → XT → (Nat → Int32) → (Nat → Int64) → (Int32 → XT → Prop) → Prop
  | 0, _, _, _, _, _ => False
  | k + 1, 0, t, li, lj, Q => wbX11_undo_0 (wpX11_undo k) k t li lj Q
  | _ + 1, _, _, _, _, _ => False
def wqX11_undo (k : Nat) (t : XT)  (Q : Int32 → XT → Prop) : Prop := wpX11_undo k 0 t (fun _ => 0) (fun _ => 0) Q
set_option maxHeartbeats 8000000 in
set_option maxRecDepth 100000 in
theorem wkX11_undo (l : Launch) (D : va_G) (cI cJ cB cZ : ClassId) (ad : Nat → Nat) (k : Nat) (t : XT)  (Q : Int32 → XT → Prop) (hR : wqX11_undo k t  Q) : MetI l yX11_undo wsX11_undo 4 92 0 0 D (TYS cI cJ cB cZ) (wX cI cJ cB cZ ad t) [.ref (ad 0)] (fun r u => Q r u) (fun u : XT => (wX cI cJ cB cZ ad u)) := by
  refine x_startI (ty := .int) (cc := cX11_undo) (by decide) rfl (Nat.le_of_ble_eq_true rfl) ?_
  intro p e s m args below meth c A ls B hr hnm h hl
  have hx := B.1.1
  have hb := B.1.2.1
  have hml := B.1.2.2.1
  have hts := B.1.2.2.2.2
  have hown : s.vm.findClass RX11 = some m.cls := B.1.2.2.2.1
  have hin3 : ∀ w ∈ u_ws RX3 TX3 4, w ∈ wsX11_undo := by decide +kernel
  have hin11 : ∀ w ∈ u_ws RX11 TX11 11, w ∈ wsX11_undo := by decide +kernel
  have main : ∀ k : Nat, (∀ (t : XT) (li : Nat → Int32) (lj : Nat → Int64) (H : Heap) (locs : List Loc) (ls : Array Slot), wpX11_undo k 0 t li lj Q → lv_has ls 1 [(0, .ref (ad 0))] → Hp D A s.heap (wX cI cJ cB cZ ad t) H locs → W p l e { frames := 4, cells := 0, slots := 0, locals := 92 } s m args below meth c H locs 0 0 (MQ below (va_Qi (fun r u => Q r u) (fun u t => xEnd D ((fun u : XT => (wX cI cJ cB cZ ad u)) u) A t) A) args s 0 0 A) (F0 m 0 ls [])) := by
    intro k
    induction k with
    | zero => exact fun _ _ _ _ _ _ hR => False.elim hR
    | succ k ih =>
      intro t li lj H locs ls hR hl h
      have hR : wbX11_undo_0 (wpX11_undo k) k t li lj Q := hR
      unfold wbX11_undo_0 at hR
      refine lv_aload_n hx hb dX11_undo_0 rfl (lv_at hl 0 rfl) ?_
      refine x_get (ci := 11) (C := RX11) (T := TX11) (N := 11) (v := .ref (ad 9)) B h hin11 0 8 rfl rfl (by decide) (by decide +kernel) rfl dX11_undo_1 ?_
      refine x_get (ci := 3) (C := RX3) (T := TX3) (N := 4) (v := .int (t.1 8)) B h hin3 9 2 rfl rfl (by decide) (by decide +kernel) rfl dX11_undo_4 ?_
      refine lv_if_ne (tgt := 12) hx hb dX11_undo_7 (by decide) (fun c_1 => ?_) (fun c_1 => ?_)
      · have hR := hR.1 c_1
        refine lv_aload_n hx hb dX11_undo_12 rfl (lv_at hl 0 rfl) ?_
        refine x_get (ci := 11) (C := RX11) (T := TX11) (N := 11) (v := .ref (ad 9)) B h hin11 0 8 rfl rfl (by decide) (by decide +kernel) rfl dX11_undo_13 ?_
        refine lv_aload_n hx hb dX11_undo_16 rfl (lv_at hl 0 rfl) ?_
        refine x_get (ci := 11) (C := RX11) (T := TX11) (N := 11) (v := .ref (ad 4)) B h hin11 0 3 rfl rfl (by decide) (by decide +kernel) rfl dX11_undo_17 ?_
        refine x_cVVF (n := 1) (As := [.ref (ad 4)]) (rest := []) B h (wkX3_restore_c4 l D cI cJ cB cZ ad k t  _ hR) ⟨⟨_, rfl⟩, by decide +kernel, Nat.le_of_ble_eq_true rfl, Nat.le_of_ble_eq_true rfl⟩ gX11_undo_X3_restore (show ((wX cI cJ cB cZ ad t) : va_W)[9]? = some (_, .inr (3, _)) from rfl) rfl rfl hl.1 rfl (Nat.le_of_ble_eq_true rfl) dX11_undo_20 ⟨Nat.le_of_ble_eq_true rfl, Nat.le_of_ble_eq_true rfl⟩ (fun t_2 H locs hR h => ?_)
        refine lv_aload_n hx hb dX11_undo_23 rfl (lv_at hl 0 rfl) ?_
        refine x_get (ci := 11) (C := RX11) (T := TX11) (N := 11) (v := .ref (ad 9)) B h hin11 0 8 rfl rfl (by decide) (by decide +kernel) rfl dX11_undo_24 ?_
        refine x_get (ci := 3) (C := RX3) (T := TX3) (N := 4) (v := .int (t_2.1 8)) B h hin3 9 2 rfl rfl (by decide) (by decide +kernel) rfl dX11_undo_27 ?_
        exact x_iret (w1 := (fun u : XT => (wX cI cJ cB cZ ad u))) t_2 B h hr rfl hR dX11_undo_30
      · have hR := hR.2 c_1
        refine lv_iconst (v := (-1)) hx hb dX11_undo_10 (by decide) ?_
        exact x_iret (w1 := (fun u : XT => (wX cI cJ cB cZ ad u))) t B h hr rfl hR dX11_undo_11
  exact (main k) t _ _ s.heap [] ls hR hl h
def wbX11_isDim_0 (rec : Nat → (Nat → Int32) → (Nat → Int64) → (Int32 → Prop) → Prop) (k : Nat) (li : Nat → Int32) (lj : Nat → Int64) (Q : Int32 → Prop) : Prop :=
  (((li 0) < 0) → rec 1 li lj Q) ∧ (¬ ((li 0) < 0) → (((5 : Int32) ≤ (li 0)) → rec 1 li lj Q) ∧ (¬ ((5 : Int32) ≤ (li 0)) → Q 1))
def wbX11_isDim_1 (rec : Nat → (Nat → Int32) → (Nat → Int64) → (Int32 → Prop) → Prop) (k : Nat) (li : Nat → Int32) (lj : Nat → Int64) (Q : Int32 → Prop) : Prop :=
  Q 0
def wpX11_isDim : Nat → Nat → (Nat → Int32) → (Nat → Int64) → (Int32 → Prop) → Prop
  | 0, _, _, _, _ => False
  | k + 1, 0, li, lj, Q => wbX11_isDim_0 (wpX11_isDim k) k li lj Q
  | k + 1, 1, li, lj, Q => wbX11_isDim_1 (wpX11_isDim k) k li lj Q
  | _ + 1, _, _, _, _ => False
def wqX11_isDim (k : Nat) (a0 : Int32) (Q : Int32 → Prop) : Prop := wpX11_isDim k 0 (uI (fun _ => 0) 0 a0) (fun _ => 0) Q
set_option maxHeartbeats 8000000 in
set_option maxRecDepth 100000 in
theorem wkX11_isDim (l : Launch) (D : va_G) (cI cJ cB cZ : ClassId) (ad : Nat → Nat) (k : Nat) (a0 : Int32) (Q : Int32 → Prop) (hR : wqX11_isDim k a0 Q) : MetI l yX11_isDim wsX11_isDim 0 0 0 0 D (TYS cI cJ cB cZ) [] [.int a0] (fun r _ => Q r) (fun _ : Unit => []) := by
  refine x_startI (ty := .boolean) (cc := cX11_isDim) (by decide) rfl (Nat.le_of_ble_eq_true rfl) ?_
  intro p e s m args below meth c A ls B hr hnm h hl
  have hx := B.1.1
  have hb := B.1.2.1
  have hml := B.1.2.2.1
  have hts := B.1.2.2.2.2
  have hown : s.vm.findClass RX11 = some m.cls := B.1.2.2.2.1
  have main : ∀ k : Nat, (∀ (li : Nat → Int32) (lj : Nat → Int64) (H : Heap) (locs : List Loc) (ls : Array Slot), wpX11_isDim k 0 li lj Q → lv_has ls 1 [(0, .int (li 0))] → Hp D A s.heap [] H locs → W p l e { frames := 0, cells := 0, slots := 0, locals := 0 } s m args below meth c H locs 0 0 (MQ below (va_Qi (fun r _ => Q r) (fun u t => xEnd D ((fun _ : Unit => []) u) A t) A) args s 0 0 A) (F0 m 0 ls [])) ∧
      (∀ (li : Nat → Int32) (lj : Nat → Int64) (H : Heap) (locs : List Loc) (ls : Array Slot), wpX11_isDim k 1 li lj Q → lv_has ls 1 [(0, .int (li 0))] → Hp D A s.heap [] H locs → W p l e { frames := 0, cells := 0, slots := 0, locals := 0 } s m args below meth c H locs 0 0 (MQ below (va_Qi (fun r _ => Q r) (fun u t => xEnd D ((fun _ : Unit => []) u) A t) A) args s 0 0 A) (F0 m 13 ls [])) := by
    intro k
    induction k with
    | zero => exact ⟨fun _ _ _ _ _ hR => False.elim hR, fun _ _ _ _ _ hR => False.elim hR⟩
    | succ k ih =>
      refine ⟨?_, ?_⟩
      · intro li lj H locs ls hR hl h
        have hR : wbX11_isDim_0 (wpX11_isDim k) k li lj Q := hR
        unfold wbX11_isDim_0 at hR
        refine lv_iload_n hx hb dX11_isDim_0 rfl (lv_at hl 0 rfl) ?_
        refine lv_if_lt (tgt := 13) hx hb dX11_isDim_1 (by decide) (fun c_1 => ?_) (fun c_1 => ?_)
        · have hR := hR.1 c_1
          exact ih.2 li lj H locs ls hR (lv_sub hl [0] rfl) h
        · have hR := hR.2 c_1
          refine lv_iload_n hx hb dX11_isDim_4 rfl (lv_at hl 0 rfl) ?_
          refine lv_iconst (v := 5) hx hb dX11_isDim_5 (by decide) ?_
          refine lv_icmp_ge (tgt := 13) hx hb dX11_isDim_6 (by decide) (fun c_2 => ?_) (fun c_2 => ?_)
          · have hR := hR.1 c_2
            exact ih.2 li lj H locs ls hR (lv_sub hl [0] rfl) h
          · have hR := hR.2 c_2
            refine lv_iconst (v := 1) hx hb dX11_isDim_9 (by decide) ?_
            refine lv_goto (tgt := 14) hx hb dX11_isDim_10 (by decide) ?_
            exact x_iret (w1 := (fun _ : Unit => [])) () B h hr rfl hR dX11_isDim_14
      · intro li lj H locs ls hR hl h
        have hR : wbX11_isDim_1 (wpX11_isDim k) k li lj Q := hR
        unfold wbX11_isDim_1 at hR
        refine lv_iconst (v := 0) hx hb dX11_isDim_13 (by decide) ?_
        exact x_iret (w1 := (fun _ : Unit => [])) () B h hr rfl hR dX11_isDim_14
  exact (main k).1 _ _ s.heap [] ls hR hl h
def wbX11_listed_0 (rec : Nat → (Nat → Int32) → (Nat → Int64) → (Int32 → Prop) → Prop) (k : Nat) (li : Nat → Int32) (lj : Nat → Int64) (Q : Int32 → Prop) : Prop :=
  (wqJ13_bitCount_95d88 k (lj 0) (fun r_1 => ((¬ (li 2) = (-1)) → (((r_1 : Int32) ≤ (li 2)) → Q (-2)) ∧ (¬ ((r_1 : Int32) ≤ (li 2)) → (wqX11_nth k (lj 0) (li 2) (fun r_4 => Q r_4)))) ∧ (((li 2) = (-1)) → Q r_1)))
def wpX11_listed : Nat → Nat → (Nat → Int32) → (Nat → Int64) → (Int32 → Prop) → Prop
  | 0, _, _, _, _ => False
  | k + 1, 0, li, lj, Q => wbX11_listed_0 (wpX11_listed k) k li lj Q
  | _ + 1, _, _, _, _ => False
def wqX11_listed (k : Nat) (a0 : Int64) (a1 : Int32) (Q : Int32 → Prop) : Prop := wpX11_listed k 0 (uI (fun _ => 0) 2 a1) (uI (fun _ => 0) 0 a0) Q
set_option maxHeartbeats 8000000 in
set_option maxRecDepth 100000 in
theorem wkX11_listed (l : Launch) (D : va_G) (cI cJ cB cZ : ClassId) (ad : Nat → Nat) (k : Nat) (a0 : Int64) (a1 : Int32) (Q : Int32 → Prop) (hR : wqX11_listed k a0 a1 Q) : MetI l yX11_listed wsX11_listed 3 67 0 0 D (TYS cI cJ cB cZ) [] [.long a0, .int a1] (fun r _ => Q r) (fun _ : Unit => []) := by
  refine x_startI (ty := .int) (cc := cX11_listed) (by decide) rfl (Nat.le_of_ble_eq_true rfl) ?_
  intro p e s m args below meth c A ls B hr hnm h hl
  have hx := B.1.1
  have hb := B.1.2.1
  have hml := B.1.2.2.1
  have hts := B.1.2.2.2.2
  have hown : s.vm.findClass RX11 = some m.cls := B.1.2.2.2.1
  have main : ∀ k : Nat, (∀ (li : Nat → Int32) (lj : Nat → Int64) (H : Heap) (locs : List Loc) (ls : Array Slot), wpX11_listed k 0 li lj Q → lv_has ls 4 [(0, .long (lj 0)), (2, .int (li 2))] → Hp D A s.heap [] H locs → W p l e { frames := 3, cells := 0, slots := 0, locals := 67 } s m args below meth c H locs 0 0 (MQ below (va_Qi (fun r _ => Q r) (fun u t => xEnd D ((fun _ : Unit => []) u) A t) A) args s 0 0 A) (F0 m 0 ls [])) := by
    intro k
    induction k with
    | zero => exact fun _ _ _ _ _ hR => False.elim hR
    | succ k ih =>
      intro li lj H locs ls hR hl h
      have hR : wbX11_listed_0 (wpX11_listed k) k li lj Q := hR
      unfold wbX11_listed_0 at hR
      refine lv_lload_n hx hb dX11_listed_0 rfl (lv_at hl 0 rfl) ?_
      refine x_cSIE (n := 1) (As := [.long (lj 0)]) (rest := []) B h (wkJ13_bitCount_95d88 l D cI cJ cB cZ ad k (lj 0) _ hR) ⟨⟨_, rfl⟩, by decide +kernel, Nat.le_of_ble_eq_true rfl, Nat.le_of_ble_eq_true rfl⟩ gX11_listed_J13_bitCount_95d88 rfl hl.1 rfl (Nat.le_of_ble_eq_true rfl) dX11_listed_1 ⟨Nat.le_of_ble_eq_true rfl, Nat.le_of_ble_eq_true rfl⟩ (fun r_1 _ H locs hR h => ?_)
      refine lv_istore_n (lv' := [(3, .int r_1), (0, .long (lj 0)), (2, .int (li 2))]) hx hb dX11_listed_4 rfl hl (by decide) rfl (fun ls hl => ?_)
      refine lv_iload_n hx hb dX11_listed_5 rfl (lv_at hl 2 rfl) ?_
      refine lv_iconst (v := (-1)) hx hb dX11_listed_6 (by decide) ?_
      refine lv_icmp_ne (tgt := 12) hx hb dX11_listed_7 (by decide) (fun c_2 => ?_) (fun c_2 => ?_)
      · have hR := hR.1 c_2
        refine lv_iload_n hx hb dX11_listed_12 rfl (lv_at hl 2 rfl) ?_
        refine lv_iload_n hx hb dX11_listed_13 rfl (lv_at hl 0 rfl) ?_
        refine lv_icmp_ge (tgt := 25) hx hb dX11_listed_14 (by decide) (fun c_3 => ?_) (fun c_3 => ?_)
        · have hR := hR.1 c_3
          refine lv_bipush (v := (-2)) hx hb dX11_listed_25 (by decide) ?_
          exact x_iret (w1 := (fun _ : Unit => [])) () B h hr rfl hR dX11_listed_27
        · have hR := hR.2 c_3
          refine lv_lload_n hx hb dX11_listed_17 rfl (lv_at hl 1 rfl) ?_
          refine lv_iload_n hx hb dX11_listed_18 rfl (lv_at hl 2 rfl) ?_
          refine x_cSIE (n := 2) (As := [.long (lj 0), .int (li 2)]) (rest := []) B h (wkX11_nth l D cI cJ cB cZ ad k (lj 0) (li 2) _ hR) ⟨⟨_, rfl⟩, by decide +kernel, Nat.le_of_ble_eq_true rfl, Nat.le_of_ble_eq_true rfl⟩ gX11_listed_X11_nth rfl hl.1 rfl (Nat.le_of_ble_eq_true rfl) dX11_listed_19 ⟨Nat.le_of_ble_eq_true rfl, Nat.le_of_ble_eq_true rfl⟩ (fun r_4 _ H locs hR h => ?_)
          refine lv_goto (tgt := 27) hx hb dX11_listed_22 (by decide) ?_
          exact x_iret (w1 := (fun _ : Unit => [])) () B h hr rfl hR dX11_listed_27
      · have hR := hR.2 c_2
        refine lv_iload_n hx hb dX11_listed_10 rfl (lv_at hl 0 rfl) ?_
        exact x_iret (w1 := (fun _ : Unit => [])) () B h hr rfl hR dX11_listed_11
  exact (main k) _ _ s.heap [] ls hR hl h
def wbX11_critical_0 (rec : Nat → XT → (Nat → Int32) → (Nat → Int64) → (Int32 → XT → Prop) → Prop) (k : Nat) (t : XT) (li : Nat → Int32) (lj : Nat → Int64) (Q : Int32 → XT → Prop) : Prop :=
  (wqX11_isDim k (li 1) (fun r_1 => ((r_1 = 0) → rec 1 t li lj Q) ∧ (¬ (r_1 = 0) → ((((-1) : Int32) ≤ (li 2)) → (wqX6_unpaired k t  (fun r_4 t_4 => (vp_in (li 1) 5 ∧ (∀ v_5 : Int64, v_5 = (t_4.2.2.2 2) (li 1).toNatClampNeg → (∀ v_6 : Int64, v_6 = (r_4 &&& v_5) → (wqX11_listed k v_6 (li 2) (fun r_7 => Q r_7 t_4)))))))) ∧ (¬ (((-1) : Int32) ≤ (li 2)) → rec 1 t li lj Q))))
def wbX11_critical_1 (rec : Nat → XT → (Nat → Int32) → (Nat → Int64) → (Int32 → XT → Prop) → Prop) (k : Nat) (t : XT) (li : Nat → Int32) (lj : Nat → Int64) (Q : Int32 → XT → Prop) : Prop :=
  Q (-1) t
def wpX11_critical : Nat → Nat → XT → (Nat → Int32) → (Nat → Int64) → (Int32 → XT → Prop) → Prop
  | 0, _, _, _, _, _ => False
  | k + 1, 0, t, li, lj, Q => wbX11_critical_0 (wpX11_critical k) k t li lj Q
  | k + 1, 1, t, li, lj, Q => wbX11_critical_1 (wpX11_critical k) k t li lj Q
  | _ + 1, _, _, _, _, _ => False
def wqX11_critical (k : Nat) (t : XT) (a1 : Int32) (a2 : Int32) (Q : Int32 → XT → Prop) : Prop := wpX11_critical k 0 t (uI (uI (fun _ => 0) 1 a1) 2 a2) (fun _ => 0) Q
set_option maxHeartbeats 8000000 in
set_option maxRecDepth 100000 in
theorem wkX11_critical (l : Launch) (D : va_G) (cI cJ cB cZ : ClassId) (ad : Nat → Nat) (k : Nat) (t : XT) (a1 : Int32) (a2 : Int32) (Q : Int32 → XT → Prop) (hR : wqX11_critical k t a1 a2 Q) : MetI l yX11_critical wsX11_critical 4 90 0 0 D (TYS cI cJ cB cZ) (wX cI cJ cB cZ ad t) [.ref (ad 0), .int a1, .int a2] (fun r u => Q r u) (fun u : XT => (wX cI cJ cB cZ ad u)) := by
  refine x_startI (ty := .int) (cc := cX11_critical) (by decide) rfl (Nat.le_of_ble_eq_true rfl) ?_
  intro p e s m args below meth c A ls B hr hnm h hl
  have hx := B.1.1
  have hb := B.1.2.1
  have hml := B.1.2.2.1
  have hts := B.1.2.2.2.2
  have hown : s.vm.findClass RX11 = some m.cls := B.1.2.2.2.1
  have hin9 : ∀ w ∈ u_ws RX9 TX9 7, w ∈ wsX11_critical := by decide +kernel
  have hin11 : ∀ w ∈ u_ws RX11 TX11 11, w ∈ wsX11_critical := by decide +kernel
  have main : ∀ k : Nat, (∀ (t : XT) (li : Nat → Int32) (lj : Nat → Int64) (H : Heap) (locs : List Loc) (ls : Array Slot), wpX11_critical k 0 t li lj Q → lv_has ls 3 [(0, .ref (ad 0)), (1, .int (li 1)), (2, .int (li 2))] → Hp D A s.heap (wX cI cJ cB cZ ad t) H locs → W p l e { frames := 4, cells := 0, slots := 0, locals := 90 } s m args below meth c H locs 0 0 (MQ below (va_Qi (fun r u => Q r u) (fun u t => xEnd D ((fun u : XT => (wX cI cJ cB cZ ad u)) u) A t) A) args s 0 0 A) (F0 m 0 ls [])) ∧
      (∀ (t : XT) (li : Nat → Int32) (lj : Nat → Int64) (H : Heap) (locs : List Loc) (ls : Array Slot), wpX11_critical k 1 t li lj Q → lv_has ls 3 [(0, .ref (ad 0)), (1, .int (li 1)), (2, .int (li 2))] → Hp D A s.heap (wX cI cJ cB cZ ad t) H locs → W p l e { frames := 4, cells := 0, slots := 0, locals := 90 } s m args below meth c H locs 0 0 (MQ below (va_Qi (fun r u => Q r u) (fun u t => xEnd D ((fun u : XT => (wX cI cJ cB cZ ad u)) u) A t) A) args s 0 0 A) (F0 m 12 ls [])) := by
    intro k
    induction k with
    | zero => exact ⟨fun _ _ _ _ _ _ hR => False.elim hR, fun _ _ _ _ _ _ hR => False.elim hR⟩
    | succ k ih =>
      refine ⟨?_, ?_⟩
      · intro t li lj H locs ls hR hl h
        have hR : wbX11_critical_0 (wpX11_critical k) k t li lj Q := hR
        unfold wbX11_critical_0 at hR
        refine lv_iload_n hx hb dX11_critical_0 rfl (lv_at hl 1 rfl) ?_
        refine x_cSIE (n := 1) (As := [.int (li 1)]) (rest := []) B h (wkX11_isDim l D cI cJ cB cZ ad k (li 1) _ hR) ⟨⟨_, rfl⟩, by decide +kernel, Nat.le_of_ble_eq_true rfl, Nat.le_of_ble_eq_true rfl⟩ gX11_critical_X11_isDim rfl hl.1 rfl (Nat.le_of_ble_eq_true rfl) dX11_critical_1 ⟨Nat.le_of_ble_eq_true rfl, Nat.le_of_ble_eq_true rfl⟩ (fun r_1 _ H locs hR h => ?_)
        refine lv_if_eq (tgt := 12) hx hb dX11_critical_4 (by decide) (fun c_2 => ?_) (fun c_2 => ?_)
        · have hR := hR.1 c_2
          exact ih.2 t li lj H locs ls hR (lv_sub hl [0, 1, 2] rfl) h
        · have hR := hR.2 c_2
          refine lv_iload_n hx hb dX11_critical_7 rfl (lv_at hl 2 rfl) ?_
          refine lv_iconst (v := (-1)) hx hb dX11_critical_8 (by decide) ?_
          refine lv_icmp_ge (tgt := 14) hx hb dX11_critical_9 (by decide) (fun c_3 => ?_) (fun c_3 => ?_)
          · have hR := hR.1 c_3
            refine lv_aload_n hx hb dX11_critical_14 rfl (lv_at hl 0 rfl) ?_
            refine x_get (ci := 11) (C := RX11) (T := TX11) (N := 11) (v := .ref (ad 4)) B h hin11 0 3 rfl rfl (by decide) (by decide +kernel) rfl dX11_critical_15 ?_
            refine x_cVLF (n := 0) (As := []) (rest := []) B h (wkX6_unpaired l D cI cJ cB cZ ad k t  _ hR) ⟨⟨_, rfl⟩, by decide +kernel, Nat.le_of_ble_eq_true rfl, Nat.le_of_ble_eq_true rfl⟩ gX11_critical_X6_unpaired (show ((wX cI cJ cB cZ ad t) : va_W)[4]? = some (_, .inr (6, _)) from rfl) rfl rfl hl.1 rfl (Nat.le_of_ble_eq_true rfl) dX11_critical_18 ⟨Nat.le_of_ble_eq_true rfl, Nat.le_of_ble_eq_true rfl⟩ (fun r_4 t_4 H locs hR h => ?_)
            refine lv_aload_n hx hb dX11_critical_21 rfl (lv_at hl 0 rfl) ?_
            refine x_get (ci := 11) (C := RX11) (T := TX11) (N := 11) (v := .ref (ad 3)) B h hin11 0 2 rfl rfl (by decide) (by decide +kernel) rfl dX11_critical_22 ?_
            refine x_get (ci := 9) (C := RX9) (T := TX9) (N := 7) (v := .ref (ad 19)) B h hin9 3 6 rfl rfl (by decide) (by decide +kernel) rfl dX11_critical_25 ?_
            refine lv_iload_n hx hb dX11_critical_28 rfl (lv_at hl 1 rfl) ?_
            obtain ⟨hb_5, hR⟩ := hR
            refine va_lald (f := (t_4.2.2.2 2)) hx hb B.2.1 h.1 19 1 rfl rfl hb_5 dX11_critical_29 ?_
            refine lv_topl (fun v_5 ev_5 => ?_)
            have hR := hR v_5 ev_5
            refine lv_land hx hb dX11_critical_30 ?_
            refine lv_topl (fun v_6 ev_6 => ?_)
            have hR := hR v_6 ev_6
            refine lv_iload_n hx hb dX11_critical_31 rfl (lv_at hl 2 rfl) ?_
            refine x_cSIE (n := 2) (As := [.long v_6, .int (li 2)]) (rest := []) B h (wkX11_listed l D cI cJ cB cZ ad k v_6 (li 2) _ hR) ⟨⟨_, rfl⟩, by decide +kernel, Nat.le_of_ble_eq_true rfl, Nat.le_of_ble_eq_true rfl⟩ gX11_critical_X11_listed rfl hl.1 rfl (Nat.le_of_ble_eq_true rfl) dX11_critical_32 ⟨Nat.le_of_ble_eq_true rfl, Nat.le_of_ble_eq_true rfl⟩ (fun r_7 _ H locs hR h => ?_)
            exact x_iret (w1 := (fun u : XT => (wX cI cJ cB cZ ad u))) t_4 B h hr rfl hR dX11_critical_35
          · have hR := hR.2 c_3
            exact ih.2 t li lj H locs ls hR (lv_sub hl [0, 1, 2] rfl) h
      · intro t li lj H locs ls hR hl h
        have hR : wbX11_critical_1 (wpX11_critical k) k t li lj Q := hR
        unfold wbX11_critical_1 at hR
        refine lv_iconst (v := (-1)) hx hb dX11_critical_12 (by decide) ?_
        exact x_iret (w1 := (fun u : XT => (wX cI cJ cB cZ ad u))) t B h hr rfl hR dX11_critical_13
  exact (main k).1 t _ _ s.heap [] ls hR hl h
def wbX11_paths_0 (rec : Nat → XT → (Nat → Int32) → (Nat → Int64) → (Int64 → XT → Prop) → Prop) (k : Nat) (t : XT) (li : Nat → Int32) (lj : Nat → Int64) (Q : Int64 → XT → Prop) : Prop :=
  (wqX11_areEnds k t (li 1) (li 2) (fun r_1 t_1 => ((¬ r_1 = 0) → (wqX1_countWays k t_1 (li 1) (li 2) (fun r_3 t_3 => Q r_3 t_3))) ∧ ((r_1 = 0) → Q (-1) t_1)))
def wpX11_paths : Nat → Nat → XT → (Nat → Int32) → (Nat → Int64) → (Int64 → XT → Prop) → Prop
  | 0, _, _, _, _, _ => False
  | k + 1, 0, t, li, lj, Q => wbX11_paths_0 (wpX11_paths k) k t li lj Q
  | _ + 1, _, _, _, _, _ => False
def wqX11_paths (k : Nat) (t : XT) (a1 : Int32) (a2 : Int32) (Q : Int64 → XT → Prop) : Prop := wpX11_paths k 0 t (uI (uI (fun _ => 0) 1 a1) 2 a2) (fun _ => 0) Q
set_option maxHeartbeats 8000000 in
set_option maxRecDepth 100000 in
theorem wkX11_paths (l : Launch) (D : va_G) (cI cJ cB cZ : ClassId) (ad : Nat → Nat) (k : Nat) (t : XT) (a1 : Int32) (a2 : Int32) (Q : Int64 → XT → Prop) (hR : wqX11_paths k t a1 a2 Q) : MetL l yX11_paths wsX11_paths 4 95 0 0 D (TYS cI cJ cB cZ) (wX cI cJ cB cZ ad t) [.ref (ad 0), .int a1, .int a2] (fun r u => Q r u) (fun u : XT => (wX cI cJ cB cZ ad u)) := by
  refine x_startL (ty := .long) (cc := cX11_paths) (by decide) rfl (Nat.le_of_ble_eq_true rfl) ?_
  intro p e s m args below meth c A ls B hr hnm h hl
  have hx := B.1.1
  have hb := B.1.2.1
  have hml := B.1.2.2.1
  have hts := B.1.2.2.2.2
  have hown : s.vm.findClass RX11 = some m.cls := B.1.2.2.2.1
  have hin11 : ∀ w ∈ u_ws RX11 TX11 11, w ∈ wsX11_paths := by decide +kernel
  have main : ∀ k : Nat, (∀ (t : XT) (li : Nat → Int32) (lj : Nat → Int64) (H : Heap) (locs : List Loc) (ls : Array Slot), wpX11_paths k 0 t li lj Q → lv_has ls 3 [(0, .ref (ad 0)), (1, .int (li 1)), (2, .int (li 2))] → Hp D A s.heap (wX cI cJ cB cZ ad t) H locs → W p l e { frames := 4, cells := 0, slots := 0, locals := 95 } s m args below meth c H locs 0 0 (MQ below (va_Ql (fun r u => Q r u) (fun u t => xEnd D ((fun u : XT => (wX cI cJ cB cZ ad u)) u) A t) A) args s 0 0 A) (F0 m 0 ls [])) := by
    intro k
    induction k with
    | zero => exact fun _ _ _ _ _ _ hR => False.elim hR
    | succ k ih =>
      intro t li lj H locs ls hR hl h
      have hR : wbX11_paths_0 (wpX11_paths k) k t li lj Q := hR
      unfold wbX11_paths_0 at hR
      refine lv_aload_n hx hb dX11_paths_0 rfl (lv_at hl 0 rfl) ?_
      refine lv_iload_n hx hb dX11_paths_1 rfl (lv_at hl 1 rfl) ?_
      refine lv_iload_n hx hb dX11_paths_2 rfl (lv_at hl 2 rfl) ?_
      refine x_cVIF (n := 2) (As := [.int (li 1), .int (li 2)]) (rest := []) B h (wkX11_areEnds l D cI cJ cB cZ ad k t (li 1) (li 2) _ hR) ⟨⟨_, rfl⟩, by decide +kernel, Nat.le_of_ble_eq_true rfl, Nat.le_of_ble_eq_true rfl⟩ gX11_paths_X11_areEnds (show ((wX cI cJ cB cZ ad t) : va_W)[0]? = some (_, .inr (11, _)) from rfl) rfl rfl hl.1 rfl (Nat.le_of_ble_eq_true rfl) dX11_paths_3 ⟨Nat.le_of_ble_eq_true rfl, Nat.le_of_ble_eq_true rfl⟩ (fun r_1 t_1 H locs hR h => ?_)
      refine lv_if_ne (tgt := 13) hx hb dX11_paths_6 (by decide) (fun c_2 => ?_) (fun c_2 => ?_)
      · have hR := hR.1 c_2
        refine lv_aload_n hx hb dX11_paths_13 rfl (lv_at hl 0 rfl) ?_
        refine x_get (ci := 11) (C := RX11) (T := TX11) (N := 11) (v := .ref (ad 7)) B h hin11 0 6 rfl rfl (by decide) (by decide +kernel) rfl dX11_paths_14 ?_
        refine lv_iload_n hx hb dX11_paths_17 rfl (lv_at hl 1 rfl) ?_
        refine lv_iload_n hx hb dX11_paths_18 rfl (lv_at hl 2 rfl) ?_
        refine x_cVLF (n := 2) (As := [.int (li 1), .int (li 2)]) (rest := []) B h (wkX1_countWays l D cI cJ cB cZ ad k t_1 (li 1) (li 2) _ hR) ⟨⟨_, rfl⟩, by decide +kernel, Nat.le_of_ble_eq_true rfl, Nat.le_of_ble_eq_true rfl⟩ gX11_paths_X1_countWays (show ((wX cI cJ cB cZ ad t_1) : va_W)[7]? = some (_, .inr (1, _)) from rfl) rfl rfl hl.1 rfl (Nat.le_of_ble_eq_true rfl) dX11_paths_19 ⟨Nat.le_of_ble_eq_true rfl, Nat.le_of_ble_eq_true rfl⟩ (fun r_3 t_3 H locs hR h => ?_)
        exact x_lret (w1 := (fun u : XT => (wX cI cJ cB cZ ad u))) t_3 B h hr hR dX11_paths_22
      · have hR := hR.2 c_2
        refine lv_ldc2 (v := (-1)) hx hb hown (hts (.constantLong RX11 242 (-1)) (by decide +kernel)) dX11_paths_9 ?_
        exact x_lret (w1 := (fun u : XT => (wX cI cJ cB cZ ad u))) t_1 B h hr hR dX11_paths_12
  exact (main k) t _ _ s.heap [] ls hR hl h
def wbX11_path_0 (rec : Nat → XT → (Nat → Int32) → (Nat → Int64) → (Int32 → XT → Prop) → Prop) (k : Nat) (t : XT) (li : Nat → Int32) (lj : Nat → Int64) (Q : Int32 → XT → Prop) : Prop :=
  (wqX11_areEnds k t (li 1) (li 2) (fun r_1 t_1 => ((r_1 = 0) → rec 1 t_1 li lj Q) ∧ (¬ (r_1 = 0) → (((li 3) < 0) → rec 1 t_1 li lj Q) ∧ (¬ ((li 3) < 0) → ((((-1) : Int32) ≤ (li 4)) → (∀ v_5 : Int64, v_5 = (li 3).toInt64 → (wqX1_countWays k t_1 (li 1) (li 2) (fun r_6 t_6 => (∀ v_7 : Int32, v_7 = (lg_cmp v_5 r_6) → ((v_7 < 0) → (∀ v_9 : Int64, v_9 = (li 3).toInt64 → (wqX1_trace k t_6 (li 1) (li 2) v_9 (fun r_10 t_10 => ((¬ (li 4) = (-1)) → (((r_10 : Int32) ≤ (li 4)) → Q (-2) t_10) ∧ (¬ ((r_10 : Int32) ≤ (li 4)) → (vp_in (li 4) 64 ∧ (∀ v_13 : Int32, v_13 = (t_10.2.2.1 8) (li 4).toNatClampNeg → Q v_13 t_10)))) ∧ (((li 4) = (-1)) → Q r_10 t_10))))) ∧ (¬ (v_7 < 0) → Q (-2) t_6)))))) ∧ (¬ (((-1) : Int32) ≤ (li 4)) → rec 1 t_1 li lj Q)))))
def wbX11_path_1 (rec : Nat → XT → (Nat → Int32) → (Nat → Int64) → (Int32 → XT → Prop) → Prop) (k : Nat) (t : XT) (li : Nat → Int32) (lj : Nat → Int64) (Q : Int32 → XT → Prop) : Prop :=
  Q (-1) t
def wpX11_path : Nat → Nat → XT → (Nat → Int32) → (Nat → Int64) → (Int32 → XT → Prop) → Prop
  | 0, _, _, _, _, _ => False
  | k + 1, 0, t, li, lj, Q => wbX11_path_0 (wpX11_path k) k t li lj Q
  | k + 1, 1, t, li, lj, Q => wbX11_path_1 (wpX11_path k) k t li lj Q
  | _ + 1, _, _, _, _, _ => False
def wqX11_path (k : Nat) (t : XT) (a1 : Int32) (a2 : Int32) (a3 : Int32) (a4 : Int32) (Q : Int32 → XT → Prop) : Prop := wpX11_path k 0 t (uI (uI (uI (uI (fun _ => 0) 1 a1) 2 a2) 3 a3) 4 a4) (fun _ => 0) Q
set_option maxHeartbeats 8000000 in
set_option maxRecDepth 100000 in
theorem wkX11_path (l : Launch) (D : va_G) (cI cJ cB cZ : ClassId) (ad : Nat → Nat) (k : Nat) (t : XT) (a1 : Int32) (a2 : Int32) (a3 : Int32) (a4 : Int32) (Q : Int32 → XT → Prop) (hR : wqX11_path k t a1 a2 a3 a4 Q) : MetI l yX11_path wsX11_path 4 95 0 0 D (TYS cI cJ cB cZ) (wX cI cJ cB cZ ad t) [.ref (ad 0), .int a1, .int a2, .int a3, .int a4] (fun r u => Q r u) (fun u : XT => (wX cI cJ cB cZ ad u)) := by
  refine x_startI (ty := .int) (cc := cX11_path) (by decide) rfl (Nat.le_of_ble_eq_true rfl) ?_
  intro p e s m args below meth c A ls B hr hnm h hl
  have hx := B.1.1
  have hb := B.1.2.1
  have hml := B.1.2.2.1
  have hts := B.1.2.2.2.2
  have hown : s.vm.findClass RX11 = some m.cls := B.1.2.2.2.1
  have hin1 : ∀ w ∈ u_ws RX1 TX1 7, w ∈ wsX11_path := by decide +kernel
  have hin11 : ∀ w ∈ u_ws RX11 TX11 11, w ∈ wsX11_path := by decide +kernel
  have main : ∀ k : Nat, (∀ (t : XT) (li : Nat → Int32) (lj : Nat → Int64) (H : Heap) (locs : List Loc) (ls : Array Slot), wpX11_path k 0 t li lj Q → lv_has ls 6 [(0, .ref (ad 0)), (1, .int (li 1)), (2, .int (li 2)), (3, .int (li 3)), (4, .int (li 4))] → Hp D A s.heap (wX cI cJ cB cZ ad t) H locs → W p l e { frames := 4, cells := 0, slots := 0, locals := 95 } s m args below meth c H locs 0 0 (MQ below (va_Qi (fun r u => Q r u) (fun u t => xEnd D ((fun u : XT => (wX cI cJ cB cZ ad u)) u) A t) A) args s 0 0 A) (F0 m 0 ls [])) ∧
      (∀ (t : XT) (li : Nat → Int32) (lj : Nat → Int64) (H : Heap) (locs : List Loc) (ls : Array Slot), wpX11_path k 1 t li lj Q → lv_has ls 6 [(0, .ref (ad 0)), (1, .int (li 1)), (2, .int (li 2)), (3, .int (li 3)), (4, .int (li 4))] → Hp D A s.heap (wX cI cJ cB cZ ad t) H locs → W p l e { frames := 4, cells := 0, slots := 0, locals := 95 } s m args below meth c H locs 0 0 (MQ below (va_Qi (fun r u => Q r u) (fun u t => xEnd D ((fun u : XT => (wX cI cJ cB cZ ad u)) u) A t) A) args s 0 0 A) (F0 m 19 ls [])) := by
    intro k
    induction k with
    | zero => exact ⟨fun _ _ _ _ _ _ hR => False.elim hR, fun _ _ _ _ _ _ hR => False.elim hR⟩
    | succ k ih =>
      refine ⟨?_, ?_⟩
      · intro t li lj H locs ls hR hl h
        have hR : wbX11_path_0 (wpX11_path k) k t li lj Q := hR
        unfold wbX11_path_0 at hR
        refine lv_aload_n hx hb dX11_path_0 rfl (lv_at hl 0 rfl) ?_
        refine lv_iload_n hx hb dX11_path_1 rfl (lv_at hl 1 rfl) ?_
        refine lv_iload_n hx hb dX11_path_2 rfl (lv_at hl 2 rfl) ?_
        refine x_cVIF (n := 2) (As := [.int (li 1), .int (li 2)]) (rest := []) B h (wkX11_areEnds l D cI cJ cB cZ ad k t (li 1) (li 2) _ hR) ⟨⟨_, rfl⟩, by decide +kernel, Nat.le_of_ble_eq_true rfl, Nat.le_of_ble_eq_true rfl⟩ gX11_path_X11_areEnds (show ((wX cI cJ cB cZ ad t) : va_W)[0]? = some (_, .inr (11, _)) from rfl) rfl rfl hl.1 rfl (Nat.le_of_ble_eq_true rfl) dX11_path_3 ⟨Nat.le_of_ble_eq_true rfl, Nat.le_of_ble_eq_true rfl⟩ (fun r_1 t_1 H locs hR h => ?_)
        refine lv_if_eq (tgt := 19) hx hb dX11_path_6 (by decide) (fun c_2 => ?_) (fun c_2 => ?_)
        · have hR := hR.1 c_2
          exact ih.2 t_1 li lj H locs ls hR (lv_sub hl [0, 1, 2, 3, 4] rfl) h
        · have hR := hR.2 c_2
          refine lv_iload_n hx hb dX11_path_9 rfl (lv_at hl 3 rfl) ?_
          refine lv_if_lt (tgt := 19) hx hb dX11_path_10 (by decide) (fun c_3 => ?_) (fun c_3 => ?_)
          · have hR := hR.1 c_3
            exact ih.2 t_1 li lj H locs ls hR (lv_sub hl [0, 1, 2, 3, 4] rfl) h
          · have hR := hR.2 c_3
            refine lv_iload hx hb dX11_path_13 (lv_at hl 4 rfl) ?_
            refine lv_iconst (v := (-1)) hx hb dX11_path_15 (by decide) ?_
            refine lv_icmp_ge (tgt := 21) hx hb dX11_path_16 (by decide) (fun c_4 => ?_) (fun c_4 => ?_)
            · have hR := hR.1 c_4
              refine lv_iload_n hx hb dX11_path_21 rfl (lv_at hl 3 rfl) ?_
              obtain ⟨v_5, ev_5⟩ : ∃ v : Int64, v = (li 3).toInt64 := ⟨_, rfl⟩
              have hR := hR v_5 ev_5
              refine lv_i2l (v := v_5) hx hb dX11_path_22 ev_5.symm ?_
              refine lv_aload_n hx hb dX11_path_23 rfl (lv_at hl 0 rfl) ?_
              refine x_get (ci := 11) (C := RX11) (T := TX11) (N := 11) (v := .ref (ad 7)) B h hin11 0 6 rfl rfl (by decide) (by decide +kernel) rfl dX11_path_24 ?_
              refine lv_iload_n hx hb dX11_path_27 rfl (lv_at hl 1 rfl) ?_
              refine lv_iload_n hx hb dX11_path_28 rfl (lv_at hl 2 rfl) ?_
              refine x_cVLF (n := 2) (As := [.int (li 1), .int (li 2)]) (rest := [.long v_5]) B h (wkX1_countWays l D cI cJ cB cZ ad k t_1 (li 1) (li 2) _ hR) ⟨⟨_, rfl⟩, by decide +kernel, Nat.le_of_ble_eq_true rfl, Nat.le_of_ble_eq_true rfl⟩ gX11_path_X1_countWays (show ((wX cI cJ cB cZ ad t_1) : va_W)[7]? = some (_, .inr (1, _)) from rfl) rfl rfl hl.1 rfl (Nat.le_of_ble_eq_true rfl) dX11_path_29 ⟨Nat.le_of_ble_eq_true rfl, Nat.le_of_ble_eq_true rfl⟩ (fun r_6 t_6 H locs hR h => ?_)
              refine W.lcmp hx hb dX11_path_32 ?_
              refine lv_topi (fun v_7 ev_7 => ?_)
              have hR := hR v_7 ev_7
              refine lv_if_lt (tgt := 39) hx hb dX11_path_33 (by decide) (fun c_8 => ?_) (fun c_8 => ?_)
              · have hR := hR.1 c_8
                refine lv_aload_n hx hb dX11_path_39 rfl (lv_at hl 0 rfl) ?_
                refine x_get (ci := 11) (C := RX11) (T := TX11) (N := 11) (v := .ref (ad 7)) B h hin11 0 6 rfl rfl (by decide) (by decide +kernel) rfl dX11_path_40 ?_
                refine lv_iload_n hx hb dX11_path_43 rfl (lv_at hl 1 rfl) ?_
                refine lv_iload_n hx hb dX11_path_44 rfl (lv_at hl 2 rfl) ?_
                refine lv_iload_n hx hb dX11_path_45 rfl (lv_at hl 3 rfl) ?_
                obtain ⟨v_9, ev_9⟩ : ∃ v : Int64, v = (li 3).toInt64 := ⟨_, rfl⟩
                have hR := hR v_9 ev_9
                refine lv_i2l (v := v_9) hx hb dX11_path_46 ev_9.symm ?_
                refine x_cVIF (n := 3) (As := [.int (li 1), .int (li 2), .long v_9]) (rest := []) B h (wkX1_trace l D cI cJ cB cZ ad k t_6 (li 1) (li 2) v_9 _ hR) ⟨⟨_, rfl⟩, by decide +kernel, Nat.le_of_ble_eq_true rfl, Nat.le_of_ble_eq_true rfl⟩ gX11_path_X1_trace (show ((wX cI cJ cB cZ ad t_6) : va_W)[7]? = some (_, .inr (1, _)) from rfl) rfl rfl hl.1 rfl (Nat.le_of_ble_eq_true rfl) dX11_path_47 ⟨Nat.le_of_ble_eq_true rfl, Nat.le_of_ble_eq_true rfl⟩ (fun r_10 t_10 H locs hR h => ?_)
                refine lv_istore (lv' := [(5, .int r_10), (0, .ref (ad 0)), (1, .int (li 1)), (2, .int (li 2)), (3, .int (li 3)), (4, .int (li 4))]) hx hb dX11_path_50 hl (by decide) rfl (fun ls hl => ?_)
                refine lv_iload hx hb dX11_path_52 (lv_at hl 5 rfl) ?_
                refine lv_iconst (v := (-1)) hx hb dX11_path_54 (by decide) ?_
                refine lv_icmp_ne (tgt := 61) hx hb dX11_path_55 (by decide) (fun c_11 => ?_) (fun c_11 => ?_)
                · have hR := hR.1 c_11
                  refine lv_iload hx hb dX11_path_61 (lv_at hl 5 rfl) ?_
                  refine lv_iload hx hb dX11_path_63 (lv_at hl 0 rfl) ?_
                  refine lv_icmp_ge (tgt := 81) hx hb dX11_path_65 (by decide) (fun c_12 => ?_) (fun c_12 => ?_)
                  · have hR := hR.1 c_12
                    refine lv_bipush (v := (-2)) hx hb dX11_path_81 (by decide) ?_
                    exact x_iret (w1 := (fun u : XT => (wX cI cJ cB cZ ad u))) t_10 B h hr rfl hR dX11_path_83
                  · have hR := hR.2 c_12
                    refine lv_aload_n hx hb dX11_path_68 rfl (lv_at hl 1 rfl) ?_
                    refine x_get (ci := 11) (C := RX11) (T := TX11) (N := 11) (v := .ref (ad 7)) B h hin11 0 6 rfl rfl (by decide) (by decide +kernel) rfl dX11_path_69 ?_
                    refine x_get (ci := 1) (C := RX1) (T := TX1) (N := 7) (v := .ref (ad 25)) B h hin1 7 5 rfl rfl (by decide) (by decide +kernel) rfl dX11_path_72 ?_
                    refine lv_iload hx hb dX11_path_75 (lv_at hl 5 rfl) ?_
                    obtain ⟨hb_13, hR⟩ := hR
                    refine va_iald (f := (t_10.2.2.1 8)) hx hb B.2.1 h.1 25 0 rfl rfl hb_13 dX11_path_77 ?_
                    refine lv_topi (fun v_13 ev_13 => ?_)
                    have hR := hR v_13 ev_13
                    refine lv_goto (tgt := 83) hx hb dX11_path_78 (by decide) ?_
                    exact x_iret (w1 := (fun u : XT => (wX cI cJ cB cZ ad u))) t_10 B h hr rfl hR dX11_path_83
                · have hR := hR.2 c_11
                  refine lv_iload hx hb dX11_path_58 (lv_at hl 0 rfl) ?_
                  exact x_iret (w1 := (fun u : XT => (wX cI cJ cB cZ ad u))) t_10 B h hr rfl hR dX11_path_60
              · have hR := hR.2 c_8
                refine lv_bipush (v := (-2)) hx hb dX11_path_36 (by decide) ?_
                exact x_iret (w1 := (fun u : XT => (wX cI cJ cB cZ ad u))) t_6 B h hr rfl hR dX11_path_38
            · have hR := hR.2 c_4
              exact ih.2 t_1 li lj H locs ls hR (lv_sub hl [0, 1, 2, 3, 4] rfl) h
      · intro t li lj H locs ls hR hl h
        have hR : wbX11_path_1 (wpX11_path k) k t li lj Q := hR
        unfold wbX11_path_1 at hR
        refine lv_iconst (v := (-1)) hx hb dX11_path_19 (by decide) ?_
        exact x_iret (w1 := (fun u : XT => (wX cI cJ cB cZ ad u))) t B h hr rfl hR dX11_path_20
  exact (main k).1 t _ _ s.heap [] ls hR hl h
def wbX1_start_0 (rec : Nat → XT → (Nat → Int32) → (Nat → Int64) → (XT → Prop) → Prop) (k : Nat) (t : XT) (li : Nat → Int32) (lj : Nat → Int64) (Q : XT → Prop) : Prop :=
  (wqX2_measure k t  (fun t_1 => (∀ t_2 : XT, t_2 = sB t_1 3 (fun _ => 0) → (vp_in (li 1) 64 ∧ (∀ t_3 : XT, t_3 = sB t_2 3 (vp_updL (t_2.2.2.2 3) (li 1).toNatClampNeg 1) → Q t_3)))))
def wpX1_start : Nat → Nat → XT → (Nat → Int32) → (Nat → Int64) → (XT → Prop) → Prop
  | 0, _, _, _, _, _ => False
  | k + 1, 0, t, li, lj, Q => wbX1_start_0 (wpX1_start k) k t li lj Q
  | _ + 1, _, _, _, _, _ => False
def wqX1_start (k : Nat) (t : XT) (a1 : Int32) (Q : XT → Prop) : Prop := wpX1_start k 0 t (uI (fun _ => 0) 1 a1) (fun _ => 0) Q
set_option maxHeartbeats 8000000 in
set_option maxRecDepth 100000 in
theorem wkX1_start (l : Launch) (D : va_G) (cI cJ cB cZ : ClassId) (ad : Nat → Nat) (k : Nat) (t : XT) (a1 : Int32) (Q : XT → Prop) (hR : wqX1_start k t a1 Q) : MetV l yX1_start wsX1_start 3 71 0 0 D (TYS cI cJ cB cZ) (wX cI cJ cB cZ ad t) [.ref (ad 7), .int a1] (fun u => Q u) (fun u : XT => (wX cI cJ cB cZ ad u)) := by
  refine x_startV (ty := .int) (cc := cX1_start) (by decide) rfl (Nat.le_of_ble_eq_true rfl) ?_
  intro p e s m args below meth c A ls B hr hnm h hl
  have hx := B.1.1
  have hb := B.1.2.1
  have hml := B.1.2.2.1
  have hts := B.1.2.2.2.2
  have hown : s.vm.findClass RX1 = some m.cls := B.1.2.2.2.1
  have hin1 : ∀ w ∈ u_ws RX1 TX1 7, w ∈ wsX1_start := by decide +kernel
  have main : ∀ k : Nat, (∀ (t : XT) (li : Nat → Int32) (lj : Nat → Int64) (H : Heap) (locs : List Loc) (ls : Array Slot), wpX1_start k 0 t li lj Q → lv_has ls 2 [(0, .ref (ad 7)), (1, .int (li 1))] → Hp D A s.heap (wX cI cJ cB cZ ad t) H locs → W p l e { frames := 3, cells := 0, slots := 0, locals := 71 } s m args below meth c H locs 0 0 (MQ below (va_Qv (fun u => Q u) (fun u t => xEnd D ((fun u : XT => (wX cI cJ cB cZ ad u)) u) A t) A) args s 0 0 A) (F0 m 0 ls [])) := by
    intro k
    induction k with
    | zero => exact fun _ _ _ _ _ _ hR => False.elim hR
    | succ k ih =>
      intro t li lj H locs ls hR hl h
      have hR : wbX1_start_0 (wpX1_start k) k t li lj Q := hR
      unfold wbX1_start_0 at hR
      refine lv_aload_n hx hb dX1_start_0 rfl (lv_at hl 0 rfl) ?_
      refine x_get (ci := 1) (C := RX1) (T := TX1) (N := 7) (v := .ref (ad 6)) B h hin1 7 2 rfl rfl (by decide) (by decide +kernel) rfl dX1_start_1 ?_
      refine x_cVVF (n := 0) (As := []) (rest := []) B h (wkX2_measure l D cI cJ cB cZ ad k t  _ hR) ⟨⟨_, rfl⟩, by decide +kernel, Nat.le_of_ble_eq_true rfl, Nat.le_of_ble_eq_true rfl⟩ gX1_start_X2_measure (show ((wX cI cJ cB cZ ad t) : va_W)[6]? = some (_, .inr (2, _)) from rfl) rfl rfl hl.1 rfl (Nat.le_of_ble_eq_true rfl) dX1_start_4 ⟨Nat.le_of_ble_eq_true rfl, Nat.le_of_ble_eq_true rfl⟩ (fun t_1 H locs hR h => ?_)
      refine lv_aload_n hx hb dX1_start_7 rfl (lv_at hl 0 rfl) ?_
      refine x_get (ci := 1) (C := RX1) (T := TX1) (N := 7) (v := .ref (ad 23)) B h hin1 7 3 rfl rfl (by decide) (by decide +kernel) rfl dX1_start_8 ?_
      refine lv_lconst (v := 0) hx hb dX1_start_11 (by decide) ?_
      refine x_cSV (n := 2) (pre := ((wX cI cJ cB cZ ad t_1) : va_W).take 23) (post := ((wX cI cJ cB cZ ad t_1) : va_W).drop 24) (wc := [((ad 23), .inl (cJ, 64, .inr (.inl (t_1.2.2.2 3))))]) (As := [.ref (ad 23), .long 0]) (rest := []) B h (c_fillL l D (TYS cI cJ cB cZ) cJ 1 rfl (ad 23) 64 (by decide) (t_1.2.2.2 3) 0) ⟨⟨_, rfl⟩, by decide +kernel, Nat.le_of_ble_eq_true rfl, Nat.le_of_ble_eq_true rfl⟩ gX1_start_J7_fill_d0a16 rfl hl.1 rfl (Nat.le_of_ble_eq_true rfl) dX1_start_12 ⟨Nat.le_of_ble_eq_true rfl, Nat.le_of_ble_eq_true rfl⟩ (fun _ H locs _ h => ?_)
      obtain ⟨t_2, et_2⟩ : ∃ v : XT, v = sB t_1 3 (fun _ => 0) := ⟨_, rfl⟩
      have hR := hR t_2 et_2
      have h : Hp D A s.heap (wX cI cJ cB cZ ad t_2) H locs := by rw [et_2]; exact h
      refine lv_aload_n hx hb dX1_start_15 rfl (lv_at hl 0 rfl) ?_
      refine x_get (ci := 1) (C := RX1) (T := TX1) (N := 7) (v := .ref (ad 23)) B h hin1 7 3 rfl rfl (by decide) (by decide +kernel) rfl dX1_start_16 ?_
      refine lv_iload_n hx hb dX1_start_19 rfl (lv_at hl 1 rfl) ?_
      refine lv_lconst (v := 1) hx hb dX1_start_20 (by decide) ?_
      obtain ⟨hb_3, hR⟩ := hR
      refine z_last (f := (t_2.2.2.2 3)) B h 23 1 rfl rfl hb_3 dX1_start_21 (fun H locs h => ?_)
      obtain ⟨t_3, et_3⟩ : ∃ v : XT, v = sB t_2 3 (vp_updL (t_2.2.2.2 3) (li 1).toNatClampNeg 1) := ⟨_, rfl⟩
      have hR := hR t_3 et_3
      have h : Hp D A s.heap (wX cI cJ cB cZ ad t_3) H locs := by rw [et_3]; exact h
      exact x_vret (w1 := (fun u : XT => (wX cI cJ cB cZ ad u))) t_3 B h hr hR dX1_start_22
  exact (main k) t _ _ s.heap [] ls hR hl h
def wbX1_goDown_0 (rec : Nat → XT → (Nat → Int32) → (Nat → Int64) → (XT → Prop) → Prop) (k : Nat) (t : XT) (li : Nat → Int32) (lj : Nat → Int64) (Q : XT → Prop) : Prop :=
  (wqX6_below k t (li 1) (fun r_1 t_1 => rec 1 t_1 (uI li 5 0) (uI lj 3 r_1) Q))
def wbX1_goDown_1 (rec : Nat → XT → (Nat → Int32) → (Nat → Int64) → (XT → Prop) → Prop) (k : Nat) (t : XT) (li : Nat → Int32) (lj : Nat → Int64) (Q : XT → Prop) : Prop :=
  (((5 : Int32) ≤ (li 5)) → Q t) ∧ (¬ ((5 : Int32) ≤ (li 5)) → (∀ v_3 : Int32, v_3 = (lg_cmp (lj 3) 0) → ((v_3 = 0) → Q t) ∧ (¬ (v_3 = 0) → (wqX11_lowest k (lj 3) (fun r_5 => (∀ v_6 : Int64, v_6 = ((lj 3) - 1) → (∀ v_7 : Int64, v_7 = ((lj 3) &&& v_6) → (vp_in r_5 64 ∧ (∀ v_8 : Int64, v_8 = (t.2.2.2 3) r_5.toNatClampNeg → (((li 2) = 0) → (vp_in (li 1) 64 ∧ (∀ v_10 : Int64, v_10 = (t.2.2.2 3) (li 1).toNatClampNeg → rec 2 t (uI (uI li 6 r_5) 101 r_5) (uI (uI (uI lj 3 v_7) 103 v_10) 102 v_8) Q))) ∧ (¬ ((li 2) = 0) → (vp_in (li 1) 64 ∧ (∀ v_11 : Int64, v_11 = (t.2.2.2 3) (li 1).toNatClampNeg → (wqX9_signOf k t r_5 (li 1) (fun r_12 t_12 => (∀ v_13 : Int64, v_13 = r_12.toInt64 → (∀ v_14 : Int64, v_14 = (v_11 * v_13) → rec 2 t_12 (uI (uI li 6 r_5) 101 r_5) (uI (uI (uI lj 3 v_7) 103 v_14) 102 v_8) Q))))))))))))))))
def wbX1_goDown_2 (rec : Nat → XT → (Nat → Int32) → (Nat → Int64) → (XT → Prop) → Prop) (k : Nat) (t : XT) (li : Nat → Int32) (lj : Nat → Int64) (Q : XT → Prop) : Prop :=
  (∀ v_15 : Int64, v_15 = ((lj 102) + (lj 103)) → (vp_in (li 101) 64 ∧ (∀ t_16 : XT, t_16 = sB t 3 (vp_updL (t.2.2.2 3) (li 101).toNatClampNeg v_15) → (∀ v_17 : Int32, v_17 = (li 5) + Int32.ofInt 1 → rec 1 t_16 (uI li 5 v_17) lj Q))))
def wpX1_goDown : Nat → Nat → XT → (Nat → Int32) → (Nat → Int64) → (XT → Prop) → Prop
  | 0, _, _, _, _, _ => False
  | k + 1, 0, t, li, lj, Q => wbX1_goDown_0 (wpX1_goDown k) k t li lj Q
  | k + 1, 1, t, li, lj, Q => wbX1_goDown_1 (wpX1_goDown k) k t li lj Q
  | k + 1, 2, t, li, lj, Q => wbX1_goDown_2 (wpX1_goDown k) k t li lj Q
  | _ + 1, _, _, _, _, _ => False
def wqX1_goDown (k : Nat) (t : XT) (a1 : Int32) (a2 : Int32) (Q : XT → Prop) : Prop := wpX1_goDown k 0 t (uI (uI (fun _ => 0) 1 a1) 2 a2) (fun _ => 0) Q
set_option maxHeartbeats 8000000 in
set_option maxRecDepth 100000 in
theorem wkX1_goDown (l : Launch) (D : va_G) (cI cJ cB cZ : ClassId) (ad : Nat → Nat) (k : Nat) (t : XT) (a1 : Int32) (a2 : Int32) (Q : XT → Prop) (hR : wqX1_goDown k t a1 a2 Q) : MetV l yX1_goDown wsX1_goDown 2 46 0 0 D (TYS cI cJ cB cZ) (wX cI cJ cB cZ ad t) [.ref (ad 7), .int a1, .int a2] (fun u => Q u) (fun u : XT => (wX cI cJ cB cZ ad u)) := by
  refine x_startV (ty := .int) (cc := cX1_goDown) (by decide) rfl (Nat.le_of_ble_eq_true rfl) ?_
  intro p e s m args below meth c A ls B hr hnm h hl
  have hx := B.1.1
  have hb := B.1.2.1
  have hml := B.1.2.2.1
  have hts := B.1.2.2.2.2
  have hown : s.vm.findClass RX1 = some m.cls := B.1.2.2.2.1
  have hin1 : ∀ w ∈ u_ws RX1 TX1 7, w ∈ wsX1_goDown := by decide +kernel
  have main : ∀ k : Nat, (∀ (t : XT) (li : Nat → Int32) (lj : Nat → Int64) (H : Heap) (locs : List Loc) (ls : Array Slot), wpX1_goDown k 0 t li lj Q → lv_has ls 7 [(0, .ref (ad 7)), (1, .int (li 1)), (2, .int (li 2))] → Hp D A s.heap (wX cI cJ cB cZ ad t) H locs → W p l e { frames := 2, cells := 0, slots := 0, locals := 46 } s m args below meth c H locs 0 0 (MQ below (va_Qv (fun u => Q u) (fun u t => xEnd D ((fun u : XT => (wX cI cJ cB cZ ad u)) u) A t) A) args s 0 0 A) (F0 m 0 ls [])) ∧
      (∀ (t : XT) (li : Nat → Int32) (lj : Nat → Int64) (H : Heap) (locs : List Loc) (ls : Array Slot), wpX1_goDown k 1 t li lj Q → lv_has ls 7 [(0, .ref (ad 7)), (1, .int (li 1)), (2, .int (li 2)), (3, .long (lj 3)), (5, .int (li 5))] → Hp D A s.heap (wX cI cJ cB cZ ad t) H locs → W p l e { frames := 2, cells := 0, slots := 0, locals := 46 } s m args below meth c H locs 0 0 (MQ below (va_Qv (fun u => Q u) (fun u t => xEnd D ((fun u : XT => (wX cI cJ cB cZ ad u)) u) A t) A) args s 0 0 A) (F0 m 12 ls [])) ∧
      (∀ (t : XT) (li : Nat → Int32) (lj : Nat → Int64) (H : Heap) (locs : List Loc) (ls : Array Slot), wpX1_goDown k 2 t li lj Q → lv_has ls 7 [(0, .ref (ad 7)), (1, .int (li 1)), (2, .int (li 2)), (3, .long (lj 3)), (5, .int (li 5)), (6, .int (li 6))] → Hp D A s.heap (wX cI cJ cB cZ ad t) H locs → W p l e { frames := 2, cells := 0, slots := 0, locals := 46 } s m args below meth c H locs 0 0 (MQ below (va_Qv (fun u => Q u) (fun u t => xEnd D ((fun u : XT => (wX cI cJ cB cZ ad u)) u) A t) A) args s 0 0 A) (F0 m 75 ls [.long (lj 103), .long (lj 102), .int (li 101), .ref (ad 23)])) := by
    intro k
    induction k with
    | zero => exact ⟨fun _ _ _ _ _ _ hR => False.elim hR, fun _ _ _ _ _ _ hR => False.elim hR, fun _ _ _ _ _ _ hR => False.elim hR⟩
    | succ k ih =>
      refine ⟨?_, ?_, ?_⟩
      · intro t li lj H locs ls hR hl h
        have hR : wbX1_goDown_0 (wpX1_goDown k) k t li lj Q := hR
        unfold wbX1_goDown_0 at hR
        refine lv_aload_n hx hb dX1_goDown_0 rfl (lv_at hl 0 rfl) ?_
        refine x_get (ci := 1) (C := RX1) (T := TX1) (N := 7) (v := .ref (ad 4)) B h hin1 7 1 rfl rfl (by decide) (by decide +kernel) rfl dX1_goDown_1 ?_
        refine lv_iload_n hx hb dX1_goDown_4 rfl (lv_at hl 1 rfl) ?_
        refine x_cVLF (n := 1) (As := [.int (li 1)]) (rest := []) B h (wkX6_below l D cI cJ cB cZ ad k t (li 1) _ hR) ⟨⟨_, rfl⟩, by decide +kernel, Nat.le_of_ble_eq_true rfl, Nat.le_of_ble_eq_true rfl⟩ gX1_goDown_X6_below (show ((wX cI cJ cB cZ ad t) : va_W)[4]? = some (_, .inr (6, _)) from rfl) rfl rfl hl.1 rfl (Nat.le_of_ble_eq_true rfl) dX1_goDown_5 ⟨Nat.le_of_ble_eq_true rfl, Nat.le_of_ble_eq_true rfl⟩ (fun r_1 t_1 H locs hR h => ?_)
        refine lv_lstore_n (lv' := [(3, .long r_1), (0, .ref (ad 7)), (1, .int (li 1)), (2, .int (li 2))]) hx hb dX1_goDown_8 rfl hl (by decide) rfl (fun ls hl => ?_)
        refine lv_iconst (v := 0) hx hb dX1_goDown_9 (by decide) ?_
        refine lv_istore (lv' := [(5, .int 0), (3, .long r_1), (0, .ref (ad 7)), (1, .int (li 1)), (2, .int (li 2))]) hx hb dX1_goDown_10 hl (by decide) rfl (fun ls hl => ?_)
        exact ih.2.1 t_1 (uI li 5 0) (uI lj 3 r_1) H locs ls hR (lv_sub hl [2, 3, 4, 1, 0] rfl) h
      · intro t li lj H locs ls hR hl h
        have hR : wbX1_goDown_1 (wpX1_goDown k) k t li lj Q := hR
        unfold wbX1_goDown_1 at hR
        refine lv_iload hx hb dX1_goDown_12 (lv_at hl 4 rfl) ?_
        refine lv_iconst (v := 5) hx hb dX1_goDown_14 (by decide) ?_
        refine lv_icmp_ge (tgt := 83) hx hb dX1_goDown_15 (by decide) (fun c_2 => ?_) (fun c_2 => ?_)
        · have hR := hR.1 c_2
          exact x_vret (w1 := (fun u : XT => (wX cI cJ cB cZ ad u))) t B h hr hR dX1_goDown_83
        · have hR := hR.2 c_2
          refine lv_lload_n hx hb dX1_goDown_18 rfl (lv_at hl 3 rfl) ?_
          refine lv_lconst (v := 0) hx hb dX1_goDown_19 (by decide) ?_
          refine W.lcmp hx hb dX1_goDown_20 ?_
          refine lv_topi (fun v_3 ev_3 => ?_)
          have hR := hR v_3 ev_3
          refine lv_if_eq (tgt := 83) hx hb dX1_goDown_21 (by decide) (fun c_4 => ?_) (fun c_4 => ?_)
          · have hR := hR.1 c_4
            exact x_vret (w1 := (fun u : XT => (wX cI cJ cB cZ ad u))) t B h hr hR dX1_goDown_83
          · have hR := hR.2 c_4
            refine lv_lload_n hx hb dX1_goDown_24 rfl (lv_at hl 3 rfl) ?_
            refine x_cNIE (n := 1) (As := [.long (lj 3)]) (rest := []) B h (wkX11_lowest l D cI cJ cB cZ ad k (lj 3) _ hR) ⟨⟨_, rfl⟩, by decide +kernel, Nat.le_of_ble_eq_true rfl, Nat.le_of_ble_eq_true rfl⟩ gX1_goDown_X11_lowest_n74 (by decide +kernel) (by decide +kernel) (host := "MorseDesk") (by decide +kernel) rfl hl.1 rfl (Nat.le_of_ble_eq_true rfl) dX1_goDown_25 ⟨Nat.le_of_ble_eq_true rfl, Nat.le_of_ble_eq_true rfl⟩ (fun r_5 _ H locs hR h => ?_)
            refine lv_istore (lv' := [(6, .int r_5), (0, .ref (ad 7)), (1, .int (li 1)), (2, .int (li 2)), (3, .long (lj 3)), (5, .int (li 5))]) hx hb dX1_goDown_28 hl (by decide) rfl (fun ls hl => ?_)
            refine lv_lload_n hx hb dX1_goDown_30 rfl (lv_at hl 4 rfl) ?_
            refine lv_lload_n hx hb dX1_goDown_31 rfl (lv_at hl 4 rfl) ?_
            refine lv_lconst (v := 1) hx hb dX1_goDown_32 (by decide) ?_
            refine lv_lsub hx hb dX1_goDown_33 ?_
            refine lv_topl (fun v_6 ev_6 => ?_)
            have hR := hR v_6 ev_6
            refine lv_land hx hb dX1_goDown_34 ?_
            refine lv_topl (fun v_7 ev_7 => ?_)
            have hR := hR v_7 ev_7
            refine lv_lstore_n (lv' := [(3, .long v_7), (6, .int r_5), (0, .ref (ad 7)), (1, .int (li 1)), (2, .int (li 2)), (5, .int (li 5))]) hx hb dX1_goDown_35 rfl hl (by decide) rfl (fun ls hl => ?_)
            refine lv_aload_n hx hb dX1_goDown_36 rfl (lv_at hl 2 rfl) ?_
            refine x_get (ci := 1) (C := RX1) (T := TX1) (N := 7) (v := .ref (ad 23)) B h hin1 7 3 rfl rfl (by decide) (by decide +kernel) rfl dX1_goDown_37 ?_
            refine lv_iload hx hb dX1_goDown_40 (lv_at hl 1 rfl) ?_
            refine lv_dup2_11 hx hb dX1_goDown_42 rfl rfl ?_
            obtain ⟨hb_8, hR⟩ := hR
            refine va_lald (f := (t.2.2.2 3)) hx hb B.2.1 h.1 23 1 rfl rfl hb_8 dX1_goDown_43 ?_
            refine lv_topl (fun v_8 ev_8 => ?_)
            have hR := hR v_8 ev_8
            refine lv_iload_n hx hb dX1_goDown_44 rfl (lv_at hl 4 rfl) ?_
            refine lv_if_eq (tgt := 69) hx hb dX1_goDown_45 (by decide) (fun c_9 => ?_) (fun c_9 => ?_)
            · have hR := hR.1 c_9
              refine lv_aload_n hx hb dX1_goDown_69 rfl (lv_at hl 2 rfl) ?_
              refine x_get (ci := 1) (C := RX1) (T := TX1) (N := 7) (v := .ref (ad 23)) B h hin1 7 3 rfl rfl (by decide) (by decide +kernel) rfl dX1_goDown_70 ?_
              refine lv_iload_n hx hb dX1_goDown_73 rfl (lv_at hl 3 rfl) ?_
              obtain ⟨hb_10, hR⟩ := hR
              refine va_lald (f := (t.2.2.2 3)) hx hb B.2.1 h.1 23 1 rfl rfl hb_10 dX1_goDown_74 ?_
              refine lv_topl (fun v_10 ev_10 => ?_)
              have hR := hR v_10 ev_10
              exact ih.2.2 t (uI (uI li 6 r_5) 101 r_5) (uI (uI (uI lj 3 v_7) 103 v_10) 102 v_8) H locs ls hR (lv_sub hl [2, 3, 4, 0, 5, 1] rfl) h
            · have hR := hR.2 c_9
              refine lv_aload_n hx hb dX1_goDown_48 rfl (lv_at hl 2 rfl) ?_
              refine x_get (ci := 1) (C := RX1) (T := TX1) (N := 7) (v := .ref (ad 23)) B h hin1 7 3 rfl rfl (by decide) (by decide +kernel) rfl dX1_goDown_49 ?_
              refine lv_iload_n hx hb dX1_goDown_52 rfl (lv_at hl 3 rfl) ?_
              obtain ⟨hb_11, hR⟩ := hR
              refine va_lald (f := (t.2.2.2 3)) hx hb B.2.1 h.1 23 1 rfl rfl hb_11 dX1_goDown_53 ?_
              refine lv_topl (fun v_11 ev_11 => ?_)
              have hR := hR v_11 ev_11
              refine lv_aload_n hx hb dX1_goDown_54 rfl (lv_at hl 2 rfl) ?_
              refine x_get (ci := 1) (C := RX1) (T := TX1) (N := 7) (v := .ref (ad 3)) B h hin1 7 0 rfl rfl (by decide) (by decide +kernel) rfl dX1_goDown_55 ?_
              refine lv_iload hx hb dX1_goDown_58 (lv_at hl 1 rfl) ?_
              refine lv_iload_n hx hb dX1_goDown_60 rfl (lv_at hl 3 rfl) ?_
              refine x_cVIF (n := 2) (As := [.int r_5, .int (li 1)]) (rest := [.long v_11, .long v_8, .int r_5, .ref (ad 23)]) B h (wkX9_signOf l D cI cJ cB cZ ad k t r_5 (li 1) _ hR) ⟨⟨_, rfl⟩, by decide +kernel, Nat.le_of_ble_eq_true rfl, Nat.le_of_ble_eq_true rfl⟩ gX1_goDown_X9_signOf (show ((wX cI cJ cB cZ ad t) : va_W)[3]? = some (_, .inr (9, _)) from rfl) rfl rfl hl.1 rfl (Nat.le_of_ble_eq_true rfl) dX1_goDown_61 ⟨Nat.le_of_ble_eq_true rfl, Nat.le_of_ble_eq_true rfl⟩ (fun r_12 t_12 H locs hR h => ?_)
              obtain ⟨v_13, ev_13⟩ : ∃ v : Int64, v = r_12.toInt64 := ⟨_, rfl⟩
              have hR := hR v_13 ev_13
              refine lv_i2l (v := v_13) hx hb dX1_goDown_64 ev_13.symm ?_
              refine lv_lmul hx hb dX1_goDown_65 ?_
              refine lv_topl (fun v_14 ev_14 => ?_)
              have hR := hR v_14 ev_14
              refine lv_goto (tgt := 75) hx hb dX1_goDown_66 (by decide) ?_
              exact ih.2.2 t_12 (uI (uI li 6 r_5) 101 r_5) (uI (uI (uI lj 3 v_7) 103 v_14) 102 v_8) H locs ls hR (lv_sub hl [2, 3, 4, 0, 5, 1] rfl) h
      · intro t li lj H locs ls hR hl h
        have hR : wbX1_goDown_2 (wpX1_goDown k) k t li lj Q := hR
        unfold wbX1_goDown_2 at hR
        refine lv_ladd hx hb dX1_goDown_75 ?_
        refine lv_topl (fun v_15 ev_15 => ?_)
        have hR := hR v_15 ev_15
        obtain ⟨hb_16, hR⟩ := hR
        refine z_last (f := (t.2.2.2 3)) B h 23 1 rfl rfl hb_16 dX1_goDown_76 (fun H locs h => ?_)
        obtain ⟨t_16, et_16⟩ : ∃ v : XT, v = sB t 3 (vp_updL (t.2.2.2 3) (li 101).toNatClampNeg v_15) := ⟨_, rfl⟩
        have hR := hR t_16 et_16
        have h : Hp D A s.heap (wX cI cJ cB cZ ad t_16) H locs := by rw [et_16]; exact h
        obtain ⟨v_17, ev_17⟩ : ∃ v : Int32, v = (li 5) + Int32.ofInt 1 := ⟨_, rfl⟩
        have hR := hR v_17 ev_17
        refine lv_iinc (v := v_17) (lv' := [(5, .int v_17), (0, .ref (ad 7)), (1, .int (li 1)), (2, .int (li 2)), (3, .long (lj 3)), (6, .int (li 6))]) hx hb dX1_goDown_77 hl (k := 4) rfl ev_17.symm (by decide) rfl (fun ls hl => ?_)
        refine lv_goto (tgt := 12) hx hb dX1_goDown_80 (by decide) ?_
        exact ih.2.1 t_16 (uI li 5 v_17) lj H locs ls hR (lv_sub hl [1, 2, 3, 4, 0] rfl) h
  exact (main k).1 t _ _ s.heap [] ls hR hl h
def wbX1_goUp_0 (rec : Nat → XT → (Nat → Int32) → (Nat → Int64) → (XT → Prop) → Prop) (k : Nat) (t : XT) (li : Nat → Int32) (lj : Nat → Int64) (Q : XT → Prop) : Prop :=
  (vp_in (li 1) 64 ∧ (∀ v_1 : Int32, v_1 = (t.2.2.1 5) (li 1).toNatClampNeg → ((((li 1) : Int32) < v_1) → (vp_in v_1 64 ∧ (∀ v_3 : Int64, v_3 = (t.2.2.2 3) v_1.toNatClampNeg → (((li 2) = 0) → (vp_in (li 1) 64 ∧ (∀ v_5 : Int64, v_5 = (t.2.2.2 3) (li 1).toNatClampNeg → rec 1 t (uI (uI li 3 v_1) 101 v_1) (uI (uI lj 103 v_5) 102 v_3) Q))) ∧ (¬ ((li 2) = 0) → (vp_in (li 1) 64 ∧ (∀ v_6 : Int64, v_6 = (t.2.2.2 3) (li 1).toNatClampNeg → (∀ v_7 : Int64, v_7 = (-v_6) → (wqX9_signOf k t (li 1) v_1 (fun r_8 t_8 => (∀ v_9 : Int64, v_9 = r_8.toInt64 → (∀ v_10 : Int64, v_10 = (v_7 * v_9) → rec 1 t_8 (uI (uI li 3 v_1) 101 v_1) (uI (uI lj 103 v_10) 102 v_3) Q))))))))))) ∧ (¬ (((li 1) : Int32) < v_1) → Q t)))
def wbX1_goUp_1 (rec : Nat → XT → (Nat → Int32) → (Nat → Int64) → (XT → Prop) → Prop) (k : Nat) (t : XT) (li : Nat → Int32) (lj : Nat → Int64) (Q : XT → Prop) : Prop :=
  (∀ v_11 : Int64, v_11 = ((lj 102) + (lj 103)) → (vp_in (li 101) 64 ∧ (∀ t_12 : XT, t_12 = sB t 3 (vp_updL (t.2.2.2 3) (li 101).toNatClampNeg v_11) → Q t_12)))
def wpX1_goUp : Nat → Nat → XT → (Nat → Int32) → (Nat → Int64) → (XT → Prop) → Prop
  | 0, _, _, _, _, _ => False
  | k + 1, 0, t, li, lj, Q => wbX1_goUp_0 (wpX1_goUp k) k t li lj Q
  | k + 1, 1, t, li, lj, Q => wbX1_goUp_1 (wpX1_goUp k) k t li lj Q
  | _ + 1, _, _, _, _, _ => False
def wqX1_goUp (k : Nat) (t : XT) (a1 : Int32) (a2 : Int32) (Q : XT → Prop) : Prop := wpX1_goUp k 0 t (uI (uI (fun _ => 0) 1 a1) 2 a2) (fun _ => 0) Q
set_option maxHeartbeats 8000000 in
set_option maxRecDepth 100000 in
theorem wkX1_goUp (l : Launch) (D : va_G) (cI cJ cB cZ : ClassId) (ad : Nat → Nat) (k : Nat) (t : XT) (a1 : Int32) (a2 : Int32) (Q : XT → Prop) (hR : wqX1_goUp k t a1 a2 Q) : MetV l yX1_goUp wsX1_goUp 2 46 0 0 D (TYS cI cJ cB cZ) (wX cI cJ cB cZ ad t) [.ref (ad 7), .int a1, .int a2] (fun u => Q u) (fun u : XT => (wX cI cJ cB cZ ad u)) := by
  refine x_startV (ty := .int) (cc := cX1_goUp) (by decide) rfl (Nat.le_of_ble_eq_true rfl) ?_
  intro p e s m args below meth c A ls B hr hnm h hl
  have hx := B.1.1
  have hb := B.1.2.1
  have hml := B.1.2.2.1
  have hts := B.1.2.2.2.2
  have hown : s.vm.findClass RX1 = some m.cls := B.1.2.2.2.1
  have hin1 : ∀ w ∈ u_ws RX1 TX1 7, w ∈ wsX1_goUp := by decide +kernel
  have hin6 : ∀ w ∈ u_ws RX6 TX6 6, w ∈ wsX1_goUp := by decide +kernel
  have main : ∀ k : Nat, (∀ (t : XT) (li : Nat → Int32) (lj : Nat → Int64) (H : Heap) (locs : List Loc) (ls : Array Slot), wpX1_goUp k 0 t li lj Q → lv_has ls 4 [(0, .ref (ad 7)), (1, .int (li 1)), (2, .int (li 2))] → Hp D A s.heap (wX cI cJ cB cZ ad t) H locs → W p l e { frames := 2, cells := 0, slots := 0, locals := 46 } s m args below meth c H locs 0 0 (MQ below (va_Qv (fun u => Q u) (fun u t => xEnd D ((fun u : XT => (wX cI cJ cB cZ ad u)) u) A t) A) args s 0 0 A) (F0 m 0 ls [])) ∧
      (∀ (t : XT) (li : Nat → Int32) (lj : Nat → Int64) (H : Heap) (locs : List Loc) (ls : Array Slot), wpX1_goUp k 1 t li lj Q → lv_has ls 4 [(0, .ref (ad 7)), (1, .int (li 1)), (2, .int (li 2)), (3, .int (li 3))] → Hp D A s.heap (wX cI cJ cB cZ ad t) H locs → W p l e { frames := 2, cells := 0, slots := 0, locals := 46 } s m args below meth c H locs 0 0 (MQ below (va_Qv (fun u => Q u) (fun u t => xEnd D ((fun u : XT => (wX cI cJ cB cZ ad u)) u) A t) A) args s 0 0 A) (F0 m 54 ls [.long (lj 103), .long (lj 102), .int (li 101), .ref (ad 23)])) := by
    intro k
    induction k with
    | zero => exact ⟨fun _ _ _ _ _ _ hR => False.elim hR, fun _ _ _ _ _ _ hR => False.elim hR⟩
    | succ k ih =>
      refine ⟨?_, ?_⟩
      · intro t li lj H locs ls hR hl h
        have hR : wbX1_goUp_0 (wpX1_goUp k) k t li lj Q := hR
        unfold wbX1_goUp_0 at hR
        refine lv_aload_n hx hb dX1_goUp_0 rfl (lv_at hl 0 rfl) ?_
        refine x_get (ci := 1) (C := RX1) (T := TX1) (N := 7) (v := .ref (ad 4)) B h hin1 7 1 rfl rfl (by decide) (by decide +kernel) rfl dX1_goUp_1 ?_
        refine x_get (ci := 6) (C := RX6) (T := TX6) (N := 6) (v := .ref (ad 20)) B h hin6 4 1 rfl rfl (by decide) (by decide +kernel) rfl dX1_goUp_4 ?_
        refine lv_iload_n hx hb dX1_goUp_7 rfl (lv_at hl 1 rfl) ?_
        obtain ⟨hb_1, hR⟩ := hR
        refine va_iald (f := (t.2.2.1 5)) hx hb B.2.1 h.1 20 0 rfl rfl hb_1 dX1_goUp_8 ?_
        refine lv_topi (fun v_1 ev_1 => ?_)
        have hR := hR v_1 ev_1
        refine lv_istore_n (lv' := [(3, .int v_1), (0, .ref (ad 7)), (1, .int (li 1)), (2, .int (li 2))]) hx hb dX1_goUp_9 rfl hl (by decide) rfl (fun ls hl => ?_)
        refine lv_iload_n hx hb dX1_goUp_10 rfl (lv_at hl 0 rfl) ?_
        refine lv_iload_n hx hb dX1_goUp_11 rfl (lv_at hl 2 rfl) ?_
        refine lv_icmp_gt (tgt := 16) hx hb dX1_goUp_12 (by decide) (fun c_2 => ?_) (fun c_2 => ?_)
        · have hR := hR.1 c_2
          refine lv_aload_n hx hb dX1_goUp_16 rfl (lv_at hl 1 rfl) ?_
          refine x_get (ci := 1) (C := RX1) (T := TX1) (N := 7) (v := .ref (ad 23)) B h hin1 7 3 rfl rfl (by decide) (by decide +kernel) rfl dX1_goUp_17 ?_
          refine lv_iload_n hx hb dX1_goUp_20 rfl (lv_at hl 0 rfl) ?_
          refine lv_dup2_11 hx hb dX1_goUp_21 rfl rfl ?_
          obtain ⟨hb_3, hR⟩ := hR
          refine va_lald (f := (t.2.2.2 3)) hx hb B.2.1 h.1 23 1 rfl rfl hb_3 dX1_goUp_22 ?_
          refine lv_topl (fun v_3 ev_3 => ?_)
          have hR := hR v_3 ev_3
          refine lv_iload_n hx hb dX1_goUp_23 rfl (lv_at hl 3 rfl) ?_
          refine lv_if_eq (tgt := 48) hx hb dX1_goUp_24 (by decide) (fun c_4 => ?_) (fun c_4 => ?_)
          · have hR := hR.1 c_4
            refine lv_aload_n hx hb dX1_goUp_48 rfl (lv_at hl 1 rfl) ?_
            refine x_get (ci := 1) (C := RX1) (T := TX1) (N := 7) (v := .ref (ad 23)) B h hin1 7 3 rfl rfl (by decide) (by decide +kernel) rfl dX1_goUp_49 ?_
            refine lv_iload_n hx hb dX1_goUp_52 rfl (lv_at hl 2 rfl) ?_
            obtain ⟨hb_5, hR⟩ := hR
            refine va_lald (f := (t.2.2.2 3)) hx hb B.2.1 h.1 23 1 rfl rfl hb_5 dX1_goUp_53 ?_
            refine lv_topl (fun v_5 ev_5 => ?_)
            have hR := hR v_5 ev_5
            exact ih.2 t (uI (uI li 3 v_1) 101 v_1) (uI (uI lj 103 v_5) 102 v_3) H locs ls hR (lv_sub hl [1, 2, 3, 0] rfl) h
          · have hR := hR.2 c_4
            refine lv_aload_n hx hb dX1_goUp_27 rfl (lv_at hl 1 rfl) ?_
            refine x_get (ci := 1) (C := RX1) (T := TX1) (N := 7) (v := .ref (ad 23)) B h hin1 7 3 rfl rfl (by decide) (by decide +kernel) rfl dX1_goUp_28 ?_
            refine lv_iload_n hx hb dX1_goUp_31 rfl (lv_at hl 2 rfl) ?_
            obtain ⟨hb_6, hR⟩ := hR
            refine va_lald (f := (t.2.2.2 3)) hx hb B.2.1 h.1 23 1 rfl rfl hb_6 dX1_goUp_32 ?_
            refine lv_topl (fun v_6 ev_6 => ?_)
            have hR := hR v_6 ev_6
            refine lv_lneg hx hb dX1_goUp_33 ?_
            refine lv_topl (fun v_7 ev_7 => ?_)
            have hR := hR v_7 ev_7
            refine lv_aload_n hx hb dX1_goUp_34 rfl (lv_at hl 1 rfl) ?_
            refine x_get (ci := 1) (C := RX1) (T := TX1) (N := 7) (v := .ref (ad 3)) B h hin1 7 0 rfl rfl (by decide) (by decide +kernel) rfl dX1_goUp_35 ?_
            refine lv_iload_n hx hb dX1_goUp_38 rfl (lv_at hl 2 rfl) ?_
            refine lv_iload_n hx hb dX1_goUp_39 rfl (lv_at hl 0 rfl) ?_
            refine x_cVIF (n := 2) (As := [.int (li 1), .int v_1]) (rest := [.long v_7, .long v_3, .int v_1, .ref (ad 23)]) B h (wkX9_signOf l D cI cJ cB cZ ad k t (li 1) v_1 _ hR) ⟨⟨_, rfl⟩, by decide +kernel, Nat.le_of_ble_eq_true rfl, Nat.le_of_ble_eq_true rfl⟩ gX1_goUp_X9_signOf (show ((wX cI cJ cB cZ ad t) : va_W)[3]? = some (_, .inr (9, _)) from rfl) rfl rfl hl.1 rfl (Nat.le_of_ble_eq_true rfl) dX1_goUp_40 ⟨Nat.le_of_ble_eq_true rfl, Nat.le_of_ble_eq_true rfl⟩ (fun r_8 t_8 H locs hR h => ?_)
            obtain ⟨v_9, ev_9⟩ : ∃ v : Int64, v = r_8.toInt64 := ⟨_, rfl⟩
            have hR := hR v_9 ev_9
            refine lv_i2l (v := v_9) hx hb dX1_goUp_43 ev_9.symm ?_
            refine lv_lmul hx hb dX1_goUp_44 ?_
            refine lv_topl (fun v_10 ev_10 => ?_)
            have hR := hR v_10 ev_10
            refine lv_goto (tgt := 54) hx hb dX1_goUp_45 (by decide) ?_
            exact ih.2 t_8 (uI (uI li 3 v_1) 101 v_1) (uI (uI lj 103 v_10) 102 v_3) H locs ls hR (lv_sub hl [1, 2, 3, 0] rfl) h
        · have hR := hR.2 c_2
          exact x_vret (w1 := (fun u : XT => (wX cI cJ cB cZ ad u))) t B h hr hR dX1_goUp_15
      · intro t li lj H locs ls hR hl h
        have hR : wbX1_goUp_1 (wpX1_goUp k) k t li lj Q := hR
        unfold wbX1_goUp_1 at hR
        refine lv_ladd hx hb dX1_goUp_54 ?_
        refine lv_topl (fun v_11 ev_11 => ?_)
        have hR := hR v_11 ev_11
        obtain ⟨hb_12, hR⟩ := hR
        refine z_last (f := (t.2.2.2 3)) B h 23 1 rfl rfl hb_12 dX1_goUp_55 (fun H locs h => ?_)
        obtain ⟨t_12, et_12⟩ : ∃ v : XT, v = sB t 3 (vp_updL (t.2.2.2 3) (li 101).toNatClampNeg v_11) := ⟨_, rfl⟩
        have hR := hR t_12 et_12
        have h : Hp D A s.heap (wX cI cJ cB cZ ad t_12) H locs := by rw [et_12]; exact h
        exact x_vret (w1 := (fun u : XT => (wX cI cJ cB cZ ad u))) t_12 B h hr hR dX1_goUp_56
  exact (main k).1 t _ _ s.heap [] ls hR hl h
def wbX1_pour_0 (rec : Nat → XT → (Nat → Int32) → (Nat → Int64) → (XT → Prop) → Prop) (k : Nat) (t : XT) (li : Nat → Int32) (lj : Nat → Int64) (Q : XT → Prop) : Prop :=
  (∀ v_1 : Int32, v_1 = ((t.1 6) - 1) → rec 1 t (uI li 3 v_1) lj Q)
def wbX1_pour_1 (rec : Nat → XT → (Nat → Int32) → (Nat → Int64) → (XT → Prop) → Prop) (k : Nat) (t : XT) (li : Nat → Int32) (lj : Nat → Int64) (Q : XT → Prop) : Prop :=
  (((li 3) < 0) → Q t) ∧ (¬ ((li 3) < 0) → (vp_in (li 3) 64 ∧ (∀ v_3 : Int32, v_3 = (t.2.2.1 7) (li 3).toNatClampNeg → (vp_in v_3 64 ∧ (∀ v_4 : Int64, v_4 = (t.2.2.2 3) v_3.toNatClampNeg → (∀ v_5 : Int32, v_5 = (lg_cmp v_4 0) → ((v_5 = 0) → rec 2 t (uI li 4 v_3) lj Q) ∧ (¬ (v_5 = 0) → (vp_in v_3 64 ∧ (∀ v_7 : Int32, v_7 = (t.2.2.1 3) v_3.toNatClampNeg → ((¬ v_7 = (li 1)) → rec 2 t (uI li 4 v_3) lj Q) ∧ ((v_7 = (li 1)) → (wqX1_goDown k t v_3 (li 2) (fun t_9 => rec 3 t_9 (uI li 4 v_3) lj Q))))))))))))
def wbX1_pour_2 (rec : Nat → XT → (Nat → Int32) → (Nat → Int64) → (XT → Prop) → Prop) (k : Nat) (t : XT) (li : Nat → Int32) (lj : Nat → Int64) (Q : XT → Prop) : Prop :=
  (vp_in (li 4) 64 ∧ (∀ v_10 : Int64, v_10 = (t.2.2.2 3) (li 4).toNatClampNeg → (∀ v_11 : Int32, v_11 = (lg_cmp v_10 0) → ((v_11 = 0) → rec 3 t li lj Q) ∧ (¬ (v_11 = 0) → (vp_in (li 4) 64 ∧ (∀ v_13 : Int32, v_13 = (t.2.2.1 3) (li 4).toNatClampNeg → (∀ v_14 : Int32, v_14 = ((li 1) - 1) → ((¬ v_13 = v_14) → rec 3 t li lj Q) ∧ ((v_13 = v_14) → (wqX1_goUp k t (li 4) (li 2) (fun t_16 => rec 3 t_16 li lj Q))))))))))
def wbX1_pour_3 (rec : Nat → XT → (Nat → Int32) → (Nat → Int64) → (XT → Prop) → Prop) (k : Nat) (t : XT) (li : Nat → Int32) (lj : Nat → Int64) (Q : XT → Prop) : Prop :=
  (∀ v_17 : Int32, v_17 = (li 3) + Int32.ofInt (-1) → rec 1 t (uI li 3 v_17) lj Q)
def wpX1_pour : Nat → Nat → XT → (Nat → Int32) → (Nat → Int64) → (XT → Prop) → Prop
  | 0, _, _, _, _, _ => False
  | k + 1, 0, t, li, lj, Q => wbX1_pour_0 (wpX1_pour k) k t li lj Q
  | k + 1, 1, t, li, lj, Q => wbX1_pour_1 (wpX1_pour k) k t li lj Q
  | k + 1, 2, t, li, lj, Q => wbX1_pour_2 (wpX1_pour k) k t li lj Q
  | k + 1, 3, t, li, lj, Q => wbX1_pour_3 (wpX1_pour k) k t li lj Q
  | _ + 1, _, _, _, _, _ => False
def wqX1_pour (k : Nat) (t : XT) (a1 : Int32) (a2 : Int32) (Q : XT → Prop) : Prop := wpX1_pour k 0 t (uI (uI (fun _ => 0) 1 a1) 2 a2) (fun _ => 0) Q
set_option maxHeartbeats 8000000 in
set_option maxRecDepth 100000 in
theorem wkX1_pour (l : Launch) (D : va_G) (cI cJ cB cZ : ClassId) (ad : Nat → Nat) (k : Nat) (t : XT) (a1 : Int32) (a2 : Int32) (Q : XT → Prop) (hR : wqX1_pour k t a1 a2 Q) : MetV l yX1_pour wsX1_pour 3 72 0 0 D (TYS cI cJ cB cZ) (wX cI cJ cB cZ ad t) [.ref (ad 7), .int a1, .int a2] (fun u => Q u) (fun u : XT => (wX cI cJ cB cZ ad u)) := by
  refine x_startV (ty := .int) (cc := cX1_pour) (by decide) rfl (Nat.le_of_ble_eq_true rfl) ?_
  intro p e s m args below meth c A ls B hr hnm h hl
  have hx := B.1.1
  have hb := B.1.2.1
  have hml := B.1.2.2.1
  have hts := B.1.2.2.2.2
  have hown : s.vm.findClass RX1 = some m.cls := B.1.2.2.2.1
  have hin1 : ∀ w ∈ u_ws RX1 TX1 7, w ∈ wsX1_pour := by decide +kernel
  have hin2 : ∀ w ∈ u_ws RX2 TX2 6, w ∈ wsX1_pour := by decide +kernel
  have hin9 : ∀ w ∈ u_ws RX9 TX9 7, w ∈ wsX1_pour := by decide +kernel
  have main : ∀ k : Nat, (∀ (t : XT) (li : Nat → Int32) (lj : Nat → Int64) (H : Heap) (locs : List Loc) (ls : Array Slot), wpX1_pour k 0 t li lj Q → lv_has ls 5 [(0, .ref (ad 7)), (1, .int (li 1)), (2, .int (li 2))] → Hp D A s.heap (wX cI cJ cB cZ ad t) H locs → W p l e { frames := 3, cells := 0, slots := 0, locals := 72 } s m args below meth c H locs 0 0 (MQ below (va_Qv (fun u => Q u) (fun u t => xEnd D ((fun u : XT => (wX cI cJ cB cZ ad u)) u) A t) A) args s 0 0 A) (F0 m 0 ls [])) ∧
      (∀ (t : XT) (li : Nat → Int32) (lj : Nat → Int64) (H : Heap) (locs : List Loc) (ls : Array Slot), wpX1_pour k 1 t li lj Q → lv_has ls 5 [(0, .ref (ad 7)), (1, .int (li 1)), (2, .int (li 2)), (3, .int (li 3))] → Hp D A s.heap (wX cI cJ cB cZ ad t) H locs → W p l e { frames := 3, cells := 0, slots := 0, locals := 72 } s m args below meth c H locs 0 0 (MQ below (va_Qv (fun u => Q u) (fun u t => xEnd D ((fun u : XT => (wX cI cJ cB cZ ad u)) u) A t) A) args s 0 0 A) (F0 m 10 ls [])) ∧
      (∀ (t : XT) (li : Nat → Int32) (lj : Nat → Int64) (H : Heap) (locs : List Loc) (ls : Array Slot), wpX1_pour k 2 t li lj Q → lv_has ls 5 [(0, .ref (ad 7)), (1, .int (li 1)), (2, .int (li 2)), (3, .int (li 3)), (4, .int (li 4))] → Hp D A s.heap (wX cI cJ cB cZ ad t) H locs → W p l e { frames := 3, cells := 0, slots := 0, locals := 72 } s m args below meth c H locs 0 0 (MQ below (va_Qv (fun u => Q u) (fun u t => xEnd D ((fun u : XT => (wX cI cJ cB cZ ad u)) u) A t) A) args s 0 0 A) (F0 m 61 ls [])) ∧
      (∀ (t : XT) (li : Nat → Int32) (lj : Nat → Int64) (H : Heap) (locs : List Loc) (ls : Array Slot), wpX1_pour k 3 t li lj Q → lv_has ls 5 [(0, .ref (ad 7)), (1, .int (li 1)), (2, .int (li 2)), (3, .int (li 3)), (4, .int (li 4))] → Hp D A s.heap (wX cI cJ cB cZ ad t) H locs → W p l e { frames := 3, cells := 0, slots := 0, locals := 72 } s m args below meth c H locs 0 0 (MQ below (va_Qv (fun u => Q u) (fun u t => xEnd D ((fun u : XT => (wX cI cJ cB cZ ad u)) u) A t) A) args s 0 0 A) (F0 m 96 ls [])) := by
    intro k
    induction k with
    | zero => exact ⟨fun _ _ _ _ _ _ hR => False.elim hR, fun _ _ _ _ _ _ hR => False.elim hR, fun _ _ _ _ _ _ hR => False.elim hR, fun _ _ _ _ _ _ hR => False.elim hR⟩
    | succ k ih =>
      refine ⟨?_, ?_, ?_, ?_⟩
      · intro t li lj H locs ls hR hl h
        have hR : wbX1_pour_0 (wpX1_pour k) k t li lj Q := hR
        unfold wbX1_pour_0 at hR
        refine lv_aload_n hx hb dX1_pour_0 rfl (lv_at hl 0 rfl) ?_
        refine x_get (ci := 1) (C := RX1) (T := TX1) (N := 7) (v := .ref (ad 6)) B h hin1 7 2 rfl rfl (by decide) (by decide +kernel) rfl dX1_pour_1 ?_
        refine x_get (ci := 2) (C := RX2) (T := TX2) (N := 6) (v := .int (t.1 6)) B h hin2 6 4 rfl rfl (by decide) (by decide +kernel) rfl dX1_pour_4 ?_
        refine lv_iconst (v := 1) hx hb dX1_pour_7 (by decide) ?_
        refine lv_isub hx hb dX1_pour_8 ?_
        refine lv_topi (fun v_1 ev_1 => ?_)
        have hR := hR v_1 ev_1
        refine lv_istore_n (lv' := [(3, .int v_1), (0, .ref (ad 7)), (1, .int (li 1)), (2, .int (li 2))]) hx hb dX1_pour_9 rfl hl (by decide) rfl (fun ls hl => ?_)
        exact ih.2.1 t (uI li 3 v_1) lj H locs ls hR (lv_sub hl [1, 2, 3, 0] rfl) h
      · intro t li lj H locs ls hR hl h
        have hR : wbX1_pour_1 (wpX1_pour k) k t li lj Q := hR
        unfold wbX1_pour_1 at hR
        refine lv_iload_n hx hb dX1_pour_10 rfl (lv_at hl 3 rfl) ?_
        refine lv_if_lt (tgt := 102) hx hb dX1_pour_11 (by decide) (fun c_2 => ?_) (fun c_2 => ?_)
        · have hR := hR.1 c_2
          exact x_vret (w1 := (fun u : XT => (wX cI cJ cB cZ ad u))) t B h hr hR dX1_pour_102
        · have hR := hR.2 c_2
          refine lv_aload_n hx hb dX1_pour_14 rfl (lv_at hl 0 rfl) ?_
          refine x_get (ci := 1) (C := RX1) (T := TX1) (N := 7) (v := .ref (ad 6)) B h hin1 7 2 rfl rfl (by decide) (by decide +kernel) rfl dX1_pour_15 ?_
          refine x_get (ci := 2) (C := RX2) (T := TX2) (N := 6) (v := .ref (ad 22)) B h hin2 6 3 rfl rfl (by decide) (by decide +kernel) rfl dX1_pour_18 ?_
          refine lv_iload_n hx hb dX1_pour_21 rfl (lv_at hl 3 rfl) ?_
          obtain ⟨hb_3, hR⟩ := hR
          refine va_iald (f := (t.2.2.1 7)) hx hb B.2.1 h.1 22 0 rfl rfl hb_3 dX1_pour_22 ?_
          refine lv_topi (fun v_3 ev_3 => ?_)
          have hR := hR v_3 ev_3
          refine lv_istore (lv' := [(4, .int v_3), (0, .ref (ad 7)), (1, .int (li 1)), (2, .int (li 2)), (3, .int (li 3))]) hx hb dX1_pour_23 hl (by decide) rfl (fun ls hl => ?_)
          refine lv_aload_n hx hb dX1_pour_25 rfl (lv_at hl 1 rfl) ?_
          refine x_get (ci := 1) (C := RX1) (T := TX1) (N := 7) (v := .ref (ad 23)) B h hin1 7 3 rfl rfl (by decide) (by decide +kernel) rfl dX1_pour_26 ?_
          refine lv_iload hx hb dX1_pour_29 (lv_at hl 0 rfl) ?_
          obtain ⟨hb_4, hR⟩ := hR
          refine va_lald (f := (t.2.2.2 3)) hx hb B.2.1 h.1 23 1 rfl rfl hb_4 dX1_pour_31 ?_
          refine lv_topl (fun v_4 ev_4 => ?_)
          have hR := hR v_4 ev_4
          refine lv_lconst (v := 0) hx hb dX1_pour_32 (by decide) ?_
          refine W.lcmp hx hb dX1_pour_33 ?_
          refine lv_topi (fun v_5 ev_5 => ?_)
          have hR := hR v_5 ev_5
          refine lv_if_eq (tgt := 61) hx hb dX1_pour_34 (by decide) (fun c_6 => ?_) (fun c_6 => ?_)
          · have hR := hR.1 c_6
            exact ih.2.2.1 t (uI li 4 v_3) lj H locs ls hR (lv_sub hl [1, 2, 3, 4, 0] rfl) h
          · have hR := hR.2 c_6
            refine lv_aload_n hx hb dX1_pour_37 rfl (lv_at hl 1 rfl) ?_
            refine x_get (ci := 1) (C := RX1) (T := TX1) (N := 7) (v := .ref (ad 3)) B h hin1 7 0 rfl rfl (by decide) (by decide +kernel) rfl dX1_pour_38 ?_
            refine x_get (ci := 9) (C := RX9) (T := TX9) (N := 7) (v := .ref (ad 15)) B h hin9 3 2 rfl rfl (by decide) (by decide +kernel) rfl dX1_pour_41 ?_
            refine lv_iload hx hb dX1_pour_44 (lv_at hl 0 rfl) ?_
            obtain ⟨hb_7, hR⟩ := hR
            refine va_iald (f := (t.2.2.1 3)) hx hb B.2.1 h.1 15 0 rfl rfl hb_7 dX1_pour_46 ?_
            refine lv_topi (fun v_7 ev_7 => ?_)
            have hR := hR v_7 ev_7
            refine lv_iload_n hx hb dX1_pour_47 rfl (lv_at hl 2 rfl) ?_
            refine lv_icmp_ne (tgt := 61) hx hb dX1_pour_48 (by decide) (fun c_8 => ?_) (fun c_8 => ?_)
            · have hR := hR.1 c_8
              exact ih.2.2.1 t (uI li 4 v_3) lj H locs ls hR (lv_sub hl [1, 2, 3, 4, 0] rfl) h
            · have hR := hR.2 c_8
              refine lv_aload_n hx hb dX1_pour_51 rfl (lv_at hl 1 rfl) ?_
              refine lv_iload hx hb dX1_pour_52 (lv_at hl 0 rfl) ?_
              refine lv_iload_n hx hb dX1_pour_54 rfl (lv_at hl 3 rfl) ?_
              refine x_cVVF (n := 2) (As := [.int v_3, .int (li 2)]) (rest := []) B h (wkX1_goDown l D cI cJ cB cZ ad k t v_3 (li 2) _ hR) ⟨⟨_, rfl⟩, by decide +kernel, Nat.le_of_ble_eq_true rfl, Nat.le_of_ble_eq_true rfl⟩ gX1_pour_X1_goDown (show ((wX cI cJ cB cZ ad t) : va_W)[7]? = some (_, .inr (1, _)) from rfl) rfl rfl hl.1 rfl (Nat.le_of_ble_eq_true rfl) dX1_pour_55 ⟨Nat.le_of_ble_eq_true rfl, Nat.le_of_ble_eq_true rfl⟩ (fun t_9 H locs hR h => ?_)
              refine lv_goto (tgt := 96) hx hb dX1_pour_58 (by decide) ?_
              exact ih.2.2.2 t_9 (uI li 4 v_3) lj H locs ls hR (lv_sub hl [1, 2, 3, 4, 0] rfl) h
      · intro t li lj H locs ls hR hl h
        have hR : wbX1_pour_2 (wpX1_pour k) k t li lj Q := hR
        unfold wbX1_pour_2 at hR
        refine lv_aload_n hx hb dX1_pour_61 rfl (lv_at hl 0 rfl) ?_
        refine x_get (ci := 1) (C := RX1) (T := TX1) (N := 7) (v := .ref (ad 23)) B h hin1 7 3 rfl rfl (by decide) (by decide +kernel) rfl dX1_pour_62 ?_
        refine lv_iload hx hb dX1_pour_65 (lv_at hl 4 rfl) ?_
        obtain ⟨hb_10, hR⟩ := hR
        refine va_lald (f := (t.2.2.2 3)) hx hb B.2.1 h.1 23 1 rfl rfl hb_10 dX1_pour_67 ?_
        refine lv_topl (fun v_10 ev_10 => ?_)
        have hR := hR v_10 ev_10
        refine lv_lconst (v := 0) hx hb dX1_pour_68 (by decide) ?_
        refine W.lcmp hx hb dX1_pour_69 ?_
        refine lv_topi (fun v_11 ev_11 => ?_)
        have hR := hR v_11 ev_11
        refine lv_if_eq (tgt := 96) hx hb dX1_pour_70 (by decide) (fun c_12 => ?_) (fun c_12 => ?_)
        · have hR := hR.1 c_12
          exact ih.2.2.2 t li lj H locs ls hR (lv_sub hl [0, 1, 2, 3, 4] rfl) h
        · have hR := hR.2 c_12
          refine lv_aload_n hx hb dX1_pour_73 rfl (lv_at hl 0 rfl) ?_
          refine x_get (ci := 1) (C := RX1) (T := TX1) (N := 7) (v := .ref (ad 3)) B h hin1 7 0 rfl rfl (by decide) (by decide +kernel) rfl dX1_pour_74 ?_
          refine x_get (ci := 9) (C := RX9) (T := TX9) (N := 7) (v := .ref (ad 15)) B h hin9 3 2 rfl rfl (by decide) (by decide +kernel) rfl dX1_pour_77 ?_
          refine lv_iload hx hb dX1_pour_80 (lv_at hl 4 rfl) ?_
          obtain ⟨hb_13, hR⟩ := hR
          refine va_iald (f := (t.2.2.1 3)) hx hb B.2.1 h.1 15 0 rfl rfl hb_13 dX1_pour_82 ?_
          refine lv_topi (fun v_13 ev_13 => ?_)
          have hR := hR v_13 ev_13
          refine lv_iload_n hx hb dX1_pour_83 rfl (lv_at hl 1 rfl) ?_
          refine lv_iconst (v := 1) hx hb dX1_pour_84 (by decide) ?_
          refine lv_isub hx hb dX1_pour_85 ?_
          refine lv_topi (fun v_14 ev_14 => ?_)
          have hR := hR v_14 ev_14
          refine lv_icmp_ne (tgt := 96) hx hb dX1_pour_86 (by decide) (fun c_15 => ?_) (fun c_15 => ?_)
          · have hR := hR.1 c_15
            exact ih.2.2.2 t li lj H locs ls hR (lv_sub hl [0, 1, 2, 3, 4] rfl) h
          · have hR := hR.2 c_15
            refine lv_aload_n hx hb dX1_pour_89 rfl (lv_at hl 0 rfl) ?_
            refine lv_iload hx hb dX1_pour_90 (lv_at hl 4 rfl) ?_
            refine lv_iload_n hx hb dX1_pour_92 rfl (lv_at hl 2 rfl) ?_
            refine x_cVVF (n := 2) (As := [.int (li 4), .int (li 2)]) (rest := []) B h (wkX1_goUp l D cI cJ cB cZ ad k t (li 4) (li 2) _ hR) ⟨⟨_, rfl⟩, by decide +kernel, Nat.le_of_ble_eq_true rfl, Nat.le_of_ble_eq_true rfl⟩ gX1_pour_X1_goUp (show ((wX cI cJ cB cZ ad t) : va_W)[7]? = some (_, .inr (1, _)) from rfl) rfl rfl hl.1 rfl (Nat.le_of_ble_eq_true rfl) dX1_pour_93 ⟨Nat.le_of_ble_eq_true rfl, Nat.le_of_ble_eq_true rfl⟩ (fun t_16 H locs hR h => ?_)
            exact ih.2.2.2 t_16 li lj H locs ls hR (lv_sub hl [0, 1, 2, 3, 4] rfl) h
      · intro t li lj H locs ls hR hl h
        have hR : wbX1_pour_3 (wpX1_pour k) k t li lj Q := hR
        unfold wbX1_pour_3 at hR
        obtain ⟨v_17, ev_17⟩ : ∃ v : Int32, v = (li 3) + Int32.ofInt (-1) := ⟨_, rfl⟩
        have hR := hR v_17 ev_17
        refine lv_iinc (v := v_17) (lv' := [(3, .int v_17), (0, .ref (ad 7)), (1, .int (li 1)), (2, .int (li 2)), (4, .int (li 4))]) hx hb dX1_pour_96 hl (k := 3) rfl ev_17.symm (by decide) rfl (fun ls hl => ?_)
        refine lv_goto (tgt := 10) hx hb dX1_pour_99 (by decide) ?_
        exact ih.2.1 t (uI li 3 v_17) lj H locs ls hR (lv_sub hl [1, 2, 3, 0] rfl) h
  exact (main k).1 t _ _ s.heap [] ls hR hl h
