def wbX12_collapse_0 (rec : Nat → XT → (Nat → Int32) → (Nat → Int64) → (Int32 → XT → Prop) → Prop) (k : Nat) (t : XT) (li : Nat → Int32) (lj : Nat → Int64) (Q : Int32 → XT → Prop) : Prop :=
  (wqX12_isThere k t (li 1) (fun r_1 t_1 => ((¬ r_1 = 0) → (wqX12_isFreeFace k t_1 (li 1) (fun r_3 t_3 => ((¬ r_3 = 0) → (wqX12_remembers k t_3  (fun t_5 => (wqX12_overOf k t_5 (li 1) (fun r_6 t_6 => (wqX12_frees k t_6 (li 1) (fun t_7 => (wqX12_frees k t_7 r_6 (fun t_8 => (vp_in (li 1) 60 ∧ (∀ t_9 : XT, t_9 = sA t_8 5 (upd (t_8.2.2.1 5) (li 1).toNatClampNeg (vp_nar .boolean 1)) → (vp_in r_6 60 ∧ (∀ t_10 : XT, t_10 = sA t_9 5 (upd (t_9.2.2.1 5) r_6.toNatClampNeg (vp_nar .boolean 1)) → (wqX12_thereMany k t_10  (fun r_11 t_11 => Q r_11 t_11))))))))))))))) ∧ ((r_3 = 0) → Q (-2) t_3)))) ∧ ((r_1 = 0) → Q (-1) t_1)))
def wpX12_collapse : Nat → Nat → XT → (Nat → Int32) → (Nat → Int64) → (Int32 → XT → Prop) → Prop
  | 0, _, _, _, _, _ => False
  | k + 1, 0, t, li, lj, Q => wbX12_collapse_0 (wpX12_collapse k) k t li lj Q
  | _ + 1, _, _, _, _, _ => False
def wqX12_collapse (k : Nat) (t : XT) (a1 : Int32) (Q : Int32 → XT → Prop) : Prop := wpX12_collapse k 0 t (uI (fun _ => 0) 1 a1) (fun _ => 0) Q
set_option maxHeartbeats 8000000 in
set_option maxRecDepth 100000 in
theorem wkX12_collapse (l : Launch) (D : va_G) (cI cJ cB cZ : ClassId) (bd : Nat → Nat) (k : Nat) (t : XT) (a1 : Int32) (Q : Int32 → XT → Prop) (hR : wqX12_collapse k t a1 Q) : MetI l yX12_collapse wsX12_collapse 6 129 0 0 D (TYS cI cJ cB cZ) (wM cI cJ cB cZ bd t) [.ref (bd 0), .int a1] (fun r u => Q r u) (fun u : XT => (wM cI cJ cB cZ bd u)) := by
  refine x_startI (ty := .int) (cc := cX12_collapse) (by decide) rfl (Nat.le_of_ble_eq_true rfl) ?_
  intro p e s m args below meth c A ls B hr hnm h hl
  have hx := B.1.1
  have hb := B.1.2.1
  have hml := B.1.2.2.1
  have hts := B.1.2.2.2.2
  have hown : s.vm.findClass RX12 = some m.cls := B.1.2.2.2.1
  have hin12 : ∀ w ∈ u_ws RX12 TX12 31, w ∈ wsX12_collapse := by decide +kernel
  have main : ∀ k : Nat, (∀ (t : XT) (li : Nat → Int32) (lj : Nat → Int64) (H : Heap) (locs : List Loc) (ls : Array Slot), wpX12_collapse k 0 t li lj Q → lv_has ls 3 [(0, .ref (bd 0)), (1, .int (li 1))] → Hp D A s.heap (wM cI cJ cB cZ bd t) H locs → W p l e { frames := 6, cells := 0, slots := 0, locals := 129 } s m args below meth c H locs 0 0 (MQ below (va_Qi (fun r u => Q r u) (fun u t => xEnd D ((fun u : XT => (wM cI cJ cB cZ bd u)) u) A t) A) args s 0 0 A) (F0 m 0 ls [])) := by
    intro k
    induction k with
    | zero => exact fun _ _ _ _ _ _ hR => False.elim hR
    | succ k ih =>
      intro t li lj H locs ls hR hl h
      have hR : wbX12_collapse_0 (wpX12_collapse k) k t li lj Q := hR
      unfold wbX12_collapse_0 at hR
      refine lv_aload_n hx hb dX12_collapse_0 rfl (lv_at hl 0 rfl) ?_
      refine lv_iload_n hx hb dX12_collapse_1 rfl (lv_at hl 1 rfl) ?_
      refine x_cVIF (n := 1) (As := [.int (li 1)]) (rest := []) B h (wkX12_isThere l D cI cJ cB cZ bd k t (li 1) _ hR) ⟨⟨_, rfl⟩, by decide +kernel, Nat.le_of_ble_eq_true rfl, Nat.le_of_ble_eq_true rfl⟩ gX12_collapse_X12_isThere (show ((wM cI cJ cB cZ bd t) : va_W)[0]? = some (_, .inr (12, _)) from rfl) rfl rfl hl.1 rfl (Nat.le_of_ble_eq_true rfl) dX12_collapse_2 ⟨Nat.le_of_ble_eq_true rfl, Nat.le_of_ble_eq_true rfl⟩ (fun r_1 t_1 H locs hR h => ?_)
      refine lv_if_ne (tgt := 10) hx hb dX12_collapse_5 (by decide) (fun c_2 => ?_) (fun c_2 => ?_)
      · have hR := hR.1 c_2
        refine lv_aload_n hx hb dX12_collapse_10 rfl (lv_at hl 0 rfl) ?_
        refine lv_iload_n hx hb dX12_collapse_11 rfl (lv_at hl 1 rfl) ?_
        refine x_cVIF (n := 1) (As := [.int (li 1)]) (rest := []) B h (wkX12_isFreeFace l D cI cJ cB cZ bd k t_1 (li 1) _ hR) ⟨⟨_, rfl⟩, by decide +kernel, Nat.le_of_ble_eq_true rfl, Nat.le_of_ble_eq_true rfl⟩ gX12_collapse_X12_isFreeFace (show ((wM cI cJ cB cZ bd t_1) : va_W)[0]? = some (_, .inr (12, _)) from rfl) rfl rfl hl.1 rfl (Nat.le_of_ble_eq_true rfl) dX12_collapse_12 ⟨Nat.le_of_ble_eq_true rfl, Nat.le_of_ble_eq_true rfl⟩ (fun r_3 t_3 H locs hR h => ?_)
        refine lv_if_ne (tgt := 21) hx hb dX12_collapse_15 (by decide) (fun c_4 => ?_) (fun c_4 => ?_)
        · have hR := hR.1 c_4
          refine lv_aload_n hx hb dX12_collapse_21 rfl (lv_at hl 0 rfl) ?_
          refine x_cVVF (n := 0) (As := []) (rest := []) B h (wkX12_remembers l D cI cJ cB cZ bd k t_3  _ hR) ⟨⟨_, rfl⟩, by decide +kernel, Nat.le_of_ble_eq_true rfl, Nat.le_of_ble_eq_true rfl⟩ gX12_collapse_X12_remembers (show ((wM cI cJ cB cZ bd t_3) : va_W)[0]? = some (_, .inr (12, _)) from rfl) rfl rfl hl.1 rfl (Nat.le_of_ble_eq_true rfl) dX12_collapse_22 ⟨Nat.le_of_ble_eq_true rfl, Nat.le_of_ble_eq_true rfl⟩ (fun t_5 H locs hR h => ?_)
          refine lv_aload_n hx hb dX12_collapse_25 rfl (lv_at hl 0 rfl) ?_
          refine lv_iload_n hx hb dX12_collapse_26 rfl (lv_at hl 1 rfl) ?_
          refine x_cVIF (n := 1) (As := [.int (li 1)]) (rest := []) B h (wkX12_overOf l D cI cJ cB cZ bd k t_5 (li 1) _ hR) ⟨⟨_, rfl⟩, by decide +kernel, Nat.le_of_ble_eq_true rfl, Nat.le_of_ble_eq_true rfl⟩ gX12_collapse_X12_overOf (show ((wM cI cJ cB cZ bd t_5) : va_W)[0]? = some (_, .inr (12, _)) from rfl) rfl rfl hl.1 rfl (Nat.le_of_ble_eq_true rfl) dX12_collapse_27 ⟨Nat.le_of_ble_eq_true rfl, Nat.le_of_ble_eq_true rfl⟩ (fun r_6 t_6 H locs hR h => ?_)
          refine lv_istore_n (lv' := [(2, .int r_6), (0, .ref (bd 0)), (1, .int (li 1))]) hx hb dX12_collapse_30 rfl hl (by decide) rfl (fun ls hl => ?_)
          refine lv_aload_n hx hb dX12_collapse_31 rfl (lv_at hl 1 rfl) ?_
          refine lv_iload_n hx hb dX12_collapse_32 rfl (lv_at hl 2 rfl) ?_
          refine x_cVVF (n := 1) (As := [.int (li 1)]) (rest := []) B h (wkX12_frees l D cI cJ cB cZ bd k t_6 (li 1) _ hR) ⟨⟨_, rfl⟩, by decide +kernel, Nat.le_of_ble_eq_true rfl, Nat.le_of_ble_eq_true rfl⟩ gX12_collapse_X12_frees (show ((wM cI cJ cB cZ bd t_6) : va_W)[0]? = some (_, .inr (12, _)) from rfl) rfl rfl hl.1 rfl (Nat.le_of_ble_eq_true rfl) dX12_collapse_33 ⟨Nat.le_of_ble_eq_true rfl, Nat.le_of_ble_eq_true rfl⟩ (fun t_7 H locs hR h => ?_)
          refine lv_aload_n hx hb dX12_collapse_36 rfl (lv_at hl 1 rfl) ?_
          refine lv_iload_n hx hb dX12_collapse_37 rfl (lv_at hl 0 rfl) ?_
          refine x_cVVF (n := 1) (As := [.int r_6]) (rest := []) B h (wkX12_frees l D cI cJ cB cZ bd k t_7 r_6 _ hR) ⟨⟨_, rfl⟩, by decide +kernel, Nat.le_of_ble_eq_true rfl, Nat.le_of_ble_eq_true rfl⟩ gX12_collapse_X12_frees (show ((wM cI cJ cB cZ bd t_7) : va_W)[0]? = some (_, .inr (12, _)) from rfl) rfl rfl hl.1 rfl (Nat.le_of_ble_eq_true rfl) dX12_collapse_38 ⟨Nat.le_of_ble_eq_true rfl, Nat.le_of_ble_eq_true rfl⟩ (fun t_8 H locs hR h => ?_)
          refine lv_aload_n hx hb dX12_collapse_41 rfl (lv_at hl 1 rfl) ?_
          refine x_get (ci := 12) (C := RX12) (T := TX12) (N := 31) (v := .ref (bd 6)) B h hin12 0 9 rfl rfl (by decide) (by decide +kernel) rfl dX12_collapse_42 ?_
          refine lv_iload_n hx hb dX12_collapse_45 rfl (lv_at hl 2 rfl) ?_
          refine lv_iconst (v := 1) hx hb dX12_collapse_46 (by decide) ?_
          obtain ⟨hb_9, hR⟩ := hR
          refine z_zast (f := (t_8.2.2.1 5)) B h 6 3 rfl rfl hb_9 dX12_collapse_47 (fun H locs h => ?_)
          obtain ⟨t_9, et_9⟩ : ∃ v : XT, v = sA t_8 5 (upd (t_8.2.2.1 5) (li 1).toNatClampNeg (vp_nar .boolean 1)) := ⟨_, rfl⟩
          have hR := hR t_9 et_9
          have h : Hp D A s.heap (wM cI cJ cB cZ bd t_9) H locs := by rw [et_9]; exact h
          refine lv_aload_n hx hb dX12_collapse_48 rfl (lv_at hl 1 rfl) ?_
          refine x_get (ci := 12) (C := RX12) (T := TX12) (N := 31) (v := .ref (bd 6)) B h hin12 0 9 rfl rfl (by decide) (by decide +kernel) rfl dX12_collapse_49 ?_
          refine lv_iload_n hx hb dX12_collapse_52 rfl (lv_at hl 0 rfl) ?_
          refine lv_iconst (v := 1) hx hb dX12_collapse_53 (by decide) ?_
          obtain ⟨hb_10, hR⟩ := hR
          refine z_zast (f := (t_9.2.2.1 5)) B h 6 3 rfl rfl hb_10 dX12_collapse_54 (fun H locs h => ?_)
          obtain ⟨t_10, et_10⟩ : ∃ v : XT, v = sA t_9 5 (upd (t_9.2.2.1 5) r_6.toNatClampNeg (vp_nar .boolean 1)) := ⟨_, rfl⟩
          have hR := hR t_10 et_10
          have h : Hp D A s.heap (wM cI cJ cB cZ bd t_10) H locs := by rw [et_10]; exact h
          refine lv_aload_n hx hb dX12_collapse_55 rfl (lv_at hl 1 rfl) ?_
          refine x_cVIF (n := 0) (As := []) (rest := []) B h (wkX12_thereMany l D cI cJ cB cZ bd k t_10  _ hR) ⟨⟨_, rfl⟩, by decide +kernel, Nat.le_of_ble_eq_true rfl, Nat.le_of_ble_eq_true rfl⟩ gX12_collapse_X12_thereMany (show ((wM cI cJ cB cZ bd t_10) : va_W)[0]? = some (_, .inr (12, _)) from rfl) rfl rfl hl.1 rfl (Nat.le_of_ble_eq_true rfl) dX12_collapse_56 ⟨Nat.le_of_ble_eq_true rfl, Nat.le_of_ble_eq_true rfl⟩ (fun r_11 t_11 H locs hR h => ?_)
          exact x_iret (w1 := (fun u : XT => (wM cI cJ cB cZ bd u))) t_11 B h hr rfl hR dX12_collapse_59
        · have hR := hR.2 c_4
          refine lv_bipush (v := (-2)) hx hb dX12_collapse_18 (by decide) ?_
          exact x_iret (w1 := (fun u : XT => (wM cI cJ cB cZ bd u))) t_3 B h hr rfl hR dX12_collapse_20
      · have hR := hR.2 c_2
        refine lv_iconst (v := (-1)) hx hb dX12_collapse_8 (by decide) ?_
        exact x_iret (w1 := (fun u : XT => (wM cI cJ cB cZ bd u))) t_1 B h hr rfl hR dX12_collapse_9
  exact (main k) t _ _ s.heap [] ls hR hl h
def wbX12_undo_0 (rec : Nat → XT → (Nat → Int32) → (Nat → Int64) → (Int32 → XT → Prop) → Prop) (k : Nat) (t : XT) (li : Nat → Int32) (lj : Nat → Int64) (Q : Int32 → XT → Prop) : Prop :=
  ((¬ (t.1 4) = 0) → (∀ v_2 : Int32, v_2 = ((t.1 4) - 1) → (∀ t_3 : XT, t_3 = sI t 4 v_2 → (∀ v_4 : Int32, v_4 = (120 * (t_3.1 4)) → rec 1 t_3 (uI (uI li 1 v_4) 2 0) lj Q)))) ∧ (((t.1 4) = 0) → Q (-1) t)
def wbX12_undo_1 (rec : Nat → XT → (Nat → Int32) → (Nat → Int64) → (Int32 → XT → Prop) → Prop) (k : Nat) (t : XT) (li : Nat → Int32) (lj : Nat → Int64) (Q : Int32 → XT → Prop) : Prop :=
  (((60 : Int32) ≤ (li 2)) → Q (t.1 4) t) ∧ (¬ ((60 : Int32) ≤ (li 2)) → (∀ v_6 : Int32, v_6 = ((li 1) + (li 2)) → (vp_in v_6 1920 ∧ (∀ v_7 : Int32, v_7 = (t.2.2.1 8) v_6.toNatClampNeg → (vp_in (li 2) 60 ∧ (∀ t_8 : XT, t_8 = sA t 4 (upd (t.2.2.1 4) (li 2).toNatClampNeg v_7) → (∀ v_9 : Int32, v_9 = ((li 1) + 60) → (∀ v_10 : Int32, v_10 = (v_9 + (li 2)) → (vp_in v_10 1920 ∧ (∀ v_11 : Int32, v_11 = (t_8.2.2.1 8) v_10.toNatClampNeg → ((¬ v_11 = 1) → rec 2 t_8 (uI (uI li 102 0) 101 (li 2)) lj Q) ∧ ((v_11 = 1) → rec 2 t_8 (uI (uI li 102 1) 101 (li 2)) lj Q)))))))))))
def wbX12_undo_2 (rec : Nat → XT → (Nat → Int32) → (Nat → Int64) → (Int32 → XT → Prop) → Prop) (k : Nat) (t : XT) (li : Nat → Int32) (lj : Nat → Int64) (Q : Int32 → XT → Prop) : Prop :=
  (vp_in (li 101) 60 ∧ (∀ t_13 : XT, t_13 = sA t 5 (upd (t.2.2.1 5) (li 101).toNatClampNeg (vp_nar .boolean (li 102))) → (∀ v_14 : Int32, v_14 = (li 2) + Int32.ofInt 1 → rec 1 t_13 (uI li 2 v_14) lj Q)))
def wpX12_undo : Nat → Nat → XT → (Nat → Int32) → (Nat → Int64) → (Int32 → XT → Prop) → Prop
  | 0, _, _, _, _, _ => False
  | k + 1, 0, t, li, lj, Q => wbX12_undo_0 (wpX12_undo k) k t li lj Q
  | k + 1, 1, t, li, lj, Q => wbX12_undo_1 (wpX12_undo k) k t li lj Q
  | k + 1, 2, t, li, lj, Q => wbX12_undo_2 (wpX12_undo k) k t li lj Q
  | _ + 1, _, _, _, _, _ => False
def wqX12_undo (k : Nat) (t : XT)  (Q : Int32 → XT → Prop) : Prop := wpX12_undo k 0 t (fun _ => 0) (fun _ => 0) Q
set_option maxHeartbeats 8000000 in
set_option maxRecDepth 100000 in
theorem wkX12_undo (l : Launch) (D : va_G) (cI cJ cB cZ : ClassId) (bd : Nat → Nat) (k : Nat) (t : XT)  (Q : Int32 → XT → Prop) (hR : wqX12_undo k t  Q) : MetI l yX12_undo wsX12_undo 0 0 0 0 D (TYS cI cJ cB cZ) (wM cI cJ cB cZ bd t) [.ref (bd 0)] (fun r u => Q r u) (fun u : XT => (wM cI cJ cB cZ bd u)) := by
  refine x_startI (ty := .int) (cc := cX12_undo) (by decide) rfl (Nat.le_of_ble_eq_true rfl) ?_
  intro p e s m args below meth c A ls B hr hnm h hl
  have hx := B.1.1
  have hb := B.1.2.1
  have hml := B.1.2.2.1
  have hts := B.1.2.2.2.2
  have hown : s.vm.findClass RX12 = some m.cls := B.1.2.2.2.1
  have hin12 : ∀ w ∈ u_ws RX12 TX12 31, w ∈ wsX12_undo := by decide +kernel
  have main : ∀ k : Nat, (∀ (t : XT) (li : Nat → Int32) (lj : Nat → Int64) (H : Heap) (locs : List Loc) (ls : Array Slot), wpX12_undo k 0 t li lj Q → lv_has ls 3 [(0, .ref (bd 0))] → Hp D A s.heap (wM cI cJ cB cZ bd t) H locs → W p l e { frames := 0, cells := 0, slots := 0, locals := 0 } s m args below meth c H locs 0 0 (MQ below (va_Qi (fun r u => Q r u) (fun u t => xEnd D ((fun u : XT => (wM cI cJ cB cZ bd u)) u) A t) A) args s 0 0 A) (F0 m 0 ls [])) ∧
      (∀ (t : XT) (li : Nat → Int32) (lj : Nat → Int64) (H : Heap) (locs : List Loc) (ls : Array Slot), wpX12_undo k 1 t li lj Q → lv_has ls 3 [(0, .ref (bd 0)), (1, .int (li 1)), (2, .int (li 2))] → Hp D A s.heap (wM cI cJ cB cZ bd t) H locs → W p l e { frames := 0, cells := 0, slots := 0, locals := 0 } s m args below meth c H locs 0 0 (MQ below (va_Qi (fun r u => Q r u) (fun u t => xEnd D ((fun u : XT => (wM cI cJ cB cZ bd u)) u) A t) A) args s 0 0 A) (F0 m 29 ls [])) ∧
      (∀ (t : XT) (li : Nat → Int32) (lj : Nat → Int64) (H : Heap) (locs : List Loc) (ls : Array Slot), wpX12_undo k 2 t li lj Q → lv_has ls 3 [(0, .ref (bd 0)), (1, .int (li 1)), (2, .int (li 2))] → Hp D A s.heap (wM cI cJ cB cZ bd t) H locs → W p l e { frames := 0, cells := 0, slots := 0, locals := 0 } s m args below meth c H locs 0 0 (MQ below (va_Qi (fun r u => Q r u) (fun u t => xEnd D ((fun u : XT => (wM cI cJ cB cZ bd u)) u) A t) A) args s 0 0 A) (F0 m 74 ls [.int (li 102), .int (li 101), .ref (bd 6)])) := by
    intro k
    induction k with
    | zero => exact ⟨fun _ _ _ _ _ _ hR => False.elim hR, fun _ _ _ _ _ _ hR => False.elim hR, fun _ _ _ _ _ _ hR => False.elim hR⟩
    | succ k ih =>
      refine ⟨?_, ?_, ?_⟩
      · intro t li lj H locs ls hR hl h
        have hR : wbX12_undo_0 (wpX12_undo k) k t li lj Q := hR
        unfold wbX12_undo_0 at hR
        refine lv_aload_n hx hb dX12_undo_0 rfl (lv_at hl 0 rfl) ?_
        refine x_get (ci := 12) (C := RX12) (T := TX12) (N := 31) (v := .int (t.1 4)) B h hin12 0 13 rfl rfl (by decide) (by decide +kernel) rfl dX12_undo_1 ?_
        refine lv_if_ne (tgt := 9) hx hb dX12_undo_4 (by decide) (fun c_1 => ?_) (fun c_1 => ?_)
        · have hR := hR.1 c_1
          refine lv_aload_n hx hb dX12_undo_9 rfl (lv_at hl 0 rfl) ?_
          refine lv_dup hx hb dX12_undo_10 rfl ?_
          refine x_get (ci := 12) (C := RX12) (T := TX12) (N := 31) (v := .int (t.1 4)) B h hin12 0 13 rfl rfl (by decide) (by decide +kernel) rfl dX12_undo_11 ?_
          refine lv_iconst (v := 1) hx hb dX12_undo_14 (by decide) ?_
          refine lv_isub hx hb dX12_undo_15 ?_
          refine lv_topi (fun v_2 ev_2 => ?_)
          have hR := hR v_2 ev_2
          refine x_put (ci := 12) (C := RX12) (T := TX12) (N := 31) (v := .int v_2) (ty := .int) B h hin12 tyX12 tyX12_ok nmX12 0 13 rfl rfl (by decide) (by decide +kernel) rfl rfl rfl rfl (Nat.le_of_ble_eq_true rfl) dX12_undo_16 (fun H locs h => ?_)
          obtain ⟨t_3, et_3⟩ : ∃ v : XT, v = sI t 4 v_2 := ⟨_, rfl⟩
          have hR := hR t_3 et_3
          have h : Hp D A s.heap (wM cI cJ cB cZ bd t_3) H locs := by rw [et_3]; exact h
          refine lv_bipush (v := 120) hx hb dX12_undo_19 (by decide) ?_
          refine lv_aload_n hx hb dX12_undo_21 rfl (lv_at hl 0 rfl) ?_
          refine x_get (ci := 12) (C := RX12) (T := TX12) (N := 31) (v := .int (t_3.1 4)) B h hin12 0 13 rfl rfl (by decide) (by decide +kernel) rfl dX12_undo_22 ?_
          refine lv_imul hx hb dX12_undo_25 ?_
          refine lv_topi (fun v_4 ev_4 => ?_)
          have hR := hR v_4 ev_4
          refine lv_istore_n (lv' := [(1, .int v_4), (0, .ref (bd 0))]) hx hb dX12_undo_26 rfl hl (by decide) rfl (fun ls hl => ?_)
          refine lv_iconst (v := 0) hx hb dX12_undo_27 (by decide) ?_
          refine lv_istore_n (lv' := [(2, .int 0), (1, .int v_4), (0, .ref (bd 0))]) hx hb dX12_undo_28 rfl hl (by decide) rfl (fun ls hl => ?_)
          exact ih.2.1 t_3 (uI (uI li 1 v_4) 2 0) lj H locs ls hR (lv_sub hl [2, 1, 0] rfl) h
        · have hR := hR.2 c_1
          refine lv_iconst (v := (-1)) hx hb dX12_undo_7 (by decide) ?_
          exact x_iret (w1 := (fun u : XT => (wM cI cJ cB cZ bd u))) t B h hr rfl hR dX12_undo_8
      · intro t li lj H locs ls hR hl h
        have hR : wbX12_undo_1 (wpX12_undo k) k t li lj Q := hR
        unfold wbX12_undo_1 at hR
        refine lv_iload_n hx hb dX12_undo_29 rfl (lv_at hl 2 rfl) ?_
        refine lv_bipush (v := 60) hx hb dX12_undo_30 (by decide) ?_
        refine lv_icmp_ge (tgt := 81) hx hb dX12_undo_32 (by decide) (fun c_5 => ?_) (fun c_5 => ?_)
        · have hR := hR.1 c_5
          refine lv_aload_n hx hb dX12_undo_81 rfl (lv_at hl 0 rfl) ?_
          refine x_get (ci := 12) (C := RX12) (T := TX12) (N := 31) (v := .int (t.1 4)) B h hin12 0 13 rfl rfl (by decide) (by decide +kernel) rfl dX12_undo_82 ?_
          exact x_iret (w1 := (fun u : XT => (wM cI cJ cB cZ bd u))) t B h hr rfl hR dX12_undo_85
        · have hR := hR.2 c_5
          refine lv_aload_n hx hb dX12_undo_35 rfl (lv_at hl 0 rfl) ?_
          refine x_get (ci := 12) (C := RX12) (T := TX12) (N := 31) (v := .ref (bd 5)) B h hin12 0 8 rfl rfl (by decide) (by decide +kernel) rfl dX12_undo_36 ?_
          refine lv_iload_n hx hb dX12_undo_39 rfl (lv_at hl 2 rfl) ?_
          refine lv_aload_n hx hb dX12_undo_40 rfl (lv_at hl 0 rfl) ?_
          refine x_get (ci := 12) (C := RX12) (T := TX12) (N := 31) (v := .ref (bd 9)) B h hin12 0 12 rfl rfl (by decide) (by decide +kernel) rfl dX12_undo_41 ?_
          refine lv_iload_n hx hb dX12_undo_44 rfl (lv_at hl 1 rfl) ?_
          refine lv_iload_n hx hb dX12_undo_45 rfl (lv_at hl 2 rfl) ?_
          refine lv_iadd hx hb dX12_undo_46 ?_
          refine lv_topi (fun v_6 ev_6 => ?_)
          have hR := hR v_6 ev_6
          obtain ⟨hb_7, hR⟩ := hR
          refine va_iald (f := (t.2.2.1 8)) hx hb B.2.1 h.1 9 0 rfl rfl hb_7 dX12_undo_47 ?_
          refine lv_topi (fun v_7 ev_7 => ?_)
          have hR := hR v_7 ev_7
          obtain ⟨hb_8, hR⟩ := hR
          refine z_iast (f := (t.2.2.1 4)) B h 5 0 rfl rfl hb_8 dX12_undo_48 (fun H locs h => ?_)
          obtain ⟨t_8, et_8⟩ : ∃ v : XT, v = sA t 4 (upd (t.2.2.1 4) (li 2).toNatClampNeg v_7) := ⟨_, rfl⟩
          have hR := hR t_8 et_8
          have h : Hp D A s.heap (wM cI cJ cB cZ bd t_8) H locs := by rw [et_8]; exact h
          refine lv_aload_n hx hb dX12_undo_49 rfl (lv_at hl 0 rfl) ?_
          refine x_get (ci := 12) (C := RX12) (T := TX12) (N := 31) (v := .ref (bd 6)) B h hin12 0 9 rfl rfl (by decide) (by decide +kernel) rfl dX12_undo_50 ?_
          refine lv_iload_n hx hb dX12_undo_53 rfl (lv_at hl 2 rfl) ?_
          refine lv_aload_n hx hb dX12_undo_54 rfl (lv_at hl 0 rfl) ?_
          refine x_get (ci := 12) (C := RX12) (T := TX12) (N := 31) (v := .ref (bd 9)) B h hin12 0 12 rfl rfl (by decide) (by decide +kernel) rfl dX12_undo_55 ?_
          refine lv_iload_n hx hb dX12_undo_58 rfl (lv_at hl 1 rfl) ?_
          refine lv_bipush (v := 60) hx hb dX12_undo_59 (by decide) ?_
          refine lv_iadd hx hb dX12_undo_61 ?_
          refine lv_topi (fun v_9 ev_9 => ?_)
          have hR := hR v_9 ev_9
          refine lv_iload_n hx hb dX12_undo_62 rfl (lv_at hl 2 rfl) ?_
          refine lv_iadd hx hb dX12_undo_63 ?_
          refine lv_topi (fun v_10 ev_10 => ?_)
          have hR := hR v_10 ev_10
          obtain ⟨hb_11, hR⟩ := hR
          refine va_iald (f := (t_8.2.2.1 8)) hx hb B.2.1 h.1 9 0 rfl rfl hb_11 dX12_undo_64 ?_
          refine lv_topi (fun v_11 ev_11 => ?_)
          have hR := hR v_11 ev_11
          refine lv_iconst (v := 1) hx hb dX12_undo_65 (by decide) ?_
          refine lv_icmp_ne (tgt := 73) hx hb dX12_undo_66 (by decide) (fun c_12 => ?_) (fun c_12 => ?_)
          · have hR := hR.1 c_12
            refine lv_iconst (v := 0) hx hb dX12_undo_73 (by decide) ?_
            exact ih.2.2 t_8 (uI (uI li 102 0) 101 (li 2)) lj H locs ls hR (lv_sub hl [0, 1, 2] rfl) h
          · have hR := hR.2 c_12
            refine lv_iconst (v := 1) hx hb dX12_undo_69 (by decide) ?_
            refine lv_goto (tgt := 74) hx hb dX12_undo_70 (by decide) ?_
            exact ih.2.2 t_8 (uI (uI li 102 1) 101 (li 2)) lj H locs ls hR (lv_sub hl [0, 1, 2] rfl) h
      · intro t li lj H locs ls hR hl h
        have hR : wbX12_undo_2 (wpX12_undo k) k t li lj Q := hR
        unfold wbX12_undo_2 at hR
        obtain ⟨hb_13, hR⟩ := hR
        refine z_zast (f := (t.2.2.1 5)) B h 6 3 rfl rfl hb_13 dX12_undo_74 (fun H locs h => ?_)
        obtain ⟨t_13, et_13⟩ : ∃ v : XT, v = sA t 5 (upd (t.2.2.1 5) (li 101).toNatClampNeg (vp_nar .boolean (li 102))) := ⟨_, rfl⟩
        have hR := hR t_13 et_13
        have h : Hp D A s.heap (wM cI cJ cB cZ bd t_13) H locs := by rw [et_13]; exact h
        obtain ⟨v_14, ev_14⟩ : ∃ v : Int32, v = (li 2) + Int32.ofInt 1 := ⟨_, rfl⟩
        have hR := hR v_14 ev_14
        refine lv_iinc (v := v_14) (lv' := [(2, .int v_14), (0, .ref (bd 0)), (1, .int (li 1))]) hx hb dX12_undo_75 hl (k := 2) rfl ev_14.symm (by decide) rfl (fun ls hl => ?_)
        refine lv_goto (tgt := 29) hx hb dX12_undo_78 (by decide) ?_
        exact ih.2.1 t_13 (uI li 2 v_14) lj H locs ls hR (lv_sub hl [1, 2, 0] rfl) h
  exact (main k).1 t _ _ s.heap [] ls hR hl h
def wbX12_critical_0 (rec : Nat → XT → (Nat → Int32) → (Nat → Int64) → (Int32 → XT → Prop) → Prop) (k : Nat) (t : XT) (li : Nat → Int32) (lj : Nat → Int64) (Q : Int32 → XT → Prop) : Prop :=
  (wqX12_in k (li 1) 0 4 (fun r_1 => ((r_1 = 0) → rec 1 t li lj Q) ∧ (¬ (r_1 = 0) → ((((-1) : Int32) ≤ (li 2)) → rec 2 t (uI (uI li 3 0) 4 0) lj Q) ∧ (¬ (((-1) : Int32) ≤ (li 2)) → rec 1 t li lj Q))))
def wbX12_critical_1 (rec : Nat → XT → (Nat → Int32) → (Nat → Int64) → (Int32 → XT → Prop) → Prop) (k : Nat) (t : XT) (li : Nat → Int32) (lj : Nat → Int64) (Q : Int32 → XT → Prop) : Prop :=
  Q (-1) t
def wbX12_critical_2 (rec : Nat → XT → (Nat → Int32) → (Nat → Int64) → (Int32 → XT → Prop) → Prop) (k : Nat) (t : XT) (li : Nat → Int32) (lj : Nat → Int64) (Q : Int32 → XT → Prop) : Prop :=
  ((((t.1 3) : Int32) ≤ (li 4)) → ((¬ (li 2) = (-1)) → Q (-2) t) ∧ (((li 2) = (-1)) → Q (li 3) t)) ∧ (¬ (((t.1 3) : Int32) ≤ (li 4)) → (wqX12_isCritical k t (li 4) (fun r_6 t_6 => ((r_6 = 0) → rec 3 t_6 li lj Q) ∧ (¬ (r_6 = 0) → (wqX12_dimOf k t_6 (li 4) (fun r_8 t_8 => ((¬ r_8 = (li 1)) → rec 3 t_8 li lj Q) ∧ ((r_8 = (li 1)) → ((¬ (li 3) = (li 2)) → (∀ v_11 : Int32, v_11 = (li 3) + Int32.ofInt 1 → rec 3 t_8 (uI li 3 v_11) lj Q)) ∧ (((li 3) = (li 2)) → Q (li 4) t_8))))))))
def wbX12_critical_3 (rec : Nat → XT → (Nat → Int32) → (Nat → Int64) → (Int32 → XT → Prop) → Prop) (k : Nat) (t : XT) (li : Nat → Int32) (lj : Nat → Int64) (Q : Int32 → XT → Prop) : Prop :=
  (∀ v_12 : Int32, v_12 = (li 4) + Int32.ofInt 1 → rec 2 t (uI li 4 v_12) lj Q)
def wpX12_critical : Nat → Nat → XT → (Nat → Int32) → (Nat → Int64) → (Int32 → XT → Prop) → Prop
  | 0, _, _, _, _, _ => False
  | k + 1, 0, t, li, lj, Q => wbX12_critical_0 (wpX12_critical k) k t li lj Q
  | k + 1, 1, t, li, lj, Q => wbX12_critical_1 (wpX12_critical k) k t li lj Q
  | k + 1, 2, t, li, lj, Q => wbX12_critical_2 (wpX12_critical k) k t li lj Q
  | k + 1, 3, t, li, lj, Q => wbX12_critical_3 (wpX12_critical k) k t li lj Q
  | _ + 1, _, _, _, _, _ => False
def wqX12_critical (k : Nat) (t : XT) (a1 : Int32) (a2 : Int32) (Q : Int32 → XT → Prop) : Prop := wpX12_critical k 0 t (uI (uI (fun _ => 0) 1 a1) 2 a2) (fun _ => 0) Q
set_option maxHeartbeats 8000000 in
set_option maxRecDepth 100000 in
theorem wkX12_critical (l : Launch) (D : va_G) (cI cJ cB cZ : ClassId) (bd : Nat → Nat) (k : Nat) (t : XT) (a1 : Int32) (a2 : Int32) (Q : Int32 → XT → Prop) (hR : wqX12_critical k t a1 a2 Q) : MetI l yX12_critical wsX12_critical 4 85 0 0 D (TYS cI cJ cB cZ) (wM cI cJ cB cZ bd t) [.ref (bd 0), .int a1, .int a2] (fun r u => Q r u) (fun u : XT => (wM cI cJ cB cZ bd u)) := by
  refine x_startI (ty := .int) (cc := cX12_critical) (by decide) rfl (Nat.le_of_ble_eq_true rfl) ?_
  intro p e s m args below meth c A ls B hr hnm h hl
  have hx := B.1.1
  have hb := B.1.2.1
  have hml := B.1.2.2.1
  have hts := B.1.2.2.2.2
  have hown : s.vm.findClass RX12 = some m.cls := B.1.2.2.2.1
  have hin12 : ∀ w ∈ u_ws RX12 TX12 31, w ∈ wsX12_critical := by decide +kernel
  have main : ∀ k : Nat, (∀ (t : XT) (li : Nat → Int32) (lj : Nat → Int64) (H : Heap) (locs : List Loc) (ls : Array Slot), wpX12_critical k 0 t li lj Q → lv_has ls 5 [(0, .ref (bd 0)), (1, .int (li 1)), (2, .int (li 2))] → Hp D A s.heap (wM cI cJ cB cZ bd t) H locs → W p l e { frames := 4, cells := 0, slots := 0, locals := 85 } s m args below meth c H locs 0 0 (MQ below (va_Qi (fun r u => Q r u) (fun u t => xEnd D ((fun u : XT => (wM cI cJ cB cZ bd u)) u) A t) A) args s 0 0 A) (F0 m 0 ls [])) ∧
      (∀ (t : XT) (li : Nat → Int32) (lj : Nat → Int64) (H : Heap) (locs : List Loc) (ls : Array Slot), wpX12_critical k 1 t li lj Q → lv_has ls 5 [(0, .ref (bd 0)), (1, .int (li 1)), (2, .int (li 2))] → Hp D A s.heap (wM cI cJ cB cZ bd t) H locs → W p l e { frames := 4, cells := 0, slots := 0, locals := 85 } s m args below meth c H locs 0 0 (MQ below (va_Qi (fun r u => Q r u) (fun u t => xEnd D ((fun u : XT => (wM cI cJ cB cZ bd u)) u) A t) A) args s 0 0 A) (F0 m 14 ls [])) ∧
      (∀ (t : XT) (li : Nat → Int32) (lj : Nat → Int64) (H : Heap) (locs : List Loc) (ls : Array Slot), wpX12_critical k 2 t li lj Q → lv_has ls 5 [(0, .ref (bd 0)), (1, .int (li 1)), (2, .int (li 2)), (3, .int (li 3)), (4, .int (li 4))] → Hp D A s.heap (wM cI cJ cB cZ bd t) H locs → W p l e { frames := 4, cells := 0, slots := 0, locals := 85 } s m args below meth c H locs 0 0 (MQ below (va_Qi (fun r u => Q r u) (fun u t => xEnd D ((fun u : XT => (wM cI cJ cB cZ bd u)) u) A t) A) args s 0 0 A) (F0 m 21 ls [])) ∧
      (∀ (t : XT) (li : Nat → Int32) (lj : Nat → Int64) (H : Heap) (locs : List Loc) (ls : Array Slot), wpX12_critical k 3 t li lj Q → lv_has ls 5 [(0, .ref (bd 0)), (1, .int (li 1)), (2, .int (li 2)), (3, .int (li 3)), (4, .int (li 4))] → Hp D A s.heap (wM cI cJ cB cZ bd t) H locs → W p l e { frames := 4, cells := 0, slots := 0, locals := 85 } s m args below meth c H locs 0 0 (MQ below (va_Qi (fun r u => Q r u) (fun u t => xEnd D ((fun u : XT => (wM cI cJ cB cZ bd u)) u) A t) A) args s 0 0 A) (F0 m 60 ls [])) := by
    intro k
    induction k with
    | zero => exact ⟨fun _ _ _ _ _ _ hR => False.elim hR, fun _ _ _ _ _ _ hR => False.elim hR, fun _ _ _ _ _ _ hR => False.elim hR, fun _ _ _ _ _ _ hR => False.elim hR⟩
    | succ k ih =>
      refine ⟨?_, ?_, ?_, ?_⟩
      · intro t li lj H locs ls hR hl h
        have hR : wbX12_critical_0 (wpX12_critical k) k t li lj Q := hR
        unfold wbX12_critical_0 at hR
        refine lv_iload_n hx hb dX12_critical_0 rfl (lv_at hl 1 rfl) ?_
        refine lv_iconst (v := 0) hx hb dX12_critical_1 (by decide) ?_
        refine lv_iconst (v := 4) hx hb dX12_critical_2 (by decide) ?_
        refine x_cSIE (n := 3) (As := [.int (li 1), .int 0, .int 4]) (rest := []) B h (wkX12_in l D cI cJ cB cZ bd k (li 1) 0 4 _ hR) ⟨⟨_, rfl⟩, by decide +kernel, Nat.le_of_ble_eq_true rfl, Nat.le_of_ble_eq_true rfl⟩ gX12_critical_X12_in rfl hl.1 rfl (Nat.le_of_ble_eq_true rfl) dX12_critical_3 ⟨Nat.le_of_ble_eq_true rfl, Nat.le_of_ble_eq_true rfl⟩ (fun r_1 _ H locs hR h => ?_)
        refine lv_if_eq (tgt := 14) hx hb dX12_critical_6 (by decide) (fun c_2 => ?_) (fun c_2 => ?_)
        · have hR := hR.1 c_2
          exact ih.2.1 t li lj H locs ls hR (lv_sub hl [0, 1, 2] rfl) h
        · have hR := hR.2 c_2
          refine lv_iload_n hx hb dX12_critical_9 rfl (lv_at hl 2 rfl) ?_
          refine lv_iconst (v := (-1)) hx hb dX12_critical_10 (by decide) ?_
          refine lv_icmp_ge (tgt := 16) hx hb dX12_critical_11 (by decide) (fun c_3 => ?_) (fun c_3 => ?_)
          · have hR := hR.1 c_3
            refine lv_iconst (v := 0) hx hb dX12_critical_16 (by decide) ?_
            refine lv_istore_n (lv' := [(3, .int 0), (0, .ref (bd 0)), (1, .int (li 1)), (2, .int (li 2))]) hx hb dX12_critical_17 rfl hl (by decide) rfl (fun ls hl => ?_)
            refine lv_iconst (v := 0) hx hb dX12_critical_18 (by decide) ?_
            refine lv_istore (lv' := [(4, .int 0), (3, .int 0), (0, .ref (bd 0)), (1, .int (li 1)), (2, .int (li 2))]) hx hb dX12_critical_19 hl (by decide) rfl (fun ls hl => ?_)
            exact ih.2.2.1 t (uI (uI li 3 0) 4 0) lj H locs ls hR (lv_sub hl [2, 3, 4, 1, 0] rfl) h
          · have hR := hR.2 c_3
            exact ih.2.1 t li lj H locs ls hR (lv_sub hl [0, 1, 2] rfl) h
      · intro t li lj H locs ls hR hl h
        have hR : wbX12_critical_1 (wpX12_critical k) k t li lj Q := hR
        unfold wbX12_critical_1 at hR
        refine lv_iconst (v := (-1)) hx hb dX12_critical_14 (by decide) ?_
        exact x_iret (w1 := (fun u : XT => (wM cI cJ cB cZ bd u))) t B h hr rfl hR dX12_critical_15
      · intro t li lj H locs ls hR hl h
        have hR : wbX12_critical_2 (wpX12_critical k) k t li lj Q := hR
        unfold wbX12_critical_2 at hR
        refine lv_iload hx hb dX12_critical_21 (lv_at hl 4 rfl) ?_
        refine lv_aload_n hx hb dX12_critical_23 rfl (lv_at hl 0 rfl) ?_
        refine x_get (ci := 12) (C := RX12) (T := TX12) (N := 31) (v := .int (t.1 3)) B h hin12 0 5 rfl rfl (by decide) (by decide +kernel) rfl dX12_critical_24 ?_
        refine lv_icmp_ge (tgt := 66) hx hb dX12_critical_27 (by decide) (fun c_4 => ?_) (fun c_4 => ?_)
        · have hR := hR.1 c_4
          refine lv_iload_n hx hb dX12_critical_66 rfl (lv_at hl 2 rfl) ?_
          refine lv_iconst (v := (-1)) hx hb dX12_critical_67 (by decide) ?_
          refine lv_icmp_ne (tgt := 75) hx hb dX12_critical_68 (by decide) (fun c_5 => ?_) (fun c_5 => ?_)
          · have hR := hR.1 c_5
            refine lv_bipush (v := (-2)) hx hb dX12_critical_75 (by decide) ?_
            exact x_iret (w1 := (fun u : XT => (wM cI cJ cB cZ bd u))) t B h hr rfl hR dX12_critical_77
          · have hR := hR.2 c_5
            refine lv_iload_n hx hb dX12_critical_71 rfl (lv_at hl 3 rfl) ?_
            refine lv_goto (tgt := 77) hx hb dX12_critical_72 (by decide) ?_
            exact x_iret (w1 := (fun u : XT => (wM cI cJ cB cZ bd u))) t B h hr rfl hR dX12_critical_77
        · have hR := hR.2 c_4
          refine lv_aload_n hx hb dX12_critical_30 rfl (lv_at hl 0 rfl) ?_
          refine lv_iload hx hb dX12_critical_31 (lv_at hl 4 rfl) ?_
          refine x_cVIF (n := 1) (As := [.int (li 4)]) (rest := []) B h (wkX12_isCritical l D cI cJ cB cZ bd k t (li 4) _ hR) ⟨⟨_, rfl⟩, by decide +kernel, Nat.le_of_ble_eq_true rfl, Nat.le_of_ble_eq_true rfl⟩ gX12_critical_X12_isCritical (show ((wM cI cJ cB cZ bd t) : va_W)[0]? = some (_, .inr (12, _)) from rfl) rfl rfl hl.1 rfl (Nat.le_of_ble_eq_true rfl) dX12_critical_33 ⟨Nat.le_of_ble_eq_true rfl, Nat.le_of_ble_eq_true rfl⟩ (fun r_6 t_6 H locs hR h => ?_)
          refine lv_if_eq (tgt := 60) hx hb dX12_critical_36 (by decide) (fun c_7 => ?_) (fun c_7 => ?_)
          · have hR := hR.1 c_7
            exact ih.2.2.2 t_6 li lj H locs ls hR (lv_sub hl [0, 1, 2, 3, 4] rfl) h
          · have hR := hR.2 c_7
            refine lv_aload_n hx hb dX12_critical_39 rfl (lv_at hl 0 rfl) ?_
            refine lv_iload hx hb dX12_critical_40 (lv_at hl 4 rfl) ?_
            refine x_cVIF (n := 1) (As := [.int (li 4)]) (rest := []) B h (wkX12_dimOf l D cI cJ cB cZ bd k t_6 (li 4) _ hR) ⟨⟨_, rfl⟩, by decide +kernel, Nat.le_of_ble_eq_true rfl, Nat.le_of_ble_eq_true rfl⟩ gX12_critical_X12_dimOf (show ((wM cI cJ cB cZ bd t_6) : va_W)[0]? = some (_, .inr (12, _)) from rfl) rfl rfl hl.1 rfl (Nat.le_of_ble_eq_true rfl) dX12_critical_42 ⟨Nat.le_of_ble_eq_true rfl, Nat.le_of_ble_eq_true rfl⟩ (fun r_8 t_8 H locs hR h => ?_)
            refine lv_iload_n hx hb dX12_critical_45 rfl (lv_at hl 1 rfl) ?_
            refine lv_icmp_ne (tgt := 60) hx hb dX12_critical_46 (by decide) (fun c_9 => ?_) (fun c_9 => ?_)
            · have hR := hR.1 c_9
              exact ih.2.2.2 t_8 li lj H locs ls hR (lv_sub hl [0, 1, 2, 3, 4] rfl) h
            · have hR := hR.2 c_9
              refine lv_iload_n hx hb dX12_critical_49 rfl (lv_at hl 3 rfl) ?_
              refine lv_iload_n hx hb dX12_critical_50 rfl (lv_at hl 2 rfl) ?_
              refine lv_icmp_ne (tgt := 57) hx hb dX12_critical_51 (by decide) (fun c_10 => ?_) (fun c_10 => ?_)
              · have hR := hR.1 c_10
                obtain ⟨v_11, ev_11⟩ : ∃ v : Int32, v = (li 3) + Int32.ofInt 1 := ⟨_, rfl⟩
                have hR := hR v_11 ev_11
                refine lv_iinc (v := v_11) (lv' := [(3, .int v_11), (0, .ref (bd 0)), (1, .int (li 1)), (2, .int (li 2)), (4, .int (li 4))]) hx hb dX12_critical_57 hl (k := 3) rfl ev_11.symm (by decide) rfl (fun ls hl => ?_)
                exact ih.2.2.2 t_8 (uI li 3 v_11) lj H locs ls hR (lv_sub hl [1, 2, 3, 0, 4] rfl) h
              · have hR := hR.2 c_10
                refine lv_iload hx hb dX12_critical_54 (lv_at hl 4 rfl) ?_
                exact x_iret (w1 := (fun u : XT => (wM cI cJ cB cZ bd u))) t_8 B h hr rfl hR dX12_critical_56
      · intro t li lj H locs ls hR hl h
        have hR : wbX12_critical_3 (wpX12_critical k) k t li lj Q := hR
        unfold wbX12_critical_3 at hR
        obtain ⟨v_12, ev_12⟩ : ∃ v : Int32, v = (li 4) + Int32.ofInt 1 := ⟨_, rfl⟩
        have hR := hR v_12 ev_12
        refine lv_iinc (v := v_12) (lv' := [(4, .int v_12), (0, .ref (bd 0)), (1, .int (li 1)), (2, .int (li 2)), (3, .int (li 3))]) hx hb dX12_critical_60 hl (k := 4) rfl ev_12.symm (by decide) rfl (fun ls hl => ?_)
        refine lv_goto (tgt := 21) hx hb dX12_critical_63 (by decide) ?_
        exact ih.2.2.1 t (uI li 4 v_12) lj H locs ls hR (lv_sub hl [1, 2, 3, 4, 0] rfl) h
  exact (main k).1 t _ _ s.heap [] ls hR hl h
def wbX12_paths_0 (rec : Nat → XT → (Nat → Int32) → (Nat → Int64) → (Int64 → XT → Prop) → Prop) (k : Nat) (t : XT) (li : Nat → Int32) (lj : Nat → Int64) (Q : Int64 → XT → Prop) : Prop :=
  (wqX12_areEnds k t (li 1) (li 2) (fun r_1 t_1 => ((r_1 = 0) → Q (-1) t_1) ∧ (¬ (r_1 = 0) → (wqX12_waysFrom k t_1 (li 1) (li 2) (fun r_3 t_3 => Q r_3 t_3)))))
def wpX12_paths : Nat → Nat → XT → (Nat → Int32) → (Nat → Int64) → (Int64 → XT → Prop) → Prop
  | 0, _, _, _, _, _ => False
  | k + 1, 0, t, li, lj, Q => wbX12_paths_0 (wpX12_paths k) k t li lj Q
  | _ + 1, _, _, _, _, _ => False
def wqX12_paths (k : Nat) (t : XT) (a1 : Int32) (a2 : Int32) (Q : Int64 → XT → Prop) : Prop := wpX12_paths k 0 t (uI (uI (fun _ => 0) 1 a1) 2 a2) (fun _ => 0) Q
set_option maxHeartbeats 8000000 in
set_option maxRecDepth 100000 in
theorem wkX12_paths (l : Launch) (D : va_G) (cI cJ cB cZ : ClassId) (bd : Nat → Nat) (k : Nat) (t : XT) (a1 : Int32) (a2 : Int32) (Q : Int64 → XT → Prop) (hR : wqX12_paths k t a1 a2 Q) : MetL l yX12_paths wsX12_paths 7 160 0 0 D (TYS cI cJ cB cZ) (wM cI cJ cB cZ bd t) [.ref (bd 0), .int a1, .int a2] (fun r u => Q r u) (fun u : XT => (wM cI cJ cB cZ bd u)) := by
  refine x_startL (ty := .long) (cc := cX12_paths) (by decide) rfl (Nat.le_of_ble_eq_true rfl) ?_
  intro p e s m args below meth c A ls B hr hnm h hl
  have hx := B.1.1
  have hb := B.1.2.1
  have hml := B.1.2.2.1
  have hts := B.1.2.2.2.2
  have hown : s.vm.findClass RX12 = some m.cls := B.1.2.2.2.1
  have main : ∀ k : Nat, (∀ (t : XT) (li : Nat → Int32) (lj : Nat → Int64) (H : Heap) (locs : List Loc) (ls : Array Slot), wpX12_paths k 0 t li lj Q → lv_has ls 3 [(0, .ref (bd 0)), (1, .int (li 1)), (2, .int (li 2))] → Hp D A s.heap (wM cI cJ cB cZ bd t) H locs → W p l e { frames := 7, cells := 0, slots := 0, locals := 160 } s m args below meth c H locs 0 0 (MQ below (va_Ql (fun r u => Q r u) (fun u t => xEnd D ((fun u : XT => (wM cI cJ cB cZ bd u)) u) A t) A) args s 0 0 A) (F0 m 0 ls [])) := by
    intro k
    induction k with
    | zero => exact fun _ _ _ _ _ _ hR => False.elim hR
    | succ k ih =>
      intro t li lj H locs ls hR hl h
      have hR : wbX12_paths_0 (wpX12_paths k) k t li lj Q := hR
      unfold wbX12_paths_0 at hR
      refine lv_aload_n hx hb dX12_paths_0 rfl (lv_at hl 0 rfl) ?_
      refine lv_iload_n hx hb dX12_paths_1 rfl (lv_at hl 1 rfl) ?_
      refine lv_iload_n hx hb dX12_paths_2 rfl (lv_at hl 2 rfl) ?_
      refine x_cVIF (n := 2) (As := [.int (li 1), .int (li 2)]) (rest := []) B h (wkX12_areEnds l D cI cJ cB cZ bd k t (li 1) (li 2) _ hR) ⟨⟨_, rfl⟩, by decide +kernel, Nat.le_of_ble_eq_true rfl, Nat.le_of_ble_eq_true rfl⟩ gX12_paths_X12_areEnds (show ((wM cI cJ cB cZ bd t) : va_W)[0]? = some (_, .inr (12, _)) from rfl) rfl rfl hl.1 rfl (Nat.le_of_ble_eq_true rfl) dX12_paths_3 ⟨Nat.le_of_ble_eq_true rfl, Nat.le_of_ble_eq_true rfl⟩ (fun r_1 t_1 H locs hR h => ?_)
      refine lv_if_eq (tgt := 18) hx hb dX12_paths_6 (by decide) (fun c_2 => ?_) (fun c_2 => ?_)
      · have hR := hR.1 c_2
        refine lv_ldc2 (v := (-1)) hx hb hown (hts (.constantLong RX12 236 (-1)) (by decide +kernel)) dX12_paths_18 ?_
        exact x_lret (w1 := (fun u : XT => (wM cI cJ cB cZ bd u))) t_1 B h hr hR dX12_paths_21
      · have hR := hR.2 c_2
        refine lv_aload_n hx hb dX12_paths_9 rfl (lv_at hl 0 rfl) ?_
        refine lv_iload_n hx hb dX12_paths_10 rfl (lv_at hl 1 rfl) ?_
        refine lv_iload_n hx hb dX12_paths_11 rfl (lv_at hl 2 rfl) ?_
        refine x_cVLF (n := 2) (As := [.int (li 1), .int (li 2)]) (rest := []) B h (wkX12_waysFrom l D cI cJ cB cZ bd k t_1 (li 1) (li 2) _ hR) ⟨⟨_, rfl⟩, by decide +kernel, Nat.le_of_ble_eq_true rfl, Nat.le_of_ble_eq_true rfl⟩ gX12_paths_X12_waysFrom (show ((wM cI cJ cB cZ bd t_1) : va_W)[0]? = some (_, .inr (12, _)) from rfl) rfl rfl hl.1 rfl (Nat.le_of_ble_eq_true rfl) dX12_paths_12 ⟨Nat.le_of_ble_eq_true rfl, Nat.le_of_ble_eq_true rfl⟩ (fun r_3 t_3 H locs hR h => ?_)
        refine lv_goto (tgt := 21) hx hb dX12_paths_15 (by decide) ?_
        exact x_lret (w1 := (fun u : XT => (wM cI cJ cB cZ bd u))) t_3 B h hr hR dX12_paths_21
  exact (main k) t _ _ s.heap [] ls hR hl h
def wbX12_path_0 (rec : Nat → XT → (Nat → Int32) → (Nat → Int64) → (Int32 → XT → Prop) → Prop) (k : Nat) (t : XT) (li : Nat → Int32) (lj : Nat → Int64) (Q : Int32 → XT → Prop) : Prop :=
  (wqX12_areEnds k t (li 1) (li 2) (fun r_1 t_1 => ((r_1 = 0) → rec 1 t_1 li lj Q) ∧ (¬ (r_1 = 0) → (((li 3) < 0) → rec 1 t_1 li lj Q) ∧ (¬ ((li 3) < 0) → ((((-1) : Int32) ≤ (li 4)) → (∀ v_5 : Int64, v_5 = (li 3).toInt64 → (wqX12_laysPath k t_1 (li 1) (li 2) v_5 (fun r_6 t_6 => ((¬ r_6 = 0) → ((¬ (li 4) = (-1)) → ((((t_6.1 5) : Int32) ≤ (li 4)) → Q (-2) t_6) ∧ (¬ (((t_6.1 5) : Int32) ≤ (li 4)) → (vp_in (li 4) 122 ∧ (∀ v_10 : Int32, v_10 = (t_6.2.2.1 10) (li 4).toNatClampNeg → Q v_10 t_6)))) ∧ (((li 4) = (-1)) → Q (t_6.1 5) t_6)) ∧ ((r_6 = 0) → Q (-2) t_6))))) ∧ (¬ (((-1) : Int32) ≤ (li 4)) → rec 1 t_1 li lj Q)))))
def wbX12_path_1 (rec : Nat → XT → (Nat → Int32) → (Nat → Int64) → (Int32 → XT → Prop) → Prop) (k : Nat) (t : XT) (li : Nat → Int32) (lj : Nat → Int64) (Q : Int32 → XT → Prop) : Prop :=
  Q (-1) t
def wpX12_path : Nat → Nat → XT → (Nat → Int32) → (Nat → Int64) → (Int32 → XT → Prop) → Prop
  | 0, _, _, _, _, _ => False
  | k + 1, 0, t, li, lj, Q => wbX12_path_0 (wpX12_path k) k t li lj Q
  | k + 1, 1, t, li, lj, Q => wbX12_path_1 (wpX12_path k) k t li lj Q
  | _ + 1, _, _, _, _, _ => False
def wqX12_path (k : Nat) (t : XT) (a1 : Int32) (a2 : Int32) (a3 : Int32) (a4 : Int32) (Q : Int32 → XT → Prop) : Prop := wpX12_path k 0 t (uI (uI (uI (uI (fun _ => 0) 1 a1) 2 a2) 3 a3) 4 a4) (fun _ => 0) Q
set_option maxHeartbeats 8000000 in
set_option maxRecDepth 100000 in
theorem wkX12_path (l : Launch) (D : va_G) (cI cJ cB cZ : ClassId) (bd : Nat → Nat) (k : Nat) (t : XT) (a1 : Int32) (a2 : Int32) (a3 : Int32) (a4 : Int32) (Q : Int32 → XT → Prop) (hR : wqX12_path k t a1 a2 a3 a4 Q) : MetI l yX12_path wsX12_path 8 189 0 0 D (TYS cI cJ cB cZ) (wM cI cJ cB cZ bd t) [.ref (bd 0), .int a1, .int a2, .int a3, .int a4] (fun r u => Q r u) (fun u : XT => (wM cI cJ cB cZ bd u)) := by
  refine x_startI (ty := .int) (cc := cX12_path) (by decide) rfl (Nat.le_of_ble_eq_true rfl) ?_
  intro p e s m args below meth c A ls B hr hnm h hl
  have hx := B.1.1
  have hb := B.1.2.1
  have hml := B.1.2.2.1
  have hts := B.1.2.2.2.2
  have hown : s.vm.findClass RX12 = some m.cls := B.1.2.2.2.1
  have hin12 : ∀ w ∈ u_ws RX12 TX12 31, w ∈ wsX12_path := by decide +kernel
  have main : ∀ k : Nat, (∀ (t : XT) (li : Nat → Int32) (lj : Nat → Int64) (H : Heap) (locs : List Loc) (ls : Array Slot), wpX12_path k 0 t li lj Q → lv_has ls 5 [(0, .ref (bd 0)), (1, .int (li 1)), (2, .int (li 2)), (3, .int (li 3)), (4, .int (li 4))] → Hp D A s.heap (wM cI cJ cB cZ bd t) H locs → W p l e { frames := 8, cells := 0, slots := 0, locals := 189 } s m args below meth c H locs 0 0 (MQ below (va_Qi (fun r u => Q r u) (fun u t => xEnd D ((fun u : XT => (wM cI cJ cB cZ bd u)) u) A t) A) args s 0 0 A) (F0 m 0 ls [])) ∧
      (∀ (t : XT) (li : Nat → Int32) (lj : Nat → Int64) (H : Heap) (locs : List Loc) (ls : Array Slot), wpX12_path k 1 t li lj Q → lv_has ls 5 [(0, .ref (bd 0)), (1, .int (li 1)), (2, .int (li 2)), (3, .int (li 3)), (4, .int (li 4))] → Hp D A s.heap (wM cI cJ cB cZ bd t) H locs → W p l e { frames := 8, cells := 0, slots := 0, locals := 189 } s m args below meth c H locs 0 0 (MQ below (va_Qi (fun r u => Q r u) (fun u t => xEnd D ((fun u : XT => (wM cI cJ cB cZ bd u)) u) A t) A) args s 0 0 A) (F0 m 19 ls [])) := by
    intro k
    induction k with
    | zero => exact ⟨fun _ _ _ _ _ _ hR => False.elim hR, fun _ _ _ _ _ _ hR => False.elim hR⟩
    | succ k ih =>
      refine ⟨?_, ?_⟩
      · intro t li lj H locs ls hR hl h
        have hR : wbX12_path_0 (wpX12_path k) k t li lj Q := hR
        unfold wbX12_path_0 at hR
        refine lv_aload_n hx hb dX12_path_0 rfl (lv_at hl 0 rfl) ?_
        refine lv_iload_n hx hb dX12_path_1 rfl (lv_at hl 1 rfl) ?_
        refine lv_iload_n hx hb dX12_path_2 rfl (lv_at hl 2 rfl) ?_
        refine x_cVIF (n := 2) (As := [.int (li 1), .int (li 2)]) (rest := []) B h (wkX12_areEnds l D cI cJ cB cZ bd k t (li 1) (li 2) _ hR) ⟨⟨_, rfl⟩, by decide +kernel, Nat.le_of_ble_eq_true rfl, Nat.le_of_ble_eq_true rfl⟩ gX12_path_X12_areEnds (show ((wM cI cJ cB cZ bd t) : va_W)[0]? = some (_, .inr (12, _)) from rfl) rfl rfl hl.1 rfl (Nat.le_of_ble_eq_true rfl) dX12_path_3 ⟨Nat.le_of_ble_eq_true rfl, Nat.le_of_ble_eq_true rfl⟩ (fun r_1 t_1 H locs hR h => ?_)
        refine lv_if_eq (tgt := 19) hx hb dX12_path_6 (by decide) (fun c_2 => ?_) (fun c_2 => ?_)
        · have hR := hR.1 c_2
          exact ih.2 t_1 li lj H locs ls hR (lv_sub hl [0, 1, 2, 3, 4] rfl) h
        · have hR := hR.2 c_2
          refine lv_iload_n hx hb dX12_path_9 rfl (lv_at hl 3 rfl) ?_
          refine lv_if_lt (tgt := 19) hx hb dX12_path_10 (by decide) (fun c_3 => ?_) (fun c_3 => ?_)
          · have hR := hR.1 c_3
            exact ih.2 t_1 li lj H locs ls hR (lv_sub hl [0, 1, 2, 3, 4] rfl) h
          · have hR := hR.2 c_3
            refine lv_iload hx hb dX12_path_13 (lv_at hl 4 rfl) ?_
            refine lv_iconst (v := (-1)) hx hb dX12_path_15 (by decide) ?_
            refine lv_icmp_ge (tgt := 21) hx hb dX12_path_16 (by decide) (fun c_4 => ?_) (fun c_4 => ?_)
            · have hR := hR.1 c_4
              refine lv_aload_n hx hb dX12_path_21 rfl (lv_at hl 0 rfl) ?_
              refine lv_iload_n hx hb dX12_path_22 rfl (lv_at hl 1 rfl) ?_
              refine lv_iload_n hx hb dX12_path_23 rfl (lv_at hl 2 rfl) ?_
              refine lv_iload_n hx hb dX12_path_24 rfl (lv_at hl 3 rfl) ?_
              obtain ⟨v_5, ev_5⟩ : ∃ v : Int64, v = (li 3).toInt64 := ⟨_, rfl⟩
              have hR := hR v_5 ev_5
              refine lv_i2l (v := v_5) hx hb dX12_path_25 ev_5.symm ?_
              refine x_cVIF (n := 3) (As := [.int (li 1), .int (li 2), .long v_5]) (rest := []) B h (wkX12_laysPath l D cI cJ cB cZ bd k t_1 (li 1) (li 2) v_5 _ hR) ⟨⟨_, rfl⟩, by decide +kernel, Nat.le_of_ble_eq_true rfl, Nat.le_of_ble_eq_true rfl⟩ gX12_path_X12_laysPath (show ((wM cI cJ cB cZ bd t_1) : va_W)[0]? = some (_, .inr (12, _)) from rfl) rfl rfl hl.1 rfl (Nat.le_of_ble_eq_true rfl) dX12_path_26 ⟨Nat.le_of_ble_eq_true rfl, Nat.le_of_ble_eq_true rfl⟩ (fun r_6 t_6 H locs hR h => ?_)
              refine lv_if_ne (tgt := 35) hx hb dX12_path_29 (by decide) (fun c_7 => ?_) (fun c_7 => ?_)
              · have hR := hR.1 c_7
                refine lv_iload hx hb dX12_path_35 (lv_at hl 4 rfl) ?_
                refine lv_iconst (v := (-1)) hx hb dX12_path_37 (by decide) ?_
                refine lv_icmp_ne (tgt := 48) hx hb dX12_path_38 (by decide) (fun c_8 => ?_) (fun c_8 => ?_)
                · have hR := hR.1 c_8
                  refine lv_iload hx hb dX12_path_48 (lv_at hl 4 rfl) ?_
                  refine lv_aload_n hx hb dX12_path_50 rfl (lv_at hl 0 rfl) ?_
                  refine x_get (ci := 12) (C := RX12) (T := TX12) (N := 31) (v := .int (t_6.1 5)) B h hin12 0 18 rfl rfl (by decide) (by decide +kernel) rfl dX12_path_51 ?_
                  refine lv_icmp_ge (tgt := 67) hx hb dX12_path_54 (by decide) (fun c_9 => ?_) (fun c_9 => ?_)
                  · have hR := hR.1 c_9
                    refine lv_bipush (v := (-2)) hx hb dX12_path_67 (by decide) ?_
                    exact x_iret (w1 := (fun u : XT => (wM cI cJ cB cZ bd u))) t_6 B h hr rfl hR dX12_path_69
                  · have hR := hR.2 c_9
                    refine lv_aload_n hx hb dX12_path_57 rfl (lv_at hl 0 rfl) ?_
                    refine x_get (ci := 12) (C := RX12) (T := TX12) (N := 31) (v := .ref (bd 13)) B h hin12 0 17 rfl rfl (by decide) (by decide +kernel) rfl dX12_path_58 ?_
                    refine lv_iload hx hb dX12_path_61 (lv_at hl 4 rfl) ?_
                    obtain ⟨hb_10, hR⟩ := hR
                    refine va_iald (f := (t_6.2.2.1 10)) hx hb B.2.1 h.1 13 0 rfl rfl hb_10 dX12_path_63 ?_
                    refine lv_topi (fun v_10 ev_10 => ?_)
                    have hR := hR v_10 ev_10
                    refine lv_goto (tgt := 69) hx hb dX12_path_64 (by decide) ?_
                    exact x_iret (w1 := (fun u : XT => (wM cI cJ cB cZ bd u))) t_6 B h hr rfl hR dX12_path_69
                · have hR := hR.2 c_8
                  refine lv_aload_n hx hb dX12_path_41 rfl (lv_at hl 0 rfl) ?_
                  refine x_get (ci := 12) (C := RX12) (T := TX12) (N := 31) (v := .int (t_6.1 5)) B h hin12 0 18 rfl rfl (by decide) (by decide +kernel) rfl dX12_path_42 ?_
                  refine lv_goto (tgt := 69) hx hb dX12_path_45 (by decide) ?_
                  exact x_iret (w1 := (fun u : XT => (wM cI cJ cB cZ bd u))) t_6 B h hr rfl hR dX12_path_69
              · have hR := hR.2 c_7
                refine lv_bipush (v := (-2)) hx hb dX12_path_32 (by decide) ?_
                exact x_iret (w1 := (fun u : XT => (wM cI cJ cB cZ bd u))) t_6 B h hr rfl hR dX12_path_34
            · have hR := hR.2 c_4
              exact ih.2 t_1 li lj H locs ls hR (lv_sub hl [0, 1, 2, 3, 4] rfl) h
      · intro t li lj H locs ls hR hl h
        have hR : wbX12_path_1 (wpX12_path k) k t li lj Q := hR
        unfold wbX12_path_1 at hR
        refine lv_iconst (v := (-1)) hx hb dX12_path_19 (by decide) ?_
        exact x_iret (w1 := (fun u : XT => (wM cI cJ cB cZ bd u))) t B h hr rfl hR dX12_path_20
  exact (main k).1 t _ _ s.heap [] ls hR hl h
def wbX12_incidenceOf_0 (rec : Nat → XT → (Nat → Int32) → (Nat → Int64) → (Int64 → XT → Prop) → Prop) (k : Nat) (t : XT) (li : Nat → Int32) (lj : Nat → Int64) (Q : Int64 → XT → Prop) : Prop :=
  (wqX12_laysWays k t (li 2) (fun t_1 => rec 1 t_1 (uI li 5 0) (uI lj 3 0) Q))
def wbX12_incidenceOf_1 (rec : Nat → XT → (Nat → Int32) → (Nat → Int64) → (Int64 → XT → Prop) → Prop) (k : Nat) (t : XT) (li : Nat → Int32) (lj : Nat → Int64) (Q : Int64 → XT → Prop) : Prop :=
  ((((t.1 3) : Int32) ≤ (li 5)) → Q (lj 3) t) ∧ (¬ (((t.1 3) : Int32) ≤ (li 5)) → (wqX12_isFaceThere k t (li 5) (li 1) (fun r_3 t_3 => ((r_3 = 0) → rec 2 t_3 li (uI (uI lj 101 0) 100 (lj 3)) Q) ∧ (¬ (r_3 = 0) → (wqX12_signOf k t_3 (li 5) (li 1) (fun r_5 t_5 => (∀ v_6 : Int64, v_6 = r_5.toInt64 → (vp_in (li 5) 60 ∧ (∀ v_7 : Int64, v_7 = (t_5.2.2.2 1) (li 5).toNatClampNeg → (∀ v_8 : Int64, v_8 = (v_6 * v_7) → rec 2 t_5 li (uI (uI lj 101 v_8) 100 (lj 3)) Q))))))))))
def wbX12_incidenceOf_2 (rec : Nat → XT → (Nat → Int32) → (Nat → Int64) → (Int64 → XT → Prop) → Prop) (k : Nat) (t : XT) (li : Nat → Int32) (lj : Nat → Int64) (Q : Int64 → XT → Prop) : Prop :=
  (∀ v_9 : Int64, v_9 = ((lj 100) + (lj 101)) → (∀ v_10 : Int32, v_10 = (li 5) + Int32.ofInt 1 → rec 1 t (uI li 5 v_10) (uI lj 3 v_9) Q))
def wpX12_incidenceOf : Nat → Nat → XT → (Nat → Int32) → (Nat → Int64) → (Int64 → XT → Prop) → Prop
  | 0, _, _, _, _, _ => False
  | k + 1, 0, t, li, lj, Q => wbX12_incidenceOf_0 (wpX12_incidenceOf k) k t li lj Q
  | k + 1, 1, t, li, lj, Q => wbX12_incidenceOf_1 (wpX12_incidenceOf k) k t li lj Q
  | k + 1, 2, t, li, lj, Q => wbX12_incidenceOf_2 (wpX12_incidenceOf k) k t li lj Q
  | _ + 1, _, _, _, _, _ => False
def wqX12_incidenceOf (k : Nat) (t : XT) (a1 : Int32) (a2 : Int32) (Q : Int64 → XT → Prop) : Prop := wpX12_incidenceOf k 0 t (uI (uI (fun _ => 0) 1 a1) 2 a2) (fun _ => 0) Q
set_option maxHeartbeats 8000000 in
set_option maxRecDepth 100000 in
theorem wkX12_incidenceOf (l : Launch) (D : va_G) (cI cJ cB cZ : ClassId) (bd : Nat → Nat) (k : Nat) (t : XT) (a1 : Int32) (a2 : Int32) (Q : Int64 → XT → Prop) (hR : wqX12_incidenceOf k t a1 a2 Q) : MetL l yX12_incidenceOf wsX12_incidenceOf 6 135 0 0 D (TYS cI cJ cB cZ) (wM cI cJ cB cZ bd t) [.ref (bd 0), .int a1, .int a2] (fun r u => Q r u) (fun u : XT => (wM cI cJ cB cZ bd u)) := by
  refine x_startL (ty := .long) (cc := cX12_incidenceOf) (by decide) rfl (Nat.le_of_ble_eq_true rfl) ?_
  intro p e s m args below meth c A ls B hr hnm h hl
  have hx := B.1.1
  have hb := B.1.2.1
  have hml := B.1.2.2.1
  have hts := B.1.2.2.2.2
  have hown : s.vm.findClass RX12 = some m.cls := B.1.2.2.2.1
  have hin12 : ∀ w ∈ u_ws RX12 TX12 31, w ∈ wsX12_incidenceOf := by decide +kernel
  have main : ∀ k : Nat, (∀ (t : XT) (li : Nat → Int32) (lj : Nat → Int64) (H : Heap) (locs : List Loc) (ls : Array Slot), wpX12_incidenceOf k 0 t li lj Q → lv_has ls 6 [(0, .ref (bd 0)), (1, .int (li 1)), (2, .int (li 2))] → Hp D A s.heap (wM cI cJ cB cZ bd t) H locs → W p l e { frames := 6, cells := 0, slots := 0, locals := 135 } s m args below meth c H locs 0 0 (MQ below (va_Ql (fun r u => Q r u) (fun u t => xEnd D ((fun u : XT => (wM cI cJ cB cZ bd u)) u) A t) A) args s 0 0 A) (F0 m 0 ls [])) ∧
      (∀ (t : XT) (li : Nat → Int32) (lj : Nat → Int64) (H : Heap) (locs : List Loc) (ls : Array Slot), wpX12_incidenceOf k 1 t li lj Q → lv_has ls 6 [(0, .ref (bd 0)), (1, .int (li 1)), (2, .int (li 2)), (3, .long (lj 3)), (5, .int (li 5))] → Hp D A s.heap (wM cI cJ cB cZ bd t) H locs → W p l e { frames := 6, cells := 0, slots := 0, locals := 135 } s m args below meth c H locs 0 0 (MQ below (va_Ql (fun r u => Q r u) (fun u t => xEnd D ((fun u : XT => (wM cI cJ cB cZ bd u)) u) A t) A) args s 0 0 A) (F0 m 10 ls [])) ∧
      (∀ (t : XT) (li : Nat → Int32) (lj : Nat → Int64) (H : Heap) (locs : List Loc) (ls : Array Slot), wpX12_incidenceOf k 2 t li lj Q → lv_has ls 6 [(0, .ref (bd 0)), (1, .int (li 1)), (2, .int (li 2)), (3, .long (lj 3)), (5, .int (li 5))] → Hp D A s.heap (wM cI cJ cB cZ bd t) H locs → W p l e { frames := 6, cells := 0, slots := 0, locals := 135 } s m args below meth c H locs 0 0 (MQ below (va_Ql (fun r u => Q r u) (fun u t => xEnd D ((fun u : XT => (wM cI cJ cB cZ bd u)) u) A t) A) args s 0 0 A) (F0 m 50 ls [.long (lj 101), .long (lj 100)])) := by
    intro k
    induction k with
    | zero => exact ⟨fun _ _ _ _ _ _ hR => False.elim hR, fun _ _ _ _ _ _ hR => False.elim hR, fun _ _ _ _ _ _ hR => False.elim hR⟩
    | succ k ih =>
      refine ⟨?_, ?_, ?_⟩
      · intro t li lj H locs ls hR hl h
        have hR : wbX12_incidenceOf_0 (wpX12_incidenceOf k) k t li lj Q := hR
        unfold wbX12_incidenceOf_0 at hR
        refine lv_aload_n hx hb dX12_incidenceOf_0 rfl (lv_at hl 0 rfl) ?_
        refine lv_iload_n hx hb dX12_incidenceOf_1 rfl (lv_at hl 2 rfl) ?_
        refine x_cVVF (n := 1) (As := [.int (li 2)]) (rest := []) B h (wkX12_laysWays l D cI cJ cB cZ bd k t (li 2) _ hR) ⟨⟨_, rfl⟩, by decide +kernel, Nat.le_of_ble_eq_true rfl, Nat.le_of_ble_eq_true rfl⟩ gX12_incidenceOf_X12_laysWays (show ((wM cI cJ cB cZ bd t) : va_W)[0]? = some (_, .inr (12, _)) from rfl) rfl rfl hl.1 rfl (Nat.le_of_ble_eq_true rfl) dX12_incidenceOf_2 ⟨Nat.le_of_ble_eq_true rfl, Nat.le_of_ble_eq_true rfl⟩ (fun t_1 H locs hR h => ?_)
        refine lv_lconst (v := 0) hx hb dX12_incidenceOf_5 (by decide) ?_
        refine lv_lstore_n (lv' := [(3, .long 0), (0, .ref (bd 0)), (1, .int (li 1)), (2, .int (li 2))]) hx hb dX12_incidenceOf_6 rfl hl (by decide) rfl (fun ls hl => ?_)
        refine lv_iconst (v := 0) hx hb dX12_incidenceOf_7 (by decide) ?_
        refine lv_istore (lv' := [(5, .int 0), (3, .long 0), (0, .ref (bd 0)), (1, .int (li 1)), (2, .int (li 2))]) hx hb dX12_incidenceOf_8 hl (by decide) rfl (fun ls hl => ?_)
        exact ih.2.1 t_1 (uI li 5 0) (uI lj 3 0) H locs ls hR (lv_sub hl [2, 3, 4, 1, 0] rfl) h
      · intro t li lj H locs ls hR hl h
        have hR : wbX12_incidenceOf_1 (wpX12_incidenceOf k) k t li lj Q := hR
        unfold wbX12_incidenceOf_1 at hR
        refine lv_iload hx hb dX12_incidenceOf_10 (lv_at hl 4 rfl) ?_
        refine lv_aload_n hx hb dX12_incidenceOf_12 rfl (lv_at hl 0 rfl) ?_
        refine x_get (ci := 12) (C := RX12) (T := TX12) (N := 31) (v := .int (t.1 3)) B h hin12 0 5 rfl rfl (by decide) (by decide +kernel) rfl dX12_incidenceOf_13 ?_
        refine lv_icmp_ge (tgt := 58) hx hb dX12_incidenceOf_16 (by decide) (fun c_2 => ?_) (fun c_2 => ?_)
        · have hR := hR.1 c_2
          refine lv_lload_n hx hb dX12_incidenceOf_58 rfl (lv_at hl 3 rfl) ?_
          exact x_lret (w1 := (fun u : XT => (wM cI cJ cB cZ bd u))) t B h hr hR dX12_incidenceOf_59
        · have hR := hR.2 c_2
          refine lv_lload_n hx hb dX12_incidenceOf_19 rfl (lv_at hl 3 rfl) ?_
          refine lv_aload_n hx hb dX12_incidenceOf_20 rfl (lv_at hl 0 rfl) ?_
          refine lv_iload hx hb dX12_incidenceOf_21 (lv_at hl 4 rfl) ?_
          refine lv_iload_n hx hb dX12_incidenceOf_23 rfl (lv_at hl 1 rfl) ?_
          refine x_cVIF (n := 2) (As := [.int (li 5), .int (li 1)]) (rest := [.long (lj 3)]) B h (wkX12_isFaceThere l D cI cJ cB cZ bd k t (li 5) (li 1) _ hR) ⟨⟨_, rfl⟩, by decide +kernel, Nat.le_of_ble_eq_true rfl, Nat.le_of_ble_eq_true rfl⟩ gX12_incidenceOf_X12_isFaceThere (show ((wM cI cJ cB cZ bd t) : va_W)[0]? = some (_, .inr (12, _)) from rfl) rfl rfl hl.1 rfl (Nat.le_of_ble_eq_true rfl) dX12_incidenceOf_24 ⟨Nat.le_of_ble_eq_true rfl, Nat.le_of_ble_eq_true rfl⟩ (fun r_3 t_3 H locs hR h => ?_)
          refine lv_if_eq (tgt := 49) hx hb dX12_incidenceOf_27 (by decide) (fun c_4 => ?_) (fun c_4 => ?_)
          · have hR := hR.1 c_4
            refine lv_lconst (v := 0) hx hb dX12_incidenceOf_49 (by decide) ?_
            exact ih.2.2 t_3 li (uI (uI lj 101 0) 100 (lj 3)) H locs ls hR (lv_sub hl [0, 1, 2, 3, 4] rfl) h
          · have hR := hR.2 c_4
            refine lv_aload_n hx hb dX12_incidenceOf_30 rfl (lv_at hl 0 rfl) ?_
            refine lv_iload hx hb dX12_incidenceOf_31 (lv_at hl 4 rfl) ?_
            refine lv_iload_n hx hb dX12_incidenceOf_33 rfl (lv_at hl 1 rfl) ?_
            refine x_cVIF (n := 2) (As := [.int (li 5), .int (li 1)]) (rest := [.long (lj 3)]) B h (wkX12_signOf l D cI cJ cB cZ bd k t_3 (li 5) (li 1) _ hR) ⟨⟨_, rfl⟩, by decide +kernel, Nat.le_of_ble_eq_true rfl, Nat.le_of_ble_eq_true rfl⟩ gX12_incidenceOf_X12_signOf (show ((wM cI cJ cB cZ bd t_3) : va_W)[0]? = some (_, .inr (12, _)) from rfl) rfl rfl hl.1 rfl (Nat.le_of_ble_eq_true rfl) dX12_incidenceOf_34 ⟨Nat.le_of_ble_eq_true rfl, Nat.le_of_ble_eq_true rfl⟩ (fun r_5 t_5 H locs hR h => ?_)
            obtain ⟨v_6, ev_6⟩ : ∃ v : Int64, v = r_5.toInt64 := ⟨_, rfl⟩
            have hR := hR v_6 ev_6
            refine lv_i2l (v := v_6) hx hb dX12_incidenceOf_37 ev_6.symm ?_
            refine lv_aload_n hx hb dX12_incidenceOf_38 rfl (lv_at hl 0 rfl) ?_
            refine x_get (ci := 12) (C := RX12) (T := TX12) (N := 31) (v := .ref (bd 12)) B h hin12 0 16 rfl rfl (by decide) (by decide +kernel) rfl dX12_incidenceOf_39 ?_
            refine lv_iload hx hb dX12_incidenceOf_42 (lv_at hl 4 rfl) ?_
            obtain ⟨hb_7, hR⟩ := hR
            refine va_lald (f := (t_5.2.2.2 1)) hx hb B.2.1 h.1 12 1 rfl rfl hb_7 dX12_incidenceOf_44 ?_
            refine lv_topl (fun v_7 ev_7 => ?_)
            have hR := hR v_7 ev_7
            refine lv_lmul hx hb dX12_incidenceOf_45 ?_
            refine lv_topl (fun v_8 ev_8 => ?_)
            have hR := hR v_8 ev_8
            refine lv_goto (tgt := 50) hx hb dX12_incidenceOf_46 (by decide) ?_
            exact ih.2.2 t_5 li (uI (uI lj 101 v_8) 100 (lj 3)) H locs ls hR (lv_sub hl [0, 1, 2, 3, 4] rfl) h
      · intro t li lj H locs ls hR hl h
        have hR : wbX12_incidenceOf_2 (wpX12_incidenceOf k) k t li lj Q := hR
        unfold wbX12_incidenceOf_2 at hR
        refine lv_ladd hx hb dX12_incidenceOf_50 ?_
        refine lv_topl (fun v_9 ev_9 => ?_)
        have hR := hR v_9 ev_9
        refine lv_lstore_n (lv' := [(3, .long v_9), (0, .ref (bd 0)), (1, .int (li 1)), (2, .int (li 2)), (5, .int (li 5))]) hx hb dX12_incidenceOf_51 rfl hl (by decide) rfl (fun ls hl => ?_)
        obtain ⟨v_10, ev_10⟩ : ∃ v : Int32, v = (li 5) + Int32.ofInt 1 := ⟨_, rfl⟩
        have hR := hR v_10 ev_10
        refine lv_iinc (v := v_10) (lv' := [(5, .int v_10), (3, .long v_9), (0, .ref (bd 0)), (1, .int (li 1)), (2, .int (li 2))]) hx hb dX12_incidenceOf_52 hl (k := 4) rfl ev_10.symm (by decide) rfl (fun ls hl => ?_)
        refine lv_goto (tgt := 10) hx hb dX12_incidenceOf_55 (by decide) ?_
        exact ih.2.1 t (uI li 5 v_10) (uI lj 3 v_9) H locs ls hR (lv_sub hl [2, 3, 4, 1, 0] rfl) h
  exact (main k).1 t _ _ s.heap [] ls hR hl h
def wbX12_incidence_0 (rec : Nat → XT → (Nat → Int32) → (Nat → Int64) → (Int64 → XT → Prop) → Prop) (k : Nat) (t : XT) (li : Nat → Int32) (lj : Nat → Int64) (Q : Int64 → XT → Prop) : Prop :=
  (wqX12_areEnds k t (li 1) (li 2) (fun r_1 t_1 => ((r_1 = 0) → Q (-9223372036854775808) t_1) ∧ (¬ (r_1 = 0) → (wqX12_incidenceOf k t_1 (li 1) (li 2) (fun r_3 t_3 => Q r_3 t_3)))))
def wpX12_incidence : Nat → Nat → XT → (Nat → Int32) → (Nat → Int64) → (Int64 → XT → Prop) → Prop
  | 0, _, _, _, _, _ => False
  | k + 1, 0, t, li, lj, Q => wbX12_incidence_0 (wpX12_incidence k) k t li lj Q
  | _ + 1, _, _, _, _, _ => False
def wqX12_incidence (k : Nat) (t : XT) (a1 : Int32) (a2 : Int32) (Q : Int64 → XT → Prop) : Prop := wpX12_incidence k 0 t (uI (uI (fun _ => 0) 1 a1) 2 a2) (fun _ => 0) Q
set_option maxHeartbeats 8000000 in
set_option maxRecDepth 100000 in
theorem wkX12_incidence (l : Launch) (D : va_G) (cI cJ cB cZ : ClassId) (bd : Nat → Nat) (k : Nat) (t : XT) (a1 : Int32) (a2 : Int32) (Q : Int64 → XT → Prop) (hR : wqX12_incidence k t a1 a2 Q) : MetL l yX12_incidence wsX12_incidence 7 160 0 0 D (TYS cI cJ cB cZ) (wM cI cJ cB cZ bd t) [.ref (bd 0), .int a1, .int a2] (fun r u => Q r u) (fun u : XT => (wM cI cJ cB cZ bd u)) := by
  refine x_startL (ty := .long) (cc := cX12_incidence) (by decide) rfl (Nat.le_of_ble_eq_true rfl) ?_
  intro p e s m args below meth c A ls B hr hnm h hl
  have hx := B.1.1
  have hb := B.1.2.1
  have hml := B.1.2.2.1
  have hts := B.1.2.2.2.2
  have hown : s.vm.findClass RX12 = some m.cls := B.1.2.2.2.1
  have main : ∀ k : Nat, (∀ (t : XT) (li : Nat → Int32) (lj : Nat → Int64) (H : Heap) (locs : List Loc) (ls : Array Slot), wpX12_incidence k 0 t li lj Q → lv_has ls 3 [(0, .ref (bd 0)), (1, .int (li 1)), (2, .int (li 2))] → Hp D A s.heap (wM cI cJ cB cZ bd t) H locs → W p l e { frames := 7, cells := 0, slots := 0, locals := 160 } s m args below meth c H locs 0 0 (MQ below (va_Ql (fun r u => Q r u) (fun u t => xEnd D ((fun u : XT => (wM cI cJ cB cZ bd u)) u) A t) A) args s 0 0 A) (F0 m 0 ls [])) := by
    intro k
    induction k with
    | zero => exact fun _ _ _ _ _ _ hR => False.elim hR
    | succ k ih =>
      intro t li lj H locs ls hR hl h
      have hR : wbX12_incidence_0 (wpX12_incidence k) k t li lj Q := hR
      unfold wbX12_incidence_0 at hR
      refine lv_aload_n hx hb dX12_incidence_0 rfl (lv_at hl 0 rfl) ?_
      refine lv_iload_n hx hb dX12_incidence_1 rfl (lv_at hl 1 rfl) ?_
      refine lv_iload_n hx hb dX12_incidence_2 rfl (lv_at hl 2 rfl) ?_
      refine x_cVIF (n := 2) (As := [.int (li 1), .int (li 2)]) (rest := []) B h (wkX12_areEnds l D cI cJ cB cZ bd k t (li 1) (li 2) _ hR) ⟨⟨_, rfl⟩, by decide +kernel, Nat.le_of_ble_eq_true rfl, Nat.le_of_ble_eq_true rfl⟩ gX12_incidence_X12_areEnds (show ((wM cI cJ cB cZ bd t) : va_W)[0]? = some (_, .inr (12, _)) from rfl) rfl rfl hl.1 rfl (Nat.le_of_ble_eq_true rfl) dX12_incidence_3 ⟨Nat.le_of_ble_eq_true rfl, Nat.le_of_ble_eq_true rfl⟩ (fun r_1 t_1 H locs hR h => ?_)
      refine lv_if_eq (tgt := 18) hx hb dX12_incidence_6 (by decide) (fun c_2 => ?_) (fun c_2 => ?_)
      · have hR := hR.1 c_2
        refine lv_ldc2 (v := (-9223372036854775808)) hx hb hown (hts (.constantLong RX12 241 (-9223372036854775808)) (by decide +kernel)) dX12_incidence_18 ?_
        exact x_lret (w1 := (fun u : XT => (wM cI cJ cB cZ bd u))) t_1 B h hr hR dX12_incidence_21
      · have hR := hR.2 c_2
        refine lv_aload_n hx hb dX12_incidence_9 rfl (lv_at hl 0 rfl) ?_
        refine lv_iload_n hx hb dX12_incidence_10 rfl (lv_at hl 1 rfl) ?_
        refine lv_iload_n hx hb dX12_incidence_11 rfl (lv_at hl 2 rfl) ?_
        refine x_cVLF (n := 2) (As := [.int (li 1), .int (li 2)]) (rest := []) B h (wkX12_incidenceOf l D cI cJ cB cZ bd k t_1 (li 1) (li 2) _ hR) ⟨⟨_, rfl⟩, by decide +kernel, Nat.le_of_ble_eq_true rfl, Nat.le_of_ble_eq_true rfl⟩ gX12_incidence_X12_incidenceOf (show ((wM cI cJ cB cZ bd t_1) : va_W)[0]? = some (_, .inr (12, _)) from rfl) rfl rfl hl.1 rfl (Nat.le_of_ble_eq_true rfl) dX12_incidence_12 ⟨Nat.le_of_ble_eq_true rfl, Nat.le_of_ble_eq_true rfl⟩ (fun r_3 t_3 H locs hR h => ?_)
        refine lv_goto (tgt := 21) hx hb dX12_incidence_15 (by decide) ?_
        exact x_lret (w1 := (fun u : XT => (wM cI cJ cB cZ bd u))) t_3 B h hr hR dX12_incidence_21
  exact (main k) t _ _ s.heap [] ls hR hl h
def wbX12_laysLink_0 (rec : Nat → XT → (Nat → Int32) → (Nat → Int64) → (Int32 → XT → Prop) → Prop) (k : Nat) (t : XT) (li : Nat → Int32) (lj : Nat → Int64) (Q : Int32 → XT → Prop) : Prop :=
  (vp_in (li 1) 60 ∧ (∀ v_1 : Int32, v_1 = (t.2.2.1 4) (li 1).toNatClampNeg → rec 1 t (uI (uI li 2 v_1) 5 0) (uI lj 3 0) Q))
def wbX12_laysLink_1 (rec : Nat → XT → (Nat → Int32) → (Nat → Int64) → (Int32 → XT → Prop) → Prop) (k : Nat) (t : XT) (li : Nat → Int32) (lj : Nat → Int64) (Q : Int32 → XT → Prop) : Prop :=
  ((((t.1 3) : Int32) ≤ (li 5)) → (wqX12_signOf k t (li 2) (li 1) (fun r_3 t_3 => (∀ v_4 : Int32, v_4 = (-r_3) → (∀ v_5 : Int64, v_5 = v_4.toInt64 → (∀ v_6 : Int64, v_6 = (v_5 * (lj 3)) → (vp_in (li 1) 60 ∧ (∀ t_7 : XT, t_7 = sB t_3 3 (vp_updL (t_3.2.2.2 3) (li 1).toNatClampNeg v_6) → Q 1 t_7)))))))) ∧ (¬ (((t.1 3) : Int32) ≤ (li 5)) → (((li 5) = (li 1)) → rec 2 t li lj Q) ∧ (¬ ((li 5) = (li 1)) → (wqX12_isFaceThere k t (li 2) (li 5) (fun r_9 t_9 => ((¬ r_9 = 0) → (vp_in (li 5) 60 ∧ (∀ v_11 : Int64, v_11 = (t_9.2.2.2 3) (li 5).toNatClampNeg → (∀ v_12 : Int32, v_12 = (lg_cmp v_11 (-9223372036854775807)) → ((¬ v_12 = 0) → (wqX12_signOf k t_9 (li 2) (li 5) (fun r_14 t_14 => (∀ v_15 : Int64, v_15 = r_14.toInt64 → (vp_in (li 5) 60 ∧ (∀ v_16 : Int64, v_16 = (t_14.2.2.2 3) (li 5).toNatClampNeg → (∀ v_17 : Int64, v_17 = (v_15 * v_16) → (∀ v_18 : Int64, v_18 = ((lj 3) + v_17) → rec 2 t_14 li (uI lj 3 v_18) Q)))))))) ∧ ((v_12 = 0) → Q 0 t_9))))) ∧ ((r_9 = 0) → rec 2 t_9 li lj Q)))))
def wbX12_laysLink_2 (rec : Nat → XT → (Nat → Int32) → (Nat → Int64) → (Int32 → XT → Prop) → Prop) (k : Nat) (t : XT) (li : Nat → Int32) (lj : Nat → Int64) (Q : Int32 → XT → Prop) : Prop :=
  (∀ v_19 : Int32, v_19 = (li 5) + Int32.ofInt 1 → rec 1 t (uI li 5 v_19) lj Q)
def wpX12_laysLink : Nat → Nat → XT → (Nat → Int32) → (Nat → Int64) → (Int32 → XT → Prop) → Prop
  | 0, _, _, _, _, _ => False
  | k + 1, 0, t, li, lj, Q => wbX12_laysLink_0 (wpX12_laysLink k) k t li lj Q
  | k + 1, 1, t, li, lj, Q => wbX12_laysLink_1 (wpX12_laysLink k) k t li lj Q
  | k + 1, 2, t, li, lj, Q => wbX12_laysLink_2 (wpX12_laysLink k) k t li lj Q
  | _ + 1, _, _, _, _, _ => False
def wqX12_laysLink (k : Nat) (t : XT) (a1 : Int32) (Q : Int32 → XT → Prop) : Prop := wpX12_laysLink k 0 t (uI (fun _ => 0) 1 a1) (fun _ => 0) Q
set_option maxHeartbeats 8000000 in
set_option maxRecDepth 100000 in
theorem wkX12_laysLink (l : Launch) (D : va_G) (cI cJ cB cZ : ClassId) (bd : Nat → Nat) (k : Nat) (t : XT) (a1 : Int32) (Q : Int32 → XT → Prop) (hR : wqX12_laysLink k t a1 Q) : MetI l yX12_laysLink wsX12_laysLink 4 85 0 0 D (TYS cI cJ cB cZ) (wM cI cJ cB cZ bd t) [.ref (bd 0), .int a1] (fun r u => Q r u) (fun u : XT => (wM cI cJ cB cZ bd u)) := by
  refine x_startI (ty := .boolean) (cc := cX12_laysLink) (by decide) rfl (Nat.le_of_ble_eq_true rfl) ?_
  intro p e s m args below meth c A ls B hr hnm h hl
  have hx := B.1.1
  have hb := B.1.2.1
  have hml := B.1.2.2.1
  have hts := B.1.2.2.2.2
  have hown : s.vm.findClass RX12 = some m.cls := B.1.2.2.2.1
  have hin12 : ∀ w ∈ u_ws RX12 TX12 31, w ∈ wsX12_laysLink := by decide +kernel
  have main : ∀ k : Nat, (∀ (t : XT) (li : Nat → Int32) (lj : Nat → Int64) (H : Heap) (locs : List Loc) (ls : Array Slot), wpX12_laysLink k 0 t li lj Q → lv_has ls 6 [(0, .ref (bd 0)), (1, .int (li 1))] → Hp D A s.heap (wM cI cJ cB cZ bd t) H locs → W p l e { frames := 4, cells := 0, slots := 0, locals := 85 } s m args below meth c H locs 0 0 (MQ below (va_Qi (fun r u => Q r u) (fun u t => xEnd D ((fun u : XT => (wM cI cJ cB cZ bd u)) u) A t) A) args s 0 0 A) (F0 m 0 ls [])) ∧
      (∀ (t : XT) (li : Nat → Int32) (lj : Nat → Int64) (H : Heap) (locs : List Loc) (ls : Array Slot), wpX12_laysLink k 1 t li lj Q → lv_has ls 6 [(0, .ref (bd 0)), (1, .int (li 1)), (2, .int (li 2)), (3, .long (lj 3)), (5, .int (li 5))] → Hp D A s.heap (wM cI cJ cB cZ bd t) H locs → W p l e { frames := 4, cells := 0, slots := 0, locals := 85 } s m args below meth c H locs 0 0 (MQ below (va_Qi (fun r u => Q r u) (fun u t => xEnd D ((fun u : XT => (wM cI cJ cB cZ bd u)) u) A t) A) args s 0 0 A) (F0 m 12 ls [])) ∧
      (∀ (t : XT) (li : Nat → Int32) (lj : Nat → Int64) (H : Heap) (locs : List Loc) (ls : Array Slot), wpX12_laysLink k 2 t li lj Q → lv_has ls 6 [(0, .ref (bd 0)), (1, .int (li 1)), (2, .int (li 2)), (3, .long (lj 3)), (5, .int (li 5))] → Hp D A s.heap (wM cI cJ cB cZ bd t) H locs → W p l e { frames := 4, cells := 0, slots := 0, locals := 85 } s m args below meth c H locs 0 0 (MQ below (va_Qi (fun r u => Q r u) (fun u t => xEnd D ((fun u : XT => (wM cI cJ cB cZ bd u)) u) A t) A) args s 0 0 A) (F0 m 75 ls [])) := by
    intro k
    induction k with
    | zero => exact ⟨fun _ _ _ _ _ _ hR => False.elim hR, fun _ _ _ _ _ _ hR => False.elim hR, fun _ _ _ _ _ _ hR => False.elim hR⟩
    | succ k ih =>
      refine ⟨?_, ?_, ?_⟩
      · intro t li lj H locs ls hR hl h
        have hR : wbX12_laysLink_0 (wpX12_laysLink k) k t li lj Q := hR
        unfold wbX12_laysLink_0 at hR
        refine lv_aload_n hx hb dX12_laysLink_0 rfl (lv_at hl 0 rfl) ?_
        refine x_get (ci := 12) (C := RX12) (T := TX12) (N := 31) (v := .ref (bd 5)) B h hin12 0 8 rfl rfl (by decide) (by decide +kernel) rfl dX12_laysLink_1 ?_
        refine lv_iload_n hx hb dX12_laysLink_4 rfl (lv_at hl 1 rfl) ?_
        obtain ⟨hb_1, hR⟩ := hR
        refine va_iald (f := (t.2.2.1 4)) hx hb B.2.1 h.1 5 0 rfl rfl hb_1 dX12_laysLink_5 ?_
        refine lv_topi (fun v_1 ev_1 => ?_)
        have hR := hR v_1 ev_1
        refine lv_istore_n (lv' := [(2, .int v_1), (0, .ref (bd 0)), (1, .int (li 1))]) hx hb dX12_laysLink_6 rfl hl (by decide) rfl (fun ls hl => ?_)
        refine lv_lconst (v := 0) hx hb dX12_laysLink_7 (by decide) ?_
        refine lv_lstore_n (lv' := [(3, .long 0), (2, .int v_1), (0, .ref (bd 0)), (1, .int (li 1))]) hx hb dX12_laysLink_8 rfl hl (by decide) rfl (fun ls hl => ?_)
        refine lv_iconst (v := 0) hx hb dX12_laysLink_9 (by decide) ?_
        refine lv_istore (lv' := [(5, .int 0), (3, .long 0), (2, .int v_1), (0, .ref (bd 0)), (1, .int (li 1))]) hx hb dX12_laysLink_10 hl (by decide) rfl (fun ls hl => ?_)
        exact ih.2.1 t (uI (uI li 2 v_1) 5 0) (uI lj 3 0) H locs ls hR (lv_sub hl [3, 4, 2, 1, 0] rfl) h
      · intro t li lj H locs ls hR hl h
        have hR : wbX12_laysLink_1 (wpX12_laysLink k) k t li lj Q := hR
        unfold wbX12_laysLink_1 at hR
        refine lv_iload hx hb dX12_laysLink_12 (lv_at hl 4 rfl) ?_
        refine lv_aload_n hx hb dX12_laysLink_14 rfl (lv_at hl 0 rfl) ?_
        refine x_get (ci := 12) (C := RX12) (T := TX12) (N := 31) (v := .int (t.1 3)) B h hin12 0 5 rfl rfl (by decide) (by decide +kernel) rfl dX12_laysLink_15 ?_
        refine lv_icmp_ge (tgt := 81) hx hb dX12_laysLink_18 (by decide) (fun c_2 => ?_) (fun c_2 => ?_)
        · have hR := hR.1 c_2
          refine lv_aload_n hx hb dX12_laysLink_81 rfl (lv_at hl 0 rfl) ?_
          refine x_get (ci := 12) (C := RX12) (T := TX12) (N := 31) (v := .ref (bd 15)) B h hin12 0 20 rfl rfl (by decide) (by decide +kernel) rfl dX12_laysLink_82 ?_
          refine lv_iload_n hx hb dX12_laysLink_85 rfl (lv_at hl 1 rfl) ?_
          refine lv_aload_n hx hb dX12_laysLink_86 rfl (lv_at hl 0 rfl) ?_
          refine lv_iload_n hx hb dX12_laysLink_87 rfl (lv_at hl 2 rfl) ?_
          refine lv_iload_n hx hb dX12_laysLink_88 rfl (lv_at hl 1 rfl) ?_
          refine x_cVIF (n := 2) (As := [.int (li 2), .int (li 1)]) (rest := [.int (li 1), .ref (bd 15)]) B h (wkX12_signOf l D cI cJ cB cZ bd k t (li 2) (li 1) _ hR) ⟨⟨_, rfl⟩, by decide +kernel, Nat.le_of_ble_eq_true rfl, Nat.le_of_ble_eq_true rfl⟩ gX12_laysLink_X12_signOf (show ((wM cI cJ cB cZ bd t) : va_W)[0]? = some (_, .inr (12, _)) from rfl) rfl rfl hl.1 rfl (Nat.le_of_ble_eq_true rfl) dX12_laysLink_89 ⟨Nat.le_of_ble_eq_true rfl, Nat.le_of_ble_eq_true rfl⟩ (fun r_3 t_3 H locs hR h => ?_)
          refine lv_ineg hx hb dX12_laysLink_92 ?_
          refine lv_topi (fun v_4 ev_4 => ?_)
          have hR := hR v_4 ev_4
          obtain ⟨v_5, ev_5⟩ : ∃ v : Int64, v = v_4.toInt64 := ⟨_, rfl⟩
          have hR := hR v_5 ev_5
          refine lv_i2l (v := v_5) hx hb dX12_laysLink_93 ev_5.symm ?_
          refine lv_lload_n hx hb dX12_laysLink_94 rfl (lv_at hl 3 rfl) ?_
          refine lv_lmul hx hb dX12_laysLink_95 ?_
          refine lv_topl (fun v_6 ev_6 => ?_)
          have hR := hR v_6 ev_6
          obtain ⟨hb_7, hR⟩ := hR
          refine z_last (f := (t_3.2.2.2 3)) B h 15 1 rfl rfl hb_7 dX12_laysLink_96 (fun H locs h => ?_)
          obtain ⟨t_7, et_7⟩ : ∃ v : XT, v = sB t_3 3 (vp_updL (t_3.2.2.2 3) (li 1).toNatClampNeg v_6) := ⟨_, rfl⟩
          have hR := hR t_7 et_7
          have h : Hp D A s.heap (wM cI cJ cB cZ bd t_7) H locs := by rw [et_7]; exact h
          refine lv_iconst (v := 1) hx hb dX12_laysLink_97 (by decide) ?_
          exact x_iret (w1 := (fun u : XT => (wM cI cJ cB cZ bd u))) t_7 B h hr rfl hR dX12_laysLink_98
        · have hR := hR.2 c_2
          refine lv_iload hx hb dX12_laysLink_21 (lv_at hl 4 rfl) ?_
          refine lv_iload_n hx hb dX12_laysLink_23 rfl (lv_at hl 1 rfl) ?_
          refine lv_icmp_eq (tgt := 75) hx hb dX12_laysLink_24 (by decide) (fun c_8 => ?_) (fun c_8 => ?_)
          · have hR := hR.1 c_8
            exact ih.2.2 t li lj H locs ls hR (lv_sub hl [0, 1, 2, 3, 4] rfl) h
          · have hR := hR.2 c_8
            refine lv_aload_n hx hb dX12_laysLink_27 rfl (lv_at hl 0 rfl) ?_
            refine lv_iload_n hx hb dX12_laysLink_28 rfl (lv_at hl 2 rfl) ?_
            refine lv_iload hx hb dX12_laysLink_29 (lv_at hl 4 rfl) ?_
            refine x_cVIF (n := 2) (As := [.int (li 2), .int (li 5)]) (rest := []) B h (wkX12_isFaceThere l D cI cJ cB cZ bd k t (li 2) (li 5) _ hR) ⟨⟨_, rfl⟩, by decide +kernel, Nat.le_of_ble_eq_true rfl, Nat.le_of_ble_eq_true rfl⟩ gX12_laysLink_X12_isFaceThere (show ((wM cI cJ cB cZ bd t) : va_W)[0]? = some (_, .inr (12, _)) from rfl) rfl rfl hl.1 rfl (Nat.le_of_ble_eq_true rfl) dX12_laysLink_31 ⟨Nat.le_of_ble_eq_true rfl, Nat.le_of_ble_eq_true rfl⟩ (fun r_9 t_9 H locs hR h => ?_)
            refine lv_if_ne (tgt := 40) hx hb dX12_laysLink_34 (by decide) (fun c_10 => ?_) (fun c_10 => ?_)
            · have hR := hR.1 c_10
              refine lv_aload_n hx hb dX12_laysLink_40 rfl (lv_at hl 0 rfl) ?_
              refine x_get (ci := 12) (C := RX12) (T := TX12) (N := 31) (v := .ref (bd 15)) B h hin12 0 20 rfl rfl (by decide) (by decide +kernel) rfl dX12_laysLink_41 ?_
              refine lv_iload hx hb dX12_laysLink_44 (lv_at hl 4 rfl) ?_
              obtain ⟨hb_11, hR⟩ := hR
              refine va_lald (f := (t_9.2.2.2 3)) hx hb B.2.1 h.1 15 1 rfl rfl hb_11 dX12_laysLink_46 ?_
              refine lv_topl (fun v_11 ev_11 => ?_)
              have hR := hR v_11 ev_11
              refine lv_ldc2 (v := (-9223372036854775807)) hx hb hown (hts (.constantLong RX12 221 (-9223372036854775807)) (by decide +kernel)) dX12_laysLink_47 ?_
              refine W.lcmp hx hb dX12_laysLink_50 ?_
              refine lv_topi (fun v_12 ev_12 => ?_)
              have hR := hR v_12 ev_12
              refine lv_if_ne (tgt := 56) hx hb dX12_laysLink_51 (by decide) (fun c_13 => ?_) (fun c_13 => ?_)
              · have hR := hR.1 c_13
                refine lv_lload_n hx hb dX12_laysLink_56 rfl (lv_at hl 3 rfl) ?_
                refine lv_aload_n hx hb dX12_laysLink_57 rfl (lv_at hl 0 rfl) ?_
                refine lv_iload_n hx hb dX12_laysLink_58 rfl (lv_at hl 2 rfl) ?_
                refine lv_iload hx hb dX12_laysLink_59 (lv_at hl 4 rfl) ?_
                refine x_cVIF (n := 2) (As := [.int (li 2), .int (li 5)]) (rest := [.long (lj 3)]) B h (wkX12_signOf l D cI cJ cB cZ bd k t_9 (li 2) (li 5) _ hR) ⟨⟨_, rfl⟩, by decide +kernel, Nat.le_of_ble_eq_true rfl, Nat.le_of_ble_eq_true rfl⟩ gX12_laysLink_X12_signOf (show ((wM cI cJ cB cZ bd t_9) : va_W)[0]? = some (_, .inr (12, _)) from rfl) rfl rfl hl.1 rfl (Nat.le_of_ble_eq_true rfl) dX12_laysLink_61 ⟨Nat.le_of_ble_eq_true rfl, Nat.le_of_ble_eq_true rfl⟩ (fun r_14 t_14 H locs hR h => ?_)
                obtain ⟨v_15, ev_15⟩ : ∃ v : Int64, v = r_14.toInt64 := ⟨_, rfl⟩
                have hR := hR v_15 ev_15
                refine lv_i2l (v := v_15) hx hb dX12_laysLink_64 ev_15.symm ?_
                refine lv_aload_n hx hb dX12_laysLink_65 rfl (lv_at hl 0 rfl) ?_
                refine x_get (ci := 12) (C := RX12) (T := TX12) (N := 31) (v := .ref (bd 15)) B h hin12 0 20 rfl rfl (by decide) (by decide +kernel) rfl dX12_laysLink_66 ?_
                refine lv_iload hx hb dX12_laysLink_69 (lv_at hl 4 rfl) ?_
                obtain ⟨hb_16, hR⟩ := hR
                refine va_lald (f := (t_14.2.2.2 3)) hx hb B.2.1 h.1 15 1 rfl rfl hb_16 dX12_laysLink_71 ?_
                refine lv_topl (fun v_16 ev_16 => ?_)
                have hR := hR v_16 ev_16
                refine lv_lmul hx hb dX12_laysLink_72 ?_
                refine lv_topl (fun v_17 ev_17 => ?_)
                have hR := hR v_17 ev_17
                refine lv_ladd hx hb dX12_laysLink_73 ?_
                refine lv_topl (fun v_18 ev_18 => ?_)
                have hR := hR v_18 ev_18
                refine lv_lstore_n (lv' := [(3, .long v_18), (0, .ref (bd 0)), (1, .int (li 1)), (2, .int (li 2)), (5, .int (li 5))]) hx hb dX12_laysLink_74 rfl hl (by decide) rfl (fun ls hl => ?_)
                exact ih.2.2 t_14 li (uI lj 3 v_18) H locs ls hR (lv_sub hl [1, 2, 3, 0, 4] rfl) h
              · have hR := hR.2 c_13
                refine lv_iconst (v := 0) hx hb dX12_laysLink_54 (by decide) ?_
                exact x_iret (w1 := (fun u : XT => (wM cI cJ cB cZ bd u))) t_9 B h hr rfl hR dX12_laysLink_55
            · have hR := hR.2 c_10
              refine lv_goto (tgt := 75) hx hb dX12_laysLink_37 (by decide) ?_
              exact ih.2.2 t_9 li lj H locs ls hR (lv_sub hl [0, 1, 2, 3, 4] rfl) h
      · intro t li lj H locs ls hR hl h
        have hR : wbX12_laysLink_2 (wpX12_laysLink k) k t li lj Q := hR
        unfold wbX12_laysLink_2 at hR
        obtain ⟨v_19, ev_19⟩ : ∃ v : Int32, v = (li 5) + Int32.ofInt 1 := ⟨_, rfl⟩
        have hR := hR v_19 ev_19
        refine lv_iinc (v := v_19) (lv' := [(5, .int v_19), (0, .ref (bd 0)), (1, .int (li 1)), (2, .int (li 2)), (3, .long (lj 3))]) hx hb dX12_laysLink_75 hl (k := 4) rfl ev_19.symm (by decide) rfl (fun ls hl => ?_)
        refine lv_goto (tgt := 12) hx hb dX12_laysLink_78 (by decide) ?_
        exact ih.2.1 t (uI li 5 v_19) lj H locs ls hR (lv_sub hl [1, 2, 3, 4, 0] rfl) h
  exact (main k).1 t _ _ s.heap [] ls hR hl h
