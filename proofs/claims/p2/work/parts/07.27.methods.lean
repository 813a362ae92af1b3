set_option maxRecDepth 20000 in
theorem ggX12_level_X12_in : GoodIn wsX12_level wsX12_in := goodIn_r _ [6] (by decide +kernel) (by decide +kernel)
set_option maxRecDepth 20000 in
theorem gX12_level_X12_in : GoodIn wsX12_level (va_wsS RX12 101 yX12_in wsX12_in) := goodIn_app (goodIn_of _ (by decide +kernel)) ggX12_level_X12_in
set_option maxRecDepth 20000 in
theorem ggX12_level_X12_laysHeights : GoodIn wsX12_level wsX12_laysHeights := goodIn_r _ [10, 1, 2, 11, 12, 13, 14, 5, 15, 16, 17, 18, 19, 20, 21, 22, 23, 24, 25, 26, 27, 28, 29, 30, 31, 32, 45, 46, 47, 48, 49, 50, 51, 52, 53, 54, 55, 56, 57, 58, 59, 60, 61, 62, 63, 64, 65, 66, 67, 68, 69, 70, 71, 72, 73, 74, 75] (by decide +kernel) (by decide +kernel)
set_option maxRecDepth 20000 in
theorem gX12_level_X12_laysHeights : GoodIn wsX12_level (wsV RX12 173 RX12 yX12_laysHeights wsX12_laysHeights) := goodIn_app (goodIn_of _ (by decide +kernel)) ggX12_level_X12_laysHeights
set_option maxRecDepth 20000 in
theorem ggX12_level_X12_isThere : GoodIn wsX12_level wsX12_isThere := goodIn_r _ [36, 16, 37, 38, 39, 5, 40, 1, 3, 4, 6, 45, 46, 47, 48, 49, 50, 51, 52, 53, 54, 55, 56, 57, 58, 59, 60, 61, 62, 63, 64, 65, 66, 67, 68, 69, 70, 71, 72, 73, 74, 75] (by decide +kernel) (by decide +kernel)
set_option maxRecDepth 20000 in
theorem gX12_level_X12_isThere : GoodIn wsX12_level (wsV RX12 156 RX12 yX12_isThere wsX12_isThere) := goodIn_app (goodIn_of _ (by decide +kernel)) ggX12_level_X12_isThere
set_option maxRecDepth 20000 in
theorem ggX12_level_X12_alternating : GoodIn wsX12_level wsX12_alternating := goodIn_r _ [44, 22, 23, 24, 5, 25, 21, 26, 27, 28, 29, 30, 31, 32, 45, 46, 47, 48, 49, 50, 51, 52, 53, 54, 55, 56, 57, 58, 59, 60, 61, 62, 63, 64, 65, 66, 67, 68, 69, 70, 71, 72, 73, 74, 75] (by decide +kernel) (by decide +kernel)
set_option maxRecDepth 20000 in
theorem gX12_level_X12_alternating : GoodIn wsX12_level (wsV RX12 334 RX12 yX12_alternating wsX12_alternating) := goodIn_app (goodIn_of _ (by decide +kernel)) ggX12_level_X12_alternating
def wbX12_level_0 (rec : Nat → XT → (Nat → Int32) → (Nat → Int64) → (Int32 → XT → Prop) → Prop) (k : Nat) (t : XT) (li : Nat → Int32) (lj : Nat → Int64) (Q : Int32 → XT → Prop) : Prop :=
  (((li 1) < 0) → rec 1 t li lj Q) ∧ (¬ ((li 1) < 0) → (wqX12_in k (li 2) 0 1 (fun r_2 => ((¬ r_2 = 0) → (wqX12_laysHeights k t  (fun t_4 => rec 2 t_4 (uI (uI li 3 0) 4 0) lj Q))) ∧ ((r_2 = 0) → rec 1 t li lj Q))))
def wbX12_level_1 (rec : Nat → XT → (Nat → Int32) → (Nat → Int64) → (Int32 → XT → Prop) → Prop) (k : Nat) (t : XT) (li : Nat → Int32) (lj : Nat → Int64) (Q : Int32 → XT → Prop) : Prop :=
  Q (-1) t
def wbX12_level_2 (rec : Nat → XT → (Nat → Int32) → (Nat → Int64) → (Int32 → XT → Prop) → Prop) (k : Nat) (t : XT) (li : Nat → Int32) (lj : Nat → Int64) (Q : Int32 → XT → Prop) : Prop :=
  ((((t.1 3) : Int32) ≤ (li 4)) → Q (li 3) t) ∧ (¬ (((t.1 3) : Int32) ≤ (li 4)) → (wqX12_isThere k t (li 4) (fun r_6 t_6 => ((r_6 = 0) → rec 4 t_6 li lj Q) ∧ (¬ (r_6 = 0) → (vp_in (li 4) 60 ∧ (∀ v_8 : Int32, v_8 = (t_6.2.2.1 6) (li 4).toNatClampNeg → ((((li 1) : Int32) < v_8) → rec 4 t_6 li lj Q) ∧ (¬ (((li 1) : Int32) < v_8) → ((¬ (li 2) = 0) → (wqX12_alternating k t_6 (li 4) (fun r_11 t_11 => rec 3 t_11 (uI (uI li 101 r_11) 100 (li 3)) lj Q))) ∧ (((li 2) = 0) → rec 3 t_6 (uI (uI li 101 1) 100 (li 3)) lj Q))))))))
def wbX12_level_3 (rec : Nat → XT → (Nat → Int32) → (Nat → Int64) → (Int32 → XT → Prop) → Prop) (k : Nat) (t : XT) (li : Nat → Int32) (lj : Nat → Int64) (Q : Int32 → XT → Prop) : Prop :=
  (∀ v_12 : Int32, v_12 = ((li 100) + (li 101)) → rec 4 t (uI li 3 v_12) lj Q)
def wbX12_level_4 (rec : Nat → XT → (Nat → Int32) → (Nat → Int64) → (Int32 → XT → Prop) → Prop) (k : Nat) (t : XT) (li : Nat → Int32) (lj : Nat → Int64) (Q : Int32 → XT → Prop) : Prop :=
  (∀ v_13 : Int32, v_13 = (li 4) + Int32.ofInt 1 → rec 2 t (uI li 4 v_13) lj Q)
def wpX12_level : Nat → Nat → XT → (Nat → Int32) → (Nat → Int64) → (Int32 → XT → Prop) → Prop
  | 0, _, _, _, _, _ => False
  | k + 1, 0, t, li, lj, Q => wbX12_level_0 (wpX12_level k) k t li lj Q
  | k + 1, 1, t, li, lj, Q => wbX12_level_1 (wpX12_level k) k t li lj Q
  | k + 1, 2, t, li, lj, Q => wbX12_level_2 (wpX12_level k) k t li lj Q
  | k + 1, 3, t, li, lj, Q => wbX12_level_3 (wpX12_level k) k t li lj Q
  | k + 1, 4, t, li, lj, Q => wbX12_level_4 (wpX12_level k) k t li lj Q
  | _ + 1, _, _, _, _, _ => False
def wqX12_level (k : Nat) (t : XT) (a1 : Int32) (a2 : Int32) (Q : Int32 → XT → Prop) : Prop := wpX12_level k 0 t (uI (uI (fun _ => 0) 1 a1) 2 a2) (fun _ => 0) Q
set_option maxHeartbeats 8000000 in
set_option maxRecDepth 100000 in
theorem wkX12_level (l : Launch) (D : va_G) (cI cJ cB cZ : ClassId) (bd : Nat → Nat) (k : Nat) (t : XT) (a1 : Int32) (a2 : Int32) (Q : Int32 → XT → Prop) (hR : wqX12_level k t a1 a2 Q) : MetI l yX12_level wsX12_level 5 110 0 0 D (TYS cI cJ cB cZ) (wM cI cJ cB cZ bd t) [.ref (bd 0), .int a1, .int a2] (fun r u => Q r u) (fun u : XT => (wM cI cJ cB cZ bd u)) := by
  refine x_startI (ty := .int) (cc := cX12_level) (by decide) rfl (Nat.le_of_ble_eq_true rfl) ?_
  intro p e s m args below meth c A ls B hr hnm h hl
  have hx := B.1.1
  have hb := B.1.2.1
  have hml := B.1.2.2.1
  have hts := B.1.2.2.2.2
  have hown : s.vm.findClass RX12 = some m.cls := B.1.2.2.2.1
  have hin12 : ∀ w ∈ u_ws RX12 TX12 31, w ∈ wsX12_level := by decide +kernel
  have main : ∀ k : Nat, (∀ (t : XT) (li : Nat → Int32) (lj : Nat → Int64) (H : Heap) (locs : List Loc) (ls : Array Slot), wpX12_level k 0 t li lj Q → lv_has ls 5 [(0, .ref (bd 0)), (1, .int (li 1)), (2, .int (li 2))] → Hp D A s.heap (wM cI cJ cB cZ bd t) H locs → W p l e { frames := 5, cells := 0, slots := 0, locals := 110 } s m args below meth c H locs 0 0 (MQ below (va_Qi (fun r u => Q r u) (fun u t => xEnd D ((fun u : XT => (wM cI cJ cB cZ bd u)) u) A t) A) args s 0 0 A) (F0 m 0 ls [])) ∧
      (∀ (t : XT) (li : Nat → Int32) (lj : Nat → Int64) (H : Heap) (locs : List Loc) (ls : Array Slot), wpX12_level k 1 t li lj Q → lv_has ls 5 [(0, .ref (bd 0)), (1, .int (li 1)), (2, .int (li 2))] → Hp D A s.heap (wM cI cJ cB cZ bd t) H locs → W p l e { frames := 5, cells := 0, slots := 0, locals := 110 } s m args below meth c H locs 0 0 (MQ below (va_Qi (fun r u => Q r u) (fun u t => xEnd D ((fun u : XT => (wM cI cJ cB cZ bd u)) u) A t) A) args s 0 0 A) (F0 m 13 ls [])) ∧
      (∀ (t : XT) (li : Nat → Int32) (lj : Nat → Int64) (H : Heap) (locs : List Loc) (ls : Array Slot), wpX12_level k 2 t li lj Q → lv_has ls 5 [(0, .ref (bd 0)), (1, .int (li 1)), (2, .int (li 2)), (3, .int (li 3)), (4, .int (li 4))] → Hp D A s.heap (wM cI cJ cB cZ bd t) H locs → W p l e { frames := 5, cells := 0, slots := 0, locals := 110 } s m args below meth c H locs 0 0 (MQ below (va_Qi (fun r u => Q r u) (fun u t => xEnd D ((fun u : XT => (wM cI cJ cB cZ bd u)) u) A t) A) args s 0 0 A) (F0 m 24 ls [])) ∧
      (∀ (t : XT) (li : Nat → Int32) (lj : Nat → Int64) (H : Heap) (locs : List Loc) (ls : Array Slot), wpX12_level k 3 t li lj Q → lv_has ls 5 [(0, .ref (bd 0)), (1, .int (li 1)), (2, .int (li 2)), (3, .int (li 3)), (4, .int (li 4))] → Hp D A s.heap (wM cI cJ cB cZ bd t) H locs → W p l e { frames := 5, cells := 0, slots := 0, locals := 110 } s m args below meth c H locs 0 0 (MQ below (va_Qi (fun r u => Q r u) (fun u t => xEnd D ((fun u : XT => (wM cI cJ cB cZ bd u)) u) A t) A) args s 0 0 A) (F0 m 68 ls [.int (li 101), .int (li 100)])) ∧
      (∀ (t : XT) (li : Nat → Int32) (lj : Nat → Int64) (H : Heap) (locs : List Loc) (ls : Array Slot), wpX12_level k 4 t li lj Q → lv_has ls 5 [(0, .ref (bd 0)), (1, .int (li 1)), (2, .int (li 2)), (3, .int (li 3)), (4, .int (li 4))] → Hp D A s.heap (wM cI cJ cB cZ bd t) H locs → W p l e { frames := 5, cells := 0, slots := 0, locals := 110 } s m args below meth c H locs 0 0 (MQ below (va_Qi (fun r u => Q r u) (fun u t => xEnd D ((fun u : XT => (wM cI cJ cB cZ bd u)) u) A t) A) args s 0 0 A) (F0 m 70 ls [])) := by
    intro k
    induction k with
    | zero => exact ⟨fun _ _ _ _ _ _ hR => False.elim hR, fun _ _ _ _ _ _ hR => False.elim hR, fun _ _ _ _ _ _ hR => False.elim hR, fun _ _ _ _ _ _ hR => False.elim hR, fun _ _ _ _ _ _ hR => False.elim hR⟩
    | succ k ih =>
      refine ⟨?_, ?_, ?_, ?_, ?_⟩
      · intro t li lj H locs ls hR hl h
        have hR : wbX12_level_0 (wpX12_level k) k t li lj Q := hR
        unfold wbX12_level_0 at hR
        refine lv_iload_n hx hb dX12_level_0 rfl (lv_at hl 1 rfl) ?_
        refine lv_if_lt (tgt := 13) hx hb dX12_level_1 (by decide) (fun c_1 => ?_) (fun c_1 => ?_)
        · have hR := hR.1 c_1
          exact ih.2.1 t li lj H locs ls hR (lv_sub hl [0, 1, 2] rfl) h
        · have hR := hR.2 c_1
          refine lv_iload_n hx hb dX12_level_4 rfl (lv_at hl 2 rfl) ?_
          refine lv_iconst (v := 0) hx hb dX12_level_5 (by decide) ?_
          refine lv_iconst (v := 1) hx hb dX12_level_6 (by decide) ?_
          refine x_cSIE (n := 3) (As := [.int (li 2), .int 0, .int 1]) (rest := []) B h (wkX12_in l D cI cJ cB cZ bd k (li 2) 0 1 _ hR) ⟨⟨_, rfl⟩, by decide +kernel, Nat.le_of_ble_eq_true rfl, Nat.le_of_ble_eq_true rfl⟩ gX12_level_X12_in rfl hl.1 rfl (Nat.le_of_ble_eq_true rfl) dX12_level_7 ⟨Nat.le_of_ble_eq_true rfl, Nat.le_of_ble_eq_true rfl⟩ (fun r_2 _ H locs hR h => ?_)
          refine lv_if_ne (tgt := 15) hx hb dX12_level_10 (by decide) (fun c_3 => ?_) (fun c_3 => ?_)
          · have hR := hR.1 c_3
            refine lv_aload_n hx hb dX12_level_15 rfl (lv_at hl 0 rfl) ?_
            refine x_cVVF (n := 0) (As := []) (rest := []) B h (wkX12_laysHeights l D cI cJ cB cZ bd k t  _ hR) ⟨⟨_, rfl⟩, by decide +kernel, Nat.le_of_ble_eq_true rfl, Nat.le_of_ble_eq_true rfl⟩ gX12_level_X12_laysHeights (show ((wM cI cJ cB cZ bd t) : va_W)[0]? = some (_, .inr (12, _)) from rfl) rfl rfl hl.1 rfl (Nat.le_of_ble_eq_true rfl) dX12_level_16 ⟨Nat.le_of_ble_eq_true rfl, Nat.le_of_ble_eq_true rfl⟩ (fun t_4 H locs hR h => ?_)
            refine lv_iconst (v := 0) hx hb dX12_level_19 (by decide) ?_
            refine lv_istore_n (lv' := [(3, .int 0), (0, .ref (bd 0)), (1, .int (li 1)), (2, .int (li 2))]) hx hb dX12_level_20 rfl hl (by decide) rfl (fun ls hl => ?_)
            refine lv_iconst (v := 0) hx hb dX12_level_21 (by decide) ?_
            refine lv_istore (lv' := [(4, .int 0), (3, .int 0), (0, .ref (bd 0)), (1, .int (li 1)), (2, .int (li 2))]) hx hb dX12_level_22 hl (by decide) rfl (fun ls hl => ?_)
            exact ih.2.2.1 t_4 (uI (uI li 3 0) 4 0) lj H locs ls hR (lv_sub hl [2, 3, 4, 1, 0] rfl) h
          · have hR := hR.2 c_3
            exact ih.2.1 t li lj H locs ls hR (lv_sub hl [0, 1, 2] rfl) h
      · intro t li lj H locs ls hR hl h
        have hR : wbX12_level_1 (wpX12_level k) k t li lj Q := hR
        unfold wbX12_level_1 at hR
        refine lv_iconst (v := (-1)) hx hb dX12_level_13 (by decide) ?_
        exact x_iret (w1 := (fun u : XT => (wM cI cJ cB cZ bd u))) t B h hr rfl hR dX12_level_14
      · intro t li lj H locs ls hR hl h
        have hR : wbX12_level_2 (wpX12_level k) k t li lj Q := hR
        unfold wbX12_level_2 at hR
        refine lv_iload hx hb dX12_level_24 (lv_at hl 4 rfl) ?_
        refine lv_aload_n hx hb dX12_level_26 rfl (lv_at hl 0 rfl) ?_
        refine x_get (ci := 12) (C := RX12) (T := TX12) (N := 31) (v := .int (t.1 3)) B h hin12 0 5 rfl rfl (by decide) (by decide +kernel) rfl dX12_level_27 ?_
        refine lv_icmp_ge (tgt := 76) hx hb dX12_level_30 (by decide) (fun c_5 => ?_) (fun c_5 => ?_)
        · have hR := hR.1 c_5
          refine lv_iload_n hx hb dX12_level_76 rfl (lv_at hl 3 rfl) ?_
          exact x_iret (w1 := (fun u : XT => (wM cI cJ cB cZ bd u))) t B h hr rfl hR dX12_level_77
        · have hR := hR.2 c_5
          refine lv_aload_n hx hb dX12_level_33 rfl (lv_at hl 0 rfl) ?_
          refine lv_iload hx hb dX12_level_34 (lv_at hl 4 rfl) ?_
          refine x_cVIF (n := 1) (As := [.int (li 4)]) (rest := []) B h (wkX12_isThere l D cI cJ cB cZ bd k t (li 4) _ hR) ⟨⟨_, rfl⟩, by decide +kernel, Nat.le_of_ble_eq_true rfl, Nat.le_of_ble_eq_true rfl⟩ gX12_level_X12_isThere (show ((wM cI cJ cB cZ bd t) : va_W)[0]? = some (_, .inr (12, _)) from rfl) rfl rfl hl.1 rfl (Nat.le_of_ble_eq_true rfl) dX12_level_36 ⟨Nat.le_of_ble_eq_true rfl, Nat.le_of_ble_eq_true rfl⟩ (fun r_6 t_6 H locs hR h => ?_)
          refine lv_if_eq (tgt := 70) hx hb dX12_level_39 (by decide) (fun c_7 => ?_) (fun c_7 => ?_)
          · have hR := hR.1 c_7
            exact ih.2.2.2.2 t_6 li lj H locs ls hR (lv_sub hl [0, 1, 2, 3, 4] rfl) h
          · have hR := hR.2 c_7
            refine lv_aload_n hx hb dX12_level_42 rfl (lv_at hl 0 rfl) ?_
            refine x_get (ci := 12) (C := RX12) (T := TX12) (N := 31) (v := .ref (bd 7)) B h hin12 0 10 rfl rfl (by decide) (by decide +kernel) rfl dX12_level_43 ?_
            refine lv_iload hx hb dX12_level_46 (lv_at hl 4 rfl) ?_
            obtain ⟨hb_8, hR⟩ := hR
            refine va_iald (f := (t_6.2.2.1 6)) hx hb B.2.1 h.1 7 0 rfl rfl hb_8 dX12_level_48 ?_
            refine lv_topi (fun v_8 ev_8 => ?_)
            have hR := hR v_8 ev_8
            refine lv_iload_n hx hb dX12_level_49 rfl (lv_at hl 1 rfl) ?_
            refine lv_icmp_gt (tgt := 70) hx hb dX12_level_50 (by decide) (fun c_9 => ?_) (fun c_9 => ?_)
            · have hR := hR.1 c_9
              exact ih.2.2.2.2 t_6 li lj H locs ls hR (lv_sub hl [0, 1, 2, 3, 4] rfl) h
            · have hR := hR.2 c_9
              refine lv_iload_n hx hb dX12_level_53 rfl (lv_at hl 3 rfl) ?_
              refine lv_iload_n hx hb dX12_level_54 rfl (lv_at hl 2 rfl) ?_
              refine lv_if_ne (tgt := 62) hx hb dX12_level_55 (by decide) (fun c_10 => ?_) (fun c_10 => ?_)
              · have hR := hR.1 c_10
                refine lv_aload_n hx hb dX12_level_62 rfl (lv_at hl 0 rfl) ?_
                refine lv_iload hx hb dX12_level_63 (lv_at hl 4 rfl) ?_
                refine x_cVIF (n := 1) (As := [.int (li 4)]) (rest := [.int (li 3)]) B h (wkX12_alternating l D cI cJ cB cZ bd k t_6 (li 4) _ hR) ⟨⟨_, rfl⟩, by decide +kernel, Nat.le_of_ble_eq_true rfl, Nat.le_of_ble_eq_true rfl⟩ gX12_level_X12_alternating (show ((wM cI cJ cB cZ bd t_6) : va_W)[0]? = some (_, .inr (12, _)) from rfl) rfl rfl hl.1 rfl (Nat.le_of_ble_eq_true rfl) dX12_level_65 ⟨Nat.le_of_ble_eq_true rfl, Nat.le_of_ble_eq_true rfl⟩ (fun r_11 t_11 H locs hR h => ?_)
                exact ih.2.2.2.1 t_11 (uI (uI li 101 r_11) 100 (li 3)) lj H locs ls hR (lv_sub hl [0, 1, 2, 3, 4] rfl) h
              · have hR := hR.2 c_10
                refine lv_iconst (v := 1) hx hb dX12_level_58 (by decide) ?_
                refine lv_goto (tgt := 68) hx hb dX12_level_59 (by decide) ?_
                exact ih.2.2.2.1 t_6 (uI (uI li 101 1) 100 (li 3)) lj H locs ls hR (lv_sub hl [0, 1, 2, 3, 4] rfl) h
      · intro t li lj H locs ls hR hl h
        have hR : wbX12_level_3 (wpX12_level k) k t li lj Q := hR
        unfold wbX12_level_3 at hR
        refine lv_iadd hx hb dX12_level_68 ?_
        refine lv_topi (fun v_12 ev_12 => ?_)
        have hR := hR v_12 ev_12
        refine lv_istore_n (lv' := [(3, .int v_12), (0, .ref (bd 0)), (1, .int (li 1)), (2, .int (li 2)), (4, .int (li 4))]) hx hb dX12_level_69 rfl hl (by decide) rfl (fun ls hl => ?_)
        exact ih.2.2.2.2 t (uI li 3 v_12) lj H locs ls hR (lv_sub hl [1, 2, 3, 0, 4] rfl) h
      · intro t li lj H locs ls hR hl h
        have hR : wbX12_level_4 (wpX12_level k) k t li lj Q := hR
        unfold wbX12_level_4 at hR
        obtain ⟨v_13, ev_13⟩ : ∃ v : Int32, v = (li 4) + Int32.ofInt 1 := ⟨_, rfl⟩
        have hR := hR v_13 ev_13
        refine lv_iinc (v := v_13) (lv' := [(4, .int v_13), (0, .ref (bd 0)), (1, .int (li 1)), (2, .int (li 2)), (3, .int (li 3))]) hx hb dX12_level_70 hl (k := 4) rfl ev_13.symm (by decide) rfl (fun ls hl => ?_)
        refine lv_goto (tgt := 24) hx hb dX12_level_73 (by decide) ?_
        exact ih.2.2.1 t (uI li 4 v_13) lj H locs ls hR (lv_sub hl [1, 2, 3, 4, 0] rfl) h
  exact (main k).1 t _ _ s.heap [] ls hR hl h
set_option maxRecDepth 20000 in
theorem ggX12_levelBetti_X12_in : GoodIn wsX12_levelBetti wsX12_in := goodIn_r _ [8] (by decide +kernel) (by decide +kernel)
set_option maxRecDepth 20000 in
theorem gX12_levelBetti_X12_in : GoodIn wsX12_levelBetti (va_wsS RX12 101 yX12_in wsX12_in) := goodIn_app (goodIn_of _ (by decide +kernel)) ggX12_levelBetti_X12_in
set_option maxRecDepth 20000 in
theorem ggX12_levelBetti_X12_laysHeights : GoodIn wsX12_levelBetti wsX12_laysHeights := goodIn_r _ [12, 1, 3, 13, 14, 15, 16, 7, 17, 18, 19, 20, 21, 22, 4, 23, 24, 25, 26, 27, 28, 29, 30, 31, 32, 33, 128, 129, 130, 131, 132, 133, 134, 135, 136, 137, 138, 139, 140, 141, 142, 143, 144, 145, 146, 147, 148, 149, 150, 151, 152, 153, 154, 155, 156, 157, 158] (by decide +kernel) (by decide +kernel)
set_option maxRecDepth 20000 in
theorem gX12_levelBetti_X12_laysHeights : GoodIn wsX12_levelBetti (wsV RX12 173 RX12 yX12_laysHeights wsX12_laysHeights) := goodIn_app (goodIn_of _ (by decide +kernel)) ggX12_levelBetti_X12_laysHeights
set_option maxRecDepth 20000 in
theorem ggX12_levelBetti_X12_isThere : GoodIn wsX12_levelBetti wsX12_isThere := goodIn_r _ [37, 18, 38, 39, 40, 7, 41, 1, 5, 6, 8, 128, 129, 130, 131, 132, 133, 134, 135, 136, 137, 138, 139, 140, 141, 142, 143, 144, 145, 146, 147, 148, 149, 150, 151, 152, 153, 154, 155, 156, 157, 158] (by decide +kernel) (by decide +kernel)
set_option maxRecDepth 20000 in
theorem gX12_levelBetti_X12_isThere : GoodIn wsX12_levelBetti (wsV RX12 156 RX12 yX12_isThere wsX12_isThere) := goodIn_app (goodIn_of _ (by decide +kernel)) ggX12_levelBetti_X12_isThere
set_option maxRecDepth 20000 in
theorem ggX12_levelBetti_X12_bettiTaken : GoodIn wsX12_levelBetti wsX12_bettiTaken := goodIn_r _ [45, 46, 47, 48, 7, 49, 1, 2, 23, 24, 25, 26, 4, 27, 28, 29, 30, 31, 32, 33, 50, 51, 52, 53, 54, 55, 56, 5, 6, 8, 57, 58, 59, 60, 61, 62, 63, 64, 65, 66, 67, 68, 69, 70, 71, 72, 73, 74, 34, 35, 36, 37, 18, 38, 39, 40, 41, 75, 76, 77, 78, 13, 79, 80, 81, 82, 14, 15, 16, 17, 19, 20, 21, 22, 83, 84, 85, 86, 87, 88, 89, 90, 91, 92, 93, 94, 95, 96, 97, 98, 99, 100, 101, 102, 103, 104, 105, 106, 107, 108, 109, 110, 111, 112, 113, 114, 115, 116, 117, 118, 119, 120, 121, 122, 123, 124, 125, 126, 127, 128, 129, 130, 131, 132, 133, 134, 135, 136, 137, 138, 139, 140, 141, 142, 143, 144, 145, 146, 147, 148, 149, 150, 151, 152, 153, 154, 155, 156, 157, 158] (by decide +kernel) (by decide +kernel)
set_option maxRecDepth 20000 in
theorem gX12_levelBetti_X12_bettiTaken : GoodIn wsX12_levelBetti (wsV RX12 323 RX12 yX12_bettiTaken wsX12_bettiTaken) := goodIn_app (goodIn_of _ (by decide +kernel)) ggX12_levelBetti_X12_bettiTaken
def wbX12_levelBetti_0 (rec : Nat → XT → (Nat → Int32) → (Nat → Int64) → (Int32 → XT → Prop) → Prop) (k : Nat) (t : XT) (li : Nat → Int32) (lj : Nat → Int64) (Q : Int32 → XT → Prop) : Prop :=
  (((li 1) < 0) → rec 1 t li lj Q) ∧ (¬ ((li 1) < 0) → (wqX12_in k (li 2) 0 4 (fun r_2 => ((¬ r_2 = 0) → (wqX12_laysHeights k t  (fun t_4 => rec 2 t_4 (uI li 3 0) lj Q))) ∧ ((r_2 = 0) → rec 1 t li lj Q))))
def wbX12_levelBetti_1 (rec : Nat → XT → (Nat → Int32) → (Nat → Int64) → (Int32 → XT → Prop) → Prop) (k : Nat) (t : XT) (li : Nat → Int32) (lj : Nat → Int64) (Q : Int32 → XT → Prop) : Prop :=
  Q (-1) t
def wbX12_levelBetti_2 (rec : Nat → XT → (Nat → Int32) → (Nat → Int64) → (Int32 → XT → Prop) → Prop) (k : Nat) (t : XT) (li : Nat → Int32) (lj : Nat → Int64) (Q : Int32 → XT → Prop) : Prop :=
  ((((t.1 3) : Int32) ≤ (li 3)) → (wqX12_bettiTaken k t (li 2) 0 (fun r_6 t_6 => Q r_6 t_6))) ∧ (¬ (((t.1 3) : Int32) ≤ (li 3)) → (vp_in (li 3) 60 ∧ (∀ t_7 : XT, t_7 = sA t 11 (upd (t.2.2.1 11) (li 3).toNatClampNeg (vp_nar .boolean 0)) → rec 3 t_7 (uI li 4 0) lj Q)))
def wbX12_levelBetti_3 (rec : Nat → XT → (Nat → Int32) → (Nat → Int64) → (Int32 → XT → Prop) → Prop) (k : Nat) (t : XT) (li : Nat → Int32) (lj : Nat → Int64) (Q : Int32 → XT → Prop) : Prop :=
  ((((t.1 3) : Int32) ≤ (li 4)) → (∀ v_9 : Int32, v_9 = (li 3) + Int32.ofInt 1 → rec 2 t (uI li 3 v_9) lj Q)) ∧ (¬ (((t.1 3) : Int32) ≤ (li 4)) → (wqX12_isThere k t (li 4) (fun r_10 t_10 => ((r_10 = 0) → rec 4 t_10 li lj Q) ∧ (¬ (r_10 = 0) → (vp_in (li 4) 60 ∧ (∀ v_12 : Int32, v_12 = (t_10.2.2.1 6) (li 4).toNatClampNeg → ((((li 1) : Int32) < v_12) → rec 4 t_10 li lj Q) ∧ (¬ (((li 1) : Int32) < v_12) → (vp_in (li 3) 60 ∧ (∀ v_14 : Int32, v_14 = (t_10.2.2.1 2) (li 3).toNatClampNeg → (vp_in (li 4) 60 ∧ (∀ v_15 : Int32, v_15 = (t_10.2.2.1 2) (li 4).toNatClampNeg → (∀ v_16 : Int32, v_16 = (v_15 ^^^ (-1)) → (∀ v_17 : Int32, v_17 = (v_14 &&& v_16) → ((¬ v_17 = 0) → rec 4 t_10 li lj Q) ∧ ((v_17 = 0) → rec 5 t_10 (uI li 100 1) lj Q))))))))))))))
def wbX12_levelBetti_4 (rec : Nat → XT → (Nat → Int32) → (Nat → Int64) → (Int32 → XT → Prop) → Prop) (k : Nat) (t : XT) (li : Nat → Int32) (lj : Nat → Int64) (Q : Int32 → XT → Prop) : Prop :=
  rec 5 t (uI li 100 0) lj Q
def wbX12_levelBetti_5 (rec : Nat → XT → (Nat → Int32) → (Nat → Int64) → (Int32 → XT → Prop) → Prop) (k : Nat) (t : XT) (li : Nat → Int32) (lj : Nat → Int64) (Q : Int32 → XT → Prop) : Prop :=
  (vp_in (li 3) 60 ∧ (∀ v_19 : Int32, v_19 = (t.2.2.1 11) (li 3).toNatClampNeg → ((¬ v_19 = 0) → rec 6 t (uI (uI li 5 (li 100)) 101 (li 3)) lj Q) ∧ ((v_19 = 0) → (((li 100) = 0) → rec 7 t (uI (uI li 5 (li 100)) 101 (li 3)) lj Q) ∧ (¬ ((li 100) = 0) → (wqX12_isThere k t (li 3) (fun r_22 t_22 => ((r_22 = 0) → rec 7 t_22 (uI (uI li 5 (li 100)) 101 (li 3)) lj Q) ∧ (¬ (r_22 = 0) → rec 6 t_22 (uI (uI li 5 (li 100)) 101 (li 3)) lj Q)))))))
def wbX12_levelBetti_6 (rec : Nat → XT → (Nat → Int32) → (Nat → Int64) → (Int32 → XT → Prop) → Prop) (k : Nat) (t : XT) (li : Nat → Int32) (lj : Nat → Int64) (Q : Int32 → XT → Prop) : Prop :=
  rec 8 t (uI (uI li 102 1) 101 (li 101)) lj Q
def wbX12_levelBetti_7 (rec : Nat → XT → (Nat → Int32) → (Nat → Int64) → (Int32 → XT → Prop) → Prop) (k : Nat) (t : XT) (li : Nat → Int32) (lj : Nat → Int64) (Q : Int32 → XT → Prop) : Prop :=
  rec 8 t (uI (uI li 102 0) 101 (li 101)) lj Q
def wbX12_levelBetti_8 (rec : Nat → XT → (Nat → Int32) → (Nat → Int64) → (Int32 → XT → Prop) → Prop) (k : Nat) (t : XT) (li : Nat → Int32) (lj : Nat → Int64) (Q : Int32 → XT → Prop) : Prop :=
  (vp_in (li 101) 60 ∧ (∀ t_24 : XT, t_24 = sA t 11 (upd (t.2.2.1 11) (li 101).toNatClampNeg (vp_nar .boolean (li 102))) → (∀ v_25 : Int32, v_25 = (li 4) + Int32.ofInt 1 → rec 3 t_24 (uI li 4 v_25) lj Q)))
def wpX12_levelBetti : Nat → Nat → XT → (Nat → Int32) → (Nat → Int64) → (Int32 → XT → Prop) → Prop
  | 0, _, _, _, _, _ => False
  | k + 1, 0, t, li, lj, Q => wbX12_levelBetti_0 (wpX12_levelBetti k) k t li lj Q
  | k + 1, 1, t, li, lj, Q => wbX12_levelBetti_1 (wpX12_levelBetti k) k t li lj Q
  | k + 1, 2, t, li, lj, Q => wbX12_levelBetti_2 (wpX12_levelBetti k) k t li lj Q
  | k + 1, 3, t, li, lj, Q => wbX12_levelBetti_3 (wpX12_levelBetti k) k t li lj Q
  | k + 1, 4, t, li, lj, Q => wbX12_levelBetti_4 (wpX12_levelBetti k) k t li lj Q
  | k + 1, 5, t, li, lj, Q => wbX12_levelBetti_5 (wpX12_levelBetti k) k t li lj Q
  | k + 1, 6, t, li, lj, Q => wbX12_levelBetti_6 (wpX12_levelBetti k) k t li lj Q
  | k + 1, 7, t, li, lj, Q => wbX12_levelBetti_7 (wpX12_levelBetti k) k t li lj Q
  | k + 1, 8, t, li, lj, Q => wbX12_levelBetti_8 (wpX12_levelBetti k) k t li lj Q
  | _ + 1, _, _, _, _, _ => False
def wqX12_levelBetti (k : Nat) (t : XT) (a1 : Int32) (a2 : Int32) (Q : Int32 → XT → Prop) : Prop := wpX12_levelBetti k 0 t (uI (uI (fun _ => 0) 1 a1) 2 a2) (fun _ => 0) Q
set_option maxHeartbeats 8000000 in
set_option maxRecDepth 100000 in
theorem wkX12_levelBetti (l : Launch) (D : va_G) (cI cJ cB cZ : ClassId) (bd : Nat → Nat) (k : Nat) (t : XT) (a1 : Int32) (a2 : Int32) (Q : Int32 → XT → Prop) (hR : wqX12_levelBetti k t a1 a2 Q) : MetI l yX12_levelBetti wsX12_levelBetti 10 230 0 0 D (TYS cI cJ cB cZ) (wM cI cJ cB cZ bd t) [.ref (bd 0), .int a1, .int a2] (fun r u => Q r u) (fun u : XT => (wM cI cJ cB cZ bd u)) := by
  refine x_startI (ty := .int) (cc := cX12_levelBetti) (by decide) rfl (Nat.le_of_ble_eq_true rfl) ?_
  intro p e s m args below meth c A ls B hr hnm h hl
  have hx := B.1.1
  have hb := B.1.2.1
  have hml := B.1.2.2.1
  have hts := B.1.2.2.2.2
  have hown : s.vm.findClass RX12 = some m.cls := B.1.2.2.2.1
  have hin12 : ∀ w ∈ u_ws RX12 TX12 31, w ∈ wsX12_levelBetti := by decide +kernel
  have main : ∀ k : Nat, (∀ (t : XT) (li : Nat → Int32) (lj : Nat → Int64) (H : Heap) (locs : List Loc) (ls : Array Slot), wpX12_levelBetti k 0 t li lj Q → lv_has ls 6 [(0, .ref (bd 0)), (1, .int (li 1)), (2, .int (li 2))] → Hp D A s.heap (wM cI cJ cB cZ bd t) H locs → W p l e { frames := 10, cells := 0, slots := 0, locals := 230 } s m args below meth c H locs 0 0 (MQ below (va_Qi (fun r u => Q r u) (fun u t => xEnd D ((fun u : XT => (wM cI cJ cB cZ bd u)) u) A t) A) args s 0 0 A) (F0 m 0 ls [])) ∧
      (∀ (t : XT) (li : Nat → Int32) (lj : Nat → Int64) (H : Heap) (locs : List Loc) (ls : Array Slot), wpX12_levelBetti k 1 t li lj Q → lv_has ls 6 [(0, .ref (bd 0)), (1, .int (li 1)), (2, .int (li 2))] → Hp D A s.heap (wM cI cJ cB cZ bd t) H locs → W p l e { frames := 10, cells := 0, slots := 0, locals := 230 } s m args below meth c H locs 0 0 (MQ below (va_Qi (fun r u => Q r u) (fun u t => xEnd D ((fun u : XT => (wM cI cJ cB cZ bd u)) u) A t) A) args s 0 0 A) (F0 m 13 ls [])) ∧
      (∀ (t : XT) (li : Nat → Int32) (lj : Nat → Int64) (H : Heap) (locs : List Loc) (ls : Array Slot), wpX12_levelBetti k 2 t li lj Q → lv_has ls 6 [(0, .ref (bd 0)), (1, .int (li 1)), (2, .int (li 2)), (3, .int (li 3))] → Hp D A s.heap (wM cI cJ cB cZ bd t) H locs → W p l e { frames := 10, cells := 0, slots := 0, locals := 230 } s m args below meth c H locs 0 0 (MQ below (va_Qi (fun r u => Q r u) (fun u t => xEnd D ((fun u : XT => (wM cI cJ cB cZ bd u)) u) A t) A) args s 0 0 A) (F0 m 21 ls [])) ∧
      (∀ (t : XT) (li : Nat → Int32) (lj : Nat → Int64) (H : Heap) (locs : List Loc) (ls : Array Slot), wpX12_levelBetti k 3 t li lj Q → lv_has ls 6 [(0, .ref (bd 0)), (1, .int (li 1)), (2, .int (li 2)), (3, .int (li 3)), (4, .int (li 4))] → Hp D A s.heap (wM cI cJ cB cZ bd t) H locs → W p l e { frames := 10, cells := 0, slots := 0, locals := 230 } s m args below meth c H locs 0 0 (MQ below (va_Qi (fun r u => Q r u) (fun u t => xEnd D ((fun u : XT => (wM cI cJ cB cZ bd u)) u) A t) A) args s 0 0 A) (F0 m 39 ls [])) ∧
      (∀ (t : XT) (li : Nat → Int32) (lj : Nat → Int64) (H : Heap) (locs : List Loc) (ls : Array Slot), wpX12_levelBetti k 4 t li lj Q → lv_has ls 6 [(0, .ref (bd 0)), (1, .int (li 1)), (2, .int (li 2)), (3, .int (li 3)), (4, .int (li 4))] → Hp D A s.heap (wM cI cJ cB cZ bd t) H locs → W p l e { frames := 10, cells := 0, slots := 0, locals := 230 } s m args below meth c H locs 0 0 (MQ below (va_Qi (fun r u => Q r u) (fun u t => xEnd D ((fun u : XT => (wM cI cJ cB cZ bd u)) u) A t) A) args s 0 0 A) (F0 m 91 ls [])) ∧
      (∀ (t : XT) (li : Nat → Int32) (lj : Nat → Int64) (H : Heap) (locs : List Loc) (ls : Array Slot), wpX12_levelBetti k 5 t li lj Q → lv_has ls 6 [(0, .ref (bd 0)), (1, .int (li 1)), (2, .int (li 2)), (3, .int (li 3)), (4, .int (li 4))] → Hp D A s.heap (wM cI cJ cB cZ bd t) H locs → W p l e { frames := 10, cells := 0, slots := 0, locals := 230 } s m args below meth c H locs 0 0 (MQ below (va_Qi (fun r u => Q r u) (fun u t => xEnd D ((fun u : XT => (wM cI cJ cB cZ bd u)) u) A t) A) args s 0 0 A) (F0 m 92 ls [.int (li 100)])) ∧
      (∀ (t : XT) (li : Nat → Int32) (lj : Nat → Int64) (H : Heap) (locs : List Loc) (ls : Array Slot), wpX12_levelBetti k 6 t li lj Q → lv_has ls 6 [(0, .ref (bd 0)), (1, .int (li 1)), (2, .int (li 2)), (3, .int (li 3)), (4, .int (li 4)), (5, .int (li 5))] → Hp D A s.heap (wM cI cJ cB cZ bd t) H locs → W p l e { frames := 10, cells := 0, slots := 0, locals := 230 } s m args below meth c H locs 0 0 (MQ below (va_Qi (fun r u => Q r u) (fun u t => xEnd D ((fun u : XT => (wM cI cJ cB cZ bd u)) u) A t) A) args s 0 0 A) (F0 m 121 ls [.int (li 101), .ref (bd 16)])) ∧
      (∀ (t : XT) (li : Nat → Int32) (lj : Nat → Int64) (H : Heap) (locs : List Loc) (ls : Array Slot), wpX12_levelBetti k 7 t li lj Q → lv_has ls 6 [(0, .ref (bd 0)), (1, .int (li 1)), (2, .int (li 2)), (3, .int (li 3)), (4, .int (li 4)), (5, .int (li 5))] → Hp D A s.heap (wM cI cJ cB cZ bd t) H locs → W p l e { frames := 10, cells := 0, slots := 0, locals := 230 } s m args below meth c H locs 0 0 (MQ below (va_Qi (fun r u => Q r u) (fun u t => xEnd D ((fun u : XT => (wM cI cJ cB cZ bd u)) u) A t) A) args s 0 0 A) (F0 m 125 ls [.int (li 101), .ref (bd 16)])) ∧
      (∀ (t : XT) (li : Nat → Int32) (lj : Nat → Int64) (H : Heap) (locs : List Loc) (ls : Array Slot), wpX12_levelBetti k 8 t li lj Q → lv_has ls 6 [(0, .ref (bd 0)), (1, .int (li 1)), (2, .int (li 2)), (3, .int (li 3)), (4, .int (li 4)), (5, .int (li 5))] → Hp D A s.heap (wM cI cJ cB cZ bd t) H locs → W p l e { frames := 10, cells := 0, slots := 0, locals := 230 } s m args below meth c H locs 0 0 (MQ below (va_Qi (fun r u => Q r u) (fun u t => xEnd D ((fun u : XT => (wM cI cJ cB cZ bd u)) u) A t) A) args s 0 0 A) (F0 m 126 ls [.int (li 102), .int (li 101), .ref (bd 16)])) := by
    intro k
    induction k with
    | zero => exact ⟨fun _ _ _ _ _ _ hR => False.elim hR, fun _ _ _ _ _ _ hR => False.elim hR, fun _ _ _ _ _ _ hR => False.elim hR, fun _ _ _ _ _ _ hR => False.elim hR, fun _ _ _ _ _ _ hR => False.elim hR, fun _ _ _ _ _ _ hR => False.elim hR, fun _ _ _ _ _ _ hR => False.elim hR, fun _ _ _ _ _ _ hR => False.elim hR, fun _ _ _ _ _ _ hR => False.elim hR⟩
    | succ k ih =>
      refine ⟨?_, ?_, ?_, ?_, ?_, ?_, ?_, ?_, ?_⟩
      · intro t li lj H locs ls hR hl h
        have hR : wbX12_levelBetti_0 (wpX12_levelBetti k) k t li lj Q := hR
        unfold wbX12_levelBetti_0 at hR
        refine lv_iload_n hx hb dX12_levelBetti_0 rfl (lv_at hl 1 rfl) ?_
        refine lv_if_lt (tgt := 13) hx hb dX12_levelBetti_1 (by decide) (fun c_1 => ?_) (fun c_1 => ?_)
        · have hR := hR.1 c_1
          exact ih.2.1 t li lj H locs ls hR (lv_sub hl [0, 1, 2] rfl) h
        · have hR := hR.2 c_1
          refine lv_iload_n hx hb dX12_levelBetti_4 rfl (lv_at hl 2 rfl) ?_
          refine lv_iconst (v := 0) hx hb dX12_levelBetti_5 (by decide) ?_
          refine lv_iconst (v := 4) hx hb dX12_levelBetti_6 (by decide) ?_
          refine x_cSIE (n := 3) (As := [.int (li 2), .int 0, .int 4]) (rest := []) B h (wkX12_in l D cI cJ cB cZ bd k (li 2) 0 4 _ hR) ⟨⟨_, rfl⟩, by decide +kernel, Nat.le_of_ble_eq_true rfl, Nat.le_of_ble_eq_true rfl⟩ gX12_levelBetti_X12_in rfl hl.1 rfl (Nat.le_of_ble_eq_true rfl) dX12_levelBetti_7 ⟨Nat.le_of_ble_eq_true rfl, Nat.le_of_ble_eq_true rfl⟩ (fun r_2 _ H locs hR h => ?_)
          refine lv_if_ne (tgt := 15) hx hb dX12_levelBetti_10 (by decide) (fun c_3 => ?_) (fun c_3 => ?_)
          · have hR := hR.1 c_3
            refine lv_aload_n hx hb dX12_levelBetti_15 rfl (lv_at hl 0 rfl) ?_
            refine x_cVVF (n := 0) (As := []) (rest := []) B h (wkX12_laysHeights l D cI cJ cB cZ bd k t  _ hR) ⟨⟨_, rfl⟩, by decide +kernel, Nat.le_of_ble_eq_true rfl, Nat.le_of_ble_eq_true rfl⟩ gX12_levelBetti_X12_laysHeights (show ((wM cI cJ cB cZ bd t) : va_W)[0]? = some (_, .inr (12, _)) from rfl) rfl rfl hl.1 rfl (Nat.le_of_ble_eq_true rfl) dX12_levelBetti_16 ⟨Nat.le_of_ble_eq_true rfl, Nat.le_of_ble_eq_true rfl⟩ (fun t_4 H locs hR h => ?_)
            refine lv_iconst (v := 0) hx hb dX12_levelBetti_19 (by decide) ?_
            refine lv_istore_n (lv' := [(3, .int 0), (0, .ref (bd 0)), (1, .int (li 1)), (2, .int (li 2))]) hx hb dX12_levelBetti_20 rfl hl (by decide) rfl (fun ls hl => ?_)
            exact ih.2.2.1 t_4 (uI li 3 0) lj H locs ls hR (lv_sub hl [1, 2, 3, 0] rfl) h
          · have hR := hR.2 c_3
            exact ih.2.1 t li lj H locs ls hR (lv_sub hl [0, 1, 2] rfl) h
      · intro t li lj H locs ls hR hl h
        have hR : wbX12_levelBetti_1 (wpX12_levelBetti k) k t li lj Q := hR
        unfold wbX12_levelBetti_1 at hR
        refine lv_iconst (v := (-1)) hx hb dX12_levelBetti_13 (by decide) ?_
        exact x_iret (w1 := (fun u : XT => (wM cI cJ cB cZ bd u))) t B h hr rfl hR dX12_levelBetti_14
      · intro t li lj H locs ls hR hl h
        have hR : wbX12_levelBetti_2 (wpX12_levelBetti k) k t li lj Q := hR
        unfold wbX12_levelBetti_2 at hR
        refine lv_iload_n hx hb dX12_levelBetti_21 rfl (lv_at hl 3 rfl) ?_
        refine lv_aload_n hx hb dX12_levelBetti_22 rfl (lv_at hl 0 rfl) ?_
        refine x_get (ci := 12) (C := RX12) (T := TX12) (N := 31) (v := .int (t.1 3)) B h hin12 0 5 rfl rfl (by decide) (by decide +kernel) rfl dX12_levelBetti_23 ?_
        refine lv_icmp_ge (tgt := 139) hx hb dX12_levelBetti_26 (by decide) (fun c_5 => ?_) (fun c_5 => ?_)
        · have hR := hR.1 c_5
          refine lv_aload_n hx hb dX12_levelBetti_139 rfl (lv_at hl 0 rfl) ?_
          refine lv_iload_n hx hb dX12_levelBetti_140 rfl (lv_at hl 2 rfl) ?_
          refine lv_iconst (v := 0) hx hb dX12_levelBetti_141 (by decide) ?_
          refine x_cVIF (n := 2) (As := [.int (li 2), .int 0]) (rest := []) B h (wkX12_bettiTaken l D cI cJ cB cZ bd k t (li 2) 0 _ hR) ⟨⟨_, rfl⟩, by decide +kernel, Nat.le_of_ble_eq_true rfl, Nat.le_of_ble_eq_true rfl⟩ gX12_levelBetti_X12_bettiTaken (show ((wM cI cJ cB cZ bd t) : va_W)[0]? = some (_, .inr (12, _)) from rfl) rfl rfl hl.1 rfl (Nat.le_of_ble_eq_true rfl) dX12_levelBetti_142 ⟨Nat.le_of_ble_eq_true rfl, Nat.le_of_ble_eq_true rfl⟩ (fun r_6 t_6 H locs hR h => ?_)
          exact x_iret (w1 := (fun u : XT => (wM cI cJ cB cZ bd u))) t_6 B h hr rfl hR dX12_levelBetti_145
        · have hR := hR.2 c_5
          refine lv_aload_n hx hb dX12_levelBetti_29 rfl (lv_at hl 0 rfl) ?_
          refine x_get (ci := 12) (C := RX12) (T := TX12) (N := 31) (v := .ref (bd 16)) B h hin12 0 21 rfl rfl (by decide) (by decide +kernel) rfl dX12_levelBetti_30 ?_
          refine lv_iload_n hx hb dX12_levelBetti_33 rfl (lv_at hl 3 rfl) ?_
          refine lv_iconst (v := 0) hx hb dX12_levelBetti_34 (by decide) ?_
          obtain ⟨hb_7, hR⟩ := hR
          refine z_zast (f := (t.2.2.1 11)) B h 16 3 rfl rfl hb_7 dX12_levelBetti_35 (fun H locs h => ?_)
          obtain ⟨t_7, et_7⟩ : ∃ v : XT, v = sA t 11 (upd (t.2.2.1 11) (li 3).toNatClampNeg (vp_nar .boolean 0)) := ⟨_, rfl⟩
          have hR := hR t_7 et_7
          have h : Hp D A s.heap (wM cI cJ cB cZ bd t_7) H locs := by rw [et_7]; exact h
          refine lv_iconst (v := 0) hx hb dX12_levelBetti_36 (by decide) ?_
          refine lv_istore (lv' := [(4, .int 0), (0, .ref (bd 0)), (1, .int (li 1)), (2, .int (li 2)), (3, .int (li 3))]) hx hb dX12_levelBetti_37 hl (by decide) rfl (fun ls hl => ?_)
          exact ih.2.2.2.1 t_7 (uI li 4 0) lj H locs ls hR (lv_sub hl [1, 2, 3, 4, 0] rfl) h
      · intro t li lj H locs ls hR hl h
        have hR : wbX12_levelBetti_3 (wpX12_levelBetti k) k t li lj Q := hR
        unfold wbX12_levelBetti_3 at hR
        refine lv_iload hx hb dX12_levelBetti_39 (lv_at hl 4 rfl) ?_
        refine lv_aload_n hx hb dX12_levelBetti_41 rfl (lv_at hl 0 rfl) ?_
        refine x_get (ci := 12) (C := RX12) (T := TX12) (N := 31) (v := .int (t.1 3)) B h hin12 0 5 rfl rfl (by decide) (by decide +kernel) rfl dX12_levelBetti_42 ?_
        refine lv_icmp_ge (tgt := 133) hx hb dX12_levelBetti_45 (by decide) (fun c_8 => ?_) (fun c_8 => ?_)
        · have hR := hR.1 c_8
          obtain ⟨v_9, ev_9⟩ : ∃ v : Int32, v = (li 3) + Int32.ofInt 1 := ⟨_, rfl⟩
          have hR := hR v_9 ev_9
          refine lv_iinc (v := v_9) (lv' := [(3, .int v_9), (0, .ref (bd 0)), (1, .int (li 1)), (2, .int (li 2)), (4, .int (li 4))]) hx hb dX12_levelBetti_133 hl (k := 3) rfl ev_9.symm (by decide) rfl (fun ls hl => ?_)
          refine lv_goto (tgt := 21) hx hb dX12_levelBetti_136 (by decide) ?_
          exact ih.2.2.1 t (uI li 3 v_9) lj H locs ls hR (lv_sub hl [1, 2, 3, 0] rfl) h
        · have hR := hR.2 c_8
          refine lv_aload_n hx hb dX12_levelBetti_48 rfl (lv_at hl 0 rfl) ?_
          refine lv_iload hx hb dX12_levelBetti_49 (lv_at hl 4 rfl) ?_
          refine x_cVIF (n := 1) (As := [.int (li 4)]) (rest := []) B h (wkX12_isThere l D cI cJ cB cZ bd k t (li 4) _ hR) ⟨⟨_, rfl⟩, by decide +kernel, Nat.le_of_ble_eq_true rfl, Nat.le_of_ble_eq_true rfl⟩ gX12_levelBetti_X12_isThere (show ((wM cI cJ cB cZ bd t) : va_W)[0]? = some (_, .inr (12, _)) from rfl) rfl rfl hl.1 rfl (Nat.le_of_ble_eq_true rfl) dX12_levelBetti_51 ⟨Nat.le_of_ble_eq_true rfl, Nat.le_of_ble_eq_true rfl⟩ (fun r_10 t_10 H locs hR h => ?_)
          refine lv_if_eq (tgt := 91) hx hb dX12_levelBetti_54 (by decide) (fun c_11 => ?_) (fun c_11 => ?_)
          · have hR := hR.1 c_11
            exact ih.2.2.2.2.1 t_10 li lj H locs ls hR (lv_sub hl [0, 1, 2, 3, 4] rfl) h
          · have hR := hR.2 c_11
            refine lv_aload_n hx hb dX12_levelBetti_57 rfl (lv_at hl 0 rfl) ?_
            refine x_get (ci := 12) (C := RX12) (T := TX12) (N := 31) (v := .ref (bd 7)) B h hin12 0 10 rfl rfl (by decide) (by decide +kernel) rfl dX12_levelBetti_58 ?_
            refine lv_iload hx hb dX12_levelBetti_61 (lv_at hl 4 rfl) ?_
            obtain ⟨hb_12, hR⟩ := hR
            refine va_iald (f := (t_10.2.2.1 6)) hx hb B.2.1 h.1 7 0 rfl rfl hb_12 dX12_levelBetti_63 ?_
            refine lv_topi (fun v_12 ev_12 => ?_)
            have hR := hR v_12 ev_12
            refine lv_iload_n hx hb dX12_levelBetti_64 rfl (lv_at hl 1 rfl) ?_
            refine lv_icmp_gt (tgt := 91) hx hb dX12_levelBetti_65 (by decide) (fun c_13 => ?_) (fun c_13 => ?_)
            · have hR := hR.1 c_13
              exact ih.2.2.2.2.1 t_10 li lj H locs ls hR (lv_sub hl [0, 1, 2, 3, 4] rfl) h
            · have hR := hR.2 c_13
              refine lv_aload_n hx hb dX12_levelBetti_68 rfl (lv_at hl 0 rfl) ?_
              refine x_get (ci := 12) (C := RX12) (T := TX12) (N := 31) (v := .ref (bd 3)) B h hin12 0 6 rfl rfl (by decide) (by decide +kernel) rfl dX12_levelBetti_69 ?_
              refine lv_iload_n hx hb dX12_levelBetti_72 rfl (lv_at hl 3 rfl) ?_
              obtain ⟨hb_14, hR⟩ := hR
              refine va_iald (f := (t_10.2.2.1 2)) hx hb B.2.1 h.1 3 0 rfl rfl hb_14 dX12_levelBetti_73 ?_
              refine lv_topi (fun v_14 ev_14 => ?_)
              have hR := hR v_14 ev_14
              refine lv_aload_n hx hb dX12_levelBetti_74 rfl (lv_at hl 0 rfl) ?_
              refine x_get (ci := 12) (C := RX12) (T := TX12) (N := 31) (v := .ref (bd 3)) B h hin12 0 6 rfl rfl (by decide) (by decide +kernel) rfl dX12_levelBetti_75 ?_
              refine lv_iload hx hb dX12_levelBetti_78 (lv_at hl 4 rfl) ?_
              obtain ⟨hb_15, hR⟩ := hR
              refine va_iald (f := (t_10.2.2.1 2)) hx hb B.2.1 h.1 3 0 rfl rfl hb_15 dX12_levelBetti_80 ?_
              refine lv_topi (fun v_15 ev_15 => ?_)
              have hR := hR v_15 ev_15
              refine lv_iconst (v := (-1)) hx hb dX12_levelBetti_81 (by decide) ?_
              refine lv_ixor hx hb dX12_levelBetti_82 ?_
              refine lv_topi (fun v_16 ev_16 => ?_)
              have hR := hR v_16 ev_16
              refine lv_iand hx hb dX12_levelBetti_83 ?_
              refine lv_topi (fun v_17 ev_17 => ?_)
              have hR := hR v_17 ev_17
              refine lv_if_ne (tgt := 91) hx hb dX12_levelBetti_84 (by decide) (fun c_18 => ?_) (fun c_18 => ?_)
              · have hR := hR.1 c_18
                exact ih.2.2.2.2.1 t_10 li lj H locs ls hR (lv_sub hl [0, 1, 2, 3, 4] rfl) h
              · have hR := hR.2 c_18
                refine lv_iconst (v := 1) hx hb dX12_levelBetti_87 (by decide) ?_
                refine lv_goto (tgt := 92) hx hb dX12_levelBetti_88 (by decide) ?_
                exact ih.2.2.2.2.2.1 t_10 (uI li 100 1) lj H locs ls hR (lv_sub hl [0, 1, 2, 3, 4] rfl) h
      · intro t li lj H locs ls hR hl h
        have hR : wbX12_levelBetti_4 (wpX12_levelBetti k) k t li lj Q := hR
        unfold wbX12_levelBetti_4 at hR
        refine lv_iconst (v := 0) hx hb dX12_levelBetti_91 (by decide) ?_
        exact ih.2.2.2.2.2.1 t (uI li 100 0) lj H locs ls hR (lv_sub hl [0, 1, 2, 3, 4] rfl) h
      · intro t li lj H locs ls hR hl h
        have hR : wbX12_levelBetti_5 (wpX12_levelBetti k) k t li lj Q := hR
        unfold wbX12_levelBetti_5 at hR
        refine lv_istore (lv' := [(5, .int (li 100)), (0, .ref (bd 0)), (1, .int (li 1)), (2, .int (li 2)), (3, .int (li 3)), (4, .int (li 4))]) hx hb dX12_levelBetti_92 hl (by decide) rfl (fun ls hl => ?_)
        refine lv_aload_n hx hb dX12_levelBetti_94 rfl (lv_at hl 1 rfl) ?_
        refine x_get (ci := 12) (C := RX12) (T := TX12) (N := 31) (v := .ref (bd 16)) B h hin12 0 21 rfl rfl (by decide) (by decide +kernel) rfl dX12_levelBetti_95 ?_
        refine lv_iload_n hx hb dX12_levelBetti_98 rfl (lv_at hl 4 rfl) ?_
        refine lv_aload_n hx hb dX12_levelBetti_99 rfl (lv_at hl 1 rfl) ?_
        refine x_get (ci := 12) (C := RX12) (T := TX12) (N := 31) (v := .ref (bd 16)) B h hin12 0 21 rfl rfl (by decide) (by decide +kernel) rfl dX12_levelBetti_100 ?_
        refine lv_iload_n hx hb dX12_levelBetti_103 rfl (lv_at hl 4 rfl) ?_
        obtain ⟨hb_19, hR⟩ := hR
        refine va_zald (f := (t.2.2.1 11)) hx hb B.2.1 h.1 16 3 rfl rfl hb_19 dX12_levelBetti_104 ?_
        refine lv_topi (fun v_19 ev_19 => ?_)
        have hR := hR v_19 ev_19
        refine lv_if_ne (tgt := 121) hx hb dX12_levelBetti_105 (by decide) (fun c_20 => ?_) (fun c_20 => ?_)
        · have hR := hR.1 c_20
          exact ih.2.2.2.2.2.2.1 t (uI (uI li 5 (li 100)) 101 (li 3)) lj H locs ls hR (lv_sub hl [1, 2, 3, 4, 5, 0] rfl) h
        · have hR := hR.2 c_20
          refine lv_iload hx hb dX12_levelBetti_108 (lv_at hl 0 rfl) ?_
          refine lv_if_eq (tgt := 125) hx hb dX12_levelBetti_110 (by decide) (fun c_21 => ?_) (fun c_21 => ?_)
          · have hR := hR.1 c_21
            exact ih.2.2.2.2.2.2.2.1 t (uI (uI li 5 (li 100)) 101 (li 3)) lj H locs ls hR (lv_sub hl [1, 2, 3, 4, 5, 0] rfl) h
          · have hR := hR.2 c_21
            refine lv_aload_n hx hb dX12_levelBetti_113 rfl (lv_at hl 1 rfl) ?_
            refine lv_iload_n hx hb dX12_levelBetti_114 rfl (lv_at hl 4 rfl) ?_
            refine x_cVIF (n := 1) (As := [.int (li 3)]) (rest := [.int (li 3), .ref (bd 16)]) B h (wkX12_isThere l D cI cJ cB cZ bd k t (li 3) _ hR) ⟨⟨_, rfl⟩, by decide +kernel, Nat.le_of_ble_eq_true rfl, Nat.le_of_ble_eq_true rfl⟩ gX12_levelBetti_X12_isThere (show ((wM cI cJ cB cZ bd t) : va_W)[0]? = some (_, .inr (12, _)) from rfl) rfl rfl hl.1 rfl (Nat.le_of_ble_eq_true rfl) dX12_levelBetti_115 ⟨Nat.le_of_ble_eq_true rfl, Nat.le_of_ble_eq_true rfl⟩ (fun r_22 t_22 H locs hR h => ?_)
            refine lv_if_eq (tgt := 125) hx hb dX12_levelBetti_118 (by decide) (fun c_23 => ?_) (fun c_23 => ?_)
            · have hR := hR.1 c_23
              exact ih.2.2.2.2.2.2.2.1 t_22 (uI (uI li 5 (li 100)) 101 (li 3)) lj H locs ls hR (lv_sub hl [1, 2, 3, 4, 5, 0] rfl) h
            · have hR := hR.2 c_23
              exact ih.2.2.2.2.2.2.1 t_22 (uI (uI li 5 (li 100)) 101 (li 3)) lj H locs ls hR (lv_sub hl [1, 2, 3, 4, 5, 0] rfl) h
      · intro t li lj H locs ls hR hl h
        have hR : wbX12_levelBetti_6 (wpX12_levelBetti k) k t li lj Q := hR
        unfold wbX12_levelBetti_6 at hR
        refine lv_iconst (v := 1) hx hb dX12_levelBetti_121 (by decide) ?_
        refine lv_goto (tgt := 126) hx hb dX12_levelBetti_122 (by decide) ?_
        exact ih.2.2.2.2.2.2.2.2 t (uI (uI li 102 1) 101 (li 101)) lj H locs ls hR (lv_sub hl [0, 1, 2, 3, 4, 5] rfl) h
      · intro t li lj H locs ls hR hl h
        have hR : wbX12_levelBetti_7 (wpX12_levelBetti k) k t li lj Q := hR
        unfold wbX12_levelBetti_7 at hR
        refine lv_iconst (v := 0) hx hb dX12_levelBetti_125 (by decide) ?_
        exact ih.2.2.2.2.2.2.2.2 t (uI (uI li 102 0) 101 (li 101)) lj H locs ls hR (lv_sub hl [0, 1, 2, 3, 4, 5] rfl) h
      · intro t li lj H locs ls hR hl h
        have hR : wbX12_levelBetti_8 (wpX12_levelBetti k) k t li lj Q := hR
        unfold wbX12_levelBetti_8 at hR
        obtain ⟨hb_24, hR⟩ := hR
        refine z_zast (f := (t.2.2.1 11)) B h 16 3 rfl rfl hb_24 dX12_levelBetti_126 (fun H locs h => ?_)
        obtain ⟨t_24, et_24⟩ : ∃ v : XT, v = sA t 11 (upd (t.2.2.1 11) (li 101).toNatClampNeg (vp_nar .boolean (li 102))) := ⟨_, rfl⟩
        have hR := hR t_24 et_24
        have h : Hp D A s.heap (wM cI cJ cB cZ bd t_24) H locs := by rw [et_24]; exact h
        obtain ⟨v_25, ev_25⟩ : ∃ v : Int32, v = (li 4) + Int32.ofInt 1 := ⟨_, rfl⟩
        have hR := hR v_25 ev_25
        refine lv_iinc (v := v_25) (lv' := [(4, .int v_25), (0, .ref (bd 0)), (1, .int (li 1)), (2, .int (li 2)), (3, .int (li 3)), (5, .int (li 5))]) hx hb dX12_levelBetti_127 hl (k := 4) rfl ev_25.symm (by decide) rfl (fun ls hl => ?_)
        refine lv_goto (tgt := 39) hx hb dX12_levelBetti_130 (by decide) ?_
        exact ih.2.2.2.1 t_24 (uI li 4 v_25) lj H locs ls hR (lv_sub hl [1, 2, 3, 4, 0] rfl) h
  exact (main k).1 t _ _ s.heap [] ls hR hl h
set_option maxRecDepth 20000 in
theorem ggX12_pairMany_X12_isLower : GoodIn wsX12_pairMany wsX12_isLower := goodIn_r _ [6, 7, 11, 12, 13, 14, 15, 16, 17, 18, 19, 20, 21, 22, 23, 24, 25, 26, 27, 28, 29, 30, 31, 32, 33, 34, 35, 36, 37, 38, 39, 40, 41] (by decide +kernel) (by decide +kernel)
set_option maxRecDepth 20000 in
theorem gX12_pairMany_X12_isLower : GoodIn wsX12_pairMany (wsV RX12 170 RX12 yX12_isLower wsX12_isLower) := goodIn_app (goodIn_of _ (by decide +kernel)) ggX12_pairMany_X12_isLower
set_option maxRecDepth 20000 in
theorem ggX12_pairMany_X12_truth : GoodIn wsX12_pairMany wsX12_truth := goodIn_r _ [10] (by decide +kernel) (by decide +kernel)
set_option maxRecDepth 20000 in
theorem gX12_pairMany_X12_truth : GoodIn wsX12_pairMany (va_wsS RX12 105 yX12_truth wsX12_truth) := goodIn_app (goodIn_of _ (by decide +kernel)) ggX12_pairMany_X12_truth
def wbX12_pairMany_0 (rec : Nat → XT → (Nat → Int32) → (Nat → Int64) → (Int32 → XT → Prop) → Prop) (k : Nat) (t : XT) (li : Nat → Int32) (lj : Nat → Int64) (Q : Int32 → XT → Prop) : Prop :=
  rec 1 t (uI (uI li 1 0) 2 0) lj Q
def wbX12_pairMany_1 (rec : Nat → XT → (Nat → Int32) → (Nat → Int64) → (Int32 → XT → Prop) → Prop) (k : Nat) (t : XT) (li : Nat → Int32) (lj : Nat → Int64) (Q : Int32 → XT → Prop) : Prop :=
  ((((t.1 3) : Int32) ≤ (li 2)) → Q (li 1) t) ∧ (¬ (((t.1 3) : Int32) ≤ (li 2)) → (wqX12_isLower k t (li 2) (fun r_2 t_2 => (wqX12_truth k r_2 (fun r_3 => (∀ v_4 : Int32, v_4 = ((li 1) + r_3) → (∀ v_5 : Int32, v_5 = (li 2) + Int32.ofInt 1 → rec 1 t_2 (uI (uI li 1 v_4) 2 v_5) lj Q)))))))
def wpX12_pairMany : Nat → Nat → XT → (Nat → Int32) → (Nat → Int64) → (Int32 → XT → Prop) → Prop
  | 0, _, _, _, _, _ => False
  | k + 1, 0, t, li, lj, Q => wbX12_pairMany_0 (wpX12_pairMany k) k t li lj Q
  | k + 1, 1, t, li, lj, Q => wbX12_pairMany_1 (wpX12_pairMany k) k t li lj Q
  | _ + 1, _, _, _, _, _ => False
def wqX12_pairMany (k : Nat) (t : XT)  (Q : Int32 → XT → Prop) : Prop := wpX12_pairMany k 0 t (fun _ => 0) (fun _ => 0) Q
set_option maxHeartbeats 8000000 in
set_option maxRecDepth 100000 in
theorem wkX12_pairMany (l : Launch) (D : va_G) (cI cJ cB cZ : ClassId) (bd : Nat → Nat) (k : Nat) (t : XT)  (Q : Int32 → XT → Prop) (hR : wqX12_pairMany k t  Q) : MetI l yX12_pairMany wsX12_pairMany 1 21 0 0 D (TYS cI cJ cB cZ) (wM cI cJ cB cZ bd t) [.ref (bd 0)] (fun r u => Q r u) (fun u : XT => (wM cI cJ cB cZ bd u)) := by
  refine x_startI (ty := .int) (cc := cX12_pairMany) (by decide) rfl (Nat.le_of_ble_eq_true rfl) ?_
  intro p e s m args below meth c A ls B hr hnm h hl
  have hx := B.1.1
  have hb := B.1.2.1
  have hml := B.1.2.2.1
  have hts := B.1.2.2.2.2
  have hown : s.vm.findClass RX12 = some m.cls := B.1.2.2.2.1
  have hin12 : ∀ w ∈ u_ws RX12 TX12 31, w ∈ wsX12_pairMany := by decide +kernel
  have main : ∀ k : Nat, (∀ (t : XT) (li : Nat → Int32) (lj : Nat → Int64) (H : Heap) (locs : List Loc) (ls : Array Slot), wpX12_pairMany k 0 t li lj Q → lv_has ls 3 [(0, .ref (bd 0))] → Hp D A s.heap (wM cI cJ cB cZ bd t) H locs → W p l e { frames := 1, cells := 0, slots := 0, locals := 21 } s m args below meth c H locs 0 0 (MQ below (va_Qi (fun r u => Q r u) (fun u t => xEnd D ((fun u : XT => (wM cI cJ cB cZ bd u)) u) A t) A) args s 0 0 A) (F0 m 0 ls [])) ∧
      (∀ (t : XT) (li : Nat → Int32) (lj : Nat → Int64) (H : Heap) (locs : List Loc) (ls : Array Slot), wpX12_pairMany k 1 t li lj Q → lv_has ls 3 [(0, .ref (bd 0)), (1, .int (li 1)), (2, .int (li 2))] → Hp D A s.heap (wM cI cJ cB cZ bd t) H locs → W p l e { frames := 1, cells := 0, slots := 0, locals := 21 } s m args below meth c H locs 0 0 (MQ below (va_Qi (fun r u => Q r u) (fun u t => xEnd D ((fun u : XT => (wM cI cJ cB cZ bd u)) u) A t) A) args s 0 0 A) (F0 m 4 ls [])) := by
    intro k
    induction k with
    | zero => exact ⟨fun _ _ _ _ _ _ hR => False.elim hR, fun _ _ _ _ _ _ hR => False.elim hR⟩
    | succ k ih =>
      refine ⟨?_, ?_⟩
      · intro t li lj H locs ls hR hl h
        have hR : wbX12_pairMany_0 (wpX12_pairMany k) k t li lj Q := hR
        unfold wbX12_pairMany_0 at hR
        refine lv_iconst (v := 0) hx hb dX12_pairMany_0 (by decide) ?_
        refine lv_istore_n (lv' := [(1, .int 0), (0, .ref (bd 0))]) hx hb dX12_pairMany_1 rfl hl (by decide) rfl (fun ls hl => ?_)
        refine lv_iconst (v := 0) hx hb dX12_pairMany_2 (by decide) ?_
        refine lv_istore_n (lv' := [(2, .int 0), (1, .int 0), (0, .ref (bd 0))]) hx hb dX12_pairMany_3 rfl hl (by decide) rfl (fun ls hl => ?_)
        exact ih.2 t (uI (uI li 1 0) 2 0) lj H locs ls hR (lv_sub hl [2, 1, 0] rfl) h
      · intro t li lj H locs ls hR hl h
        have hR : wbX12_pairMany_1 (wpX12_pairMany k) k t li lj Q := hR
        unfold wbX12_pairMany_1 at hR
        refine lv_iload_n hx hb dX12_pairMany_4 rfl (lv_at hl 2 rfl) ?_
        refine lv_aload_n hx hb dX12_pairMany_5 rfl (lv_at hl 0 rfl) ?_
        refine x_get (ci := 12) (C := RX12) (T := TX12) (N := 31) (v := .int (t.1 3)) B h hin12 0 5 rfl rfl (by decide) (by decide +kernel) rfl dX12_pairMany_6 ?_
        refine lv_icmp_ge (tgt := 29) hx hb dX12_pairMany_9 (by decide) (fun c_1 => ?_) (fun c_1 => ?_)
        · have hR := hR.1 c_1
          refine lv_iload_n hx hb dX12_pairMany_29 rfl (lv_at hl 1 rfl) ?_
          exact x_iret (w1 := (fun u : XT => (wM cI cJ cB cZ bd u))) t B h hr rfl hR dX12_pairMany_30
        · have hR := hR.2 c_1
          refine lv_iload_n hx hb dX12_pairMany_12 rfl (lv_at hl 1 rfl) ?_
          refine lv_aload_n hx hb dX12_pairMany_13 rfl (lv_at hl 0 rfl) ?_
          refine lv_iload_n hx hb dX12_pairMany_14 rfl (lv_at hl 2 rfl) ?_
          refine x_cVIF (n := 1) (As := [.int (li 2)]) (rest := [.int (li 1)]) B h (wkX12_isLower l D cI cJ cB cZ bd k t (li 2) _ hR) ⟨⟨_, rfl⟩, by decide +kernel, Nat.le_of_ble_eq_true rfl, Nat.le_of_ble_eq_true rfl⟩ gX12_pairMany_X12_isLower (show ((wM cI cJ cB cZ bd t) : va_W)[0]? = some (_, .inr (12, _)) from rfl) rfl rfl hl.1 rfl (Nat.le_of_ble_eq_true rfl) dX12_pairMany_15 ⟨Nat.le_of_ble_eq_true rfl, Nat.le_of_ble_eq_true rfl⟩ (fun r_2 t_2 H locs hR h => ?_)
          refine x_cSIE (n := 1) (As := [.int r_2]) (rest := [.int (li 1)]) B h (wkX12_truth l D cI cJ cB cZ bd k r_2 _ hR) ⟨⟨_, rfl⟩, by decide +kernel, Nat.le_of_ble_eq_true rfl, Nat.le_of_ble_eq_true rfl⟩ gX12_pairMany_X12_truth rfl hl.1 rfl (Nat.le_of_ble_eq_true rfl) dX12_pairMany_18 ⟨Nat.le_of_ble_eq_true rfl, Nat.le_of_ble_eq_true rfl⟩ (fun r_3 _ H locs hR h => ?_)
          refine lv_iadd hx hb dX12_pairMany_21 ?_
          refine lv_topi (fun v_4 ev_4 => ?_)
          have hR := hR v_4 ev_4
          refine lv_istore_n (lv' := [(1, .int v_4), (0, .ref (bd 0)), (2, .int (li 2))]) hx hb dX12_pairMany_22 rfl hl (by decide) rfl (fun ls hl => ?_)
          obtain ⟨v_5, ev_5⟩ : ∃ v : Int32, v = (li 2) + Int32.ofInt 1 := ⟨_, rfl⟩
          have hR := hR v_5 ev_5
          refine lv_iinc (v := v_5) (lv' := [(2, .int v_5), (1, .int v_4), (0, .ref (bd 0))]) hx hb dX12_pairMany_23 hl (k := 2) rfl ev_5.symm (by decide) rfl (fun ls hl => ?_)
          refine lv_goto (tgt := 4) hx hb dX12_pairMany_26 (by decide) ?_
          exact ih.2 t_2 (uI (uI li 1 v_4) 2 v_5) lj H locs ls hR (lv_sub hl [2, 1, 0] rfl) h
  exact (main k).1 t _ _ s.heap [] ls hR hl h
set_option maxRecDepth 20000 in
theorem ggX12_keep_X12_in : GoodIn wsX12_keep wsX12_in := goodIn_r _ [8] (by decide +kernel) (by decide +kernel)
set_option maxRecDepth 20000 in
theorem gX12_keep_X12_in : GoodIn wsX12_keep (va_wsS RX12 101 yX12_in wsX12_in) := goodIn_app (goodIn_of _ (by decide +kernel)) ggX12_keep_X12_in
set_option maxRecDepth 20000 in
theorem ggX12_keep_X12_pairMany : GoodIn wsX12_keep wsX12_pairMany := goodIn_r _ [12, 1, 13, 14, 15, 7, 16, 4, 17, 18, 19, 20, 21, 22, 23, 24, 25, 26, 27, 28, 29, 30, 31, 32, 33, 34, 35, 36, 37, 38, 39, 40, 41, 42, 43, 44, 45, 46, 47, 48, 49, 50] (by decide +kernel) (by decide +kernel)
set_option maxRecDepth 20000 in
theorem gX12_keep_X12_pairMany : GoodIn wsX12_keep (wsV RX12 366 RX12 yX12_pairMany wsX12_pairMany) := goodIn_app (goodIn_of _ (by decide +kernel)) ggX12_keep_X12_pairMany
def wbX12_keep_0 (rec : Nat → XT → (Nat → Int32) → (Nat → Int64) → (Int32 → XT → Prop) → Prop) (k : Nat) (t : XT) (li : Nat → Int32) (lj : Nat → Int64) (Q : Int32 → XT → Prop) : Prop :=
  (((t.1 3) = 0) → rec 1 t li lj Q) ∧ (¬ ((t.1 3) = 0) → (wqX12_in k (li 1) 0 2 (fun r_2 => ((¬ r_2 = 0) → (vp_in (li 1) 3 ∧ (∀ t_4 : XT, t_4 = sA t 14 (upd (t.2.2.1 14) (li 1).toNatClampNeg (vp_nar .boolean 1)) → rec 2 t_4 (uI li 2 0) lj Q))) ∧ ((r_2 = 0) → rec 1 t li lj Q))))
def wbX12_keep_1 (rec : Nat → XT → (Nat → Int32) → (Nat → Int64) → (Int32 → XT → Prop) → Prop) (k : Nat) (t : XT) (li : Nat → Int32) (lj : Nat → Int64) (Q : Int32 → XT → Prop) : Prop :=
  Q (-1) t
def wbX12_keep_2 (rec : Nat → XT → (Nat → Int32) → (Nat → Int64) → (Int32 → XT → Prop) → Prop) (k : Nat) (t : XT) (li : Nat → Int32) (lj : Nat → Int64) (Q : Int32 → XT → Prop) : Prop :=
  ((((t.1 3) : Int32) ≤ (li 2)) → (wqX12_pairMany k t  (fun r_6 t_6 => Q r_6 t_6))) ∧ (¬ (((t.1 3) : Int32) ≤ (li 2)) → (∀ v_7 : Int32, v_7 = (60 * (li 1)) → (∀ v_8 : Int32, v_8 = (v_7 + (li 2)) → (vp_in (li 2) 60 ∧ (∀ v_9 : Int32, v_9 = (t.2.2.1 4) (li 2).toNatClampNeg → (vp_in v_8 180 ∧ (∀ t_10 : XT, t_10 = sA t 15 (upd (t.2.2.1 15) v_8.toNatClampNeg v_9) → (∀ v_11 : Int32, v_11 = (li 2) + Int32.ofInt 1 → rec 2 t_10 (uI li 2 v_11) lj Q))))))))
def wpX12_keep : Nat → Nat → XT → (Nat → Int32) → (Nat → Int64) → (Int32 → XT → Prop) → Prop
  | 0, _, _, _, _, _ => False
  | k + 1, 0, t, li, lj, Q => wbX12_keep_0 (wpX12_keep k) k t li lj Q
  | k + 1, 1, t, li, lj, Q => wbX12_keep_1 (wpX12_keep k) k t li lj Q
  | k + 1, 2, t, li, lj, Q => wbX12_keep_2 (wpX12_keep k) k t li lj Q
  | _ + 1, _, _, _, _, _ => False
def wqX12_keep (k : Nat) (t : XT) (a1 : Int32) (Q : Int32 → XT → Prop) : Prop := wpX12_keep k 0 t (uI (fun _ => 0) 1 a1) (fun _ => 0) Q
set_option maxHeartbeats 8000000 in
set_option maxRecDepth 100000 in
theorem wkX12_keep (l : Launch) (D : va_G) (cI cJ cB cZ : ClassId) (bd : Nat → Nat) (k : Nat) (t : XT) (a1 : Int32) (Q : Int32 → XT → Prop) (hR : wqX12_keep k t a1 Q) : MetI l yX12_keep wsX12_keep 2 43 0 0 D (TYS cI cJ cB cZ) (wM cI cJ cB cZ bd t) [.ref (bd 0), .int a1] (fun r u => Q r u) (fun u : XT => (wM cI cJ cB cZ bd u)) := by
  refine x_startI (ty := .int) (cc := cX12_keep) (by decide) rfl (Nat.le_of_ble_eq_true rfl) ?_
  intro p e s m args below meth c A ls B hr hnm h hl
  have hx := B.1.1
  have hb := B.1.2.1
  have hml := B.1.2.2.1
  have hts := B.1.2.2.2.2
  have hown : s.vm.findClass RX12 = some m.cls := B.1.2.2.2.1
  have hin12 : ∀ w ∈ u_ws RX12 TX12 31, w ∈ wsX12_keep := by decide +kernel
  have main : ∀ k : Nat, (∀ (t : XT) (li : Nat → Int32) (lj : Nat → Int64) (H : Heap) (locs : List Loc) (ls : Array Slot), wpX12_keep k 0 t li lj Q → lv_has ls 3 [(0, .ref (bd 0)), (1, .int (li 1))] → Hp D A s.heap (wM cI cJ cB cZ bd t) H locs → W p l e { frames := 2, cells := 0, slots := 0, locals := 43 } s m args below meth c H locs 0 0 (MQ below (va_Qi (fun r u => Q r u) (fun u t => xEnd D ((fun u : XT => (wM cI cJ cB cZ bd u)) u) A t) A) args s 0 0 A) (F0 m 0 ls [])) ∧
      (∀ (t : XT) (li : Nat → Int32) (lj : Nat → Int64) (H : Heap) (locs : List Loc) (ls : Array Slot), wpX12_keep k 1 t li lj Q → lv_has ls 3 [(0, .ref (bd 0)), (1, .int (li 1))] → Hp D A s.heap (wM cI cJ cB cZ bd t) H locs → W p l e { frames := 2, cells := 0, slots := 0, locals := 43 } s m args below meth c H locs 0 0 (MQ below (va_Qi (fun r u => Q r u) (fun u t => xEnd D ((fun u : XT => (wM cI cJ cB cZ bd u)) u) A t) A) args s 0 0 A) (F0 m 16 ls [])) ∧
      (∀ (t : XT) (li : Nat → Int32) (lj : Nat → Int64) (H : Heap) (locs : List Loc) (ls : Array Slot), wpX12_keep k 2 t li lj Q → lv_has ls 3 [(0, .ref (bd 0)), (1, .int (li 1)), (2, .int (li 2))] → Hp D A s.heap (wM cI cJ cB cZ bd t) H locs → W p l e { frames := 2, cells := 0, slots := 0, locals := 43 } s m args below meth c H locs 0 0 (MQ below (va_Qi (fun r u => Q r u) (fun u t => xEnd D ((fun u : XT => (wM cI cJ cB cZ bd u)) u) A t) A) args s 0 0 A) (F0 m 27 ls [])) := by
    intro k
    induction k with
    | zero => exact ⟨fun _ _ _ _ _ _ hR => False.elim hR, fun _ _ _ _ _ _ hR => False.elim hR, fun _ _ _ _ _ _ hR => False.elim hR⟩
    | succ k ih =>
      refine ⟨?_, ?_, ?_⟩
      · intro t li lj H locs ls hR hl h
        have hR : wbX12_keep_0 (wpX12_keep k) k t li lj Q := hR
        unfold wbX12_keep_0 at hR
        refine lv_aload_n hx hb dX12_keep_0 rfl (lv_at hl 0 rfl) ?_
        refine x_get (ci := 12) (C := RX12) (T := TX12) (N := 31) (v := .int (t.1 3)) B h hin12 0 5 rfl rfl (by decide) (by decide +kernel) rfl dX12_keep_1 ?_
        refine lv_if_eq (tgt := 16) hx hb dX12_keep_4 (by decide) (fun c_1 => ?_) (fun c_1 => ?_)
        · have hR := hR.1 c_1
          exact ih.2.1 t li lj H locs ls hR (lv_sub hl [0, 1] rfl) h
        · have hR := hR.2 c_1
          refine lv_iload_n hx hb dX12_keep_7 rfl (lv_at hl 1 rfl) ?_
          refine lv_iconst (v := 0) hx hb dX12_keep_8 (by decide) ?_
          refine lv_iconst (v := 2) hx hb dX12_keep_9 (by decide) ?_
          refine x_cSIE (n := 3) (As := [.int (li 1), .int 0, .int 2]) (rest := []) B h (wkX12_in l D cI cJ cB cZ bd k (li 1) 0 2 _ hR) ⟨⟨_, rfl⟩, by decide +kernel, Nat.le_of_ble_eq_true rfl, Nat.le_of_ble_eq_true rfl⟩ gX12_keep_X12_in rfl hl.1 rfl (Nat.le_of_ble_eq_true rfl) dX12_keep_10 ⟨Nat.le_of_ble_eq_true rfl, Nat.le_of_ble_eq_true rfl⟩ (fun r_2 _ H locs hR h => ?_)
          refine lv_if_ne (tgt := 18) hx hb dX12_keep_13 (by decide) (fun c_3 => ?_) (fun c_3 => ?_)
          · have hR := hR.1 c_3
            refine lv_aload_n hx hb dX12_keep_18 rfl (lv_at hl 0 rfl) ?_
            refine x_get (ci := 12) (C := RX12) (T := TX12) (N := 31) (v := .ref (bd 21)) B h hin12 0 29 rfl rfl (by decide) (by decide +kernel) rfl dX12_keep_19 ?_
            refine lv_iload_n hx hb dX12_keep_22 rfl (lv_at hl 1 rfl) ?_
            refine lv_iconst (v := 1) hx hb dX12_keep_23 (by decide) ?_
            obtain ⟨hb_4, hR⟩ := hR
            refine z_zast (f := (t.2.2.1 14)) B h 21 3 rfl rfl hb_4 dX12_keep_24 (fun H locs h => ?_)
            obtain ⟨t_4, et_4⟩ : ∃ v : XT, v = sA t 14 (upd (t.2.2.1 14) (li 1).toNatClampNeg (vp_nar .boolean 1)) := ⟨_, rfl⟩
            have hR := hR t_4 et_4
            have h : Hp D A s.heap (wM cI cJ cB cZ bd t_4) H locs := by rw [et_4]; exact h
            refine lv_iconst (v := 0) hx hb dX12_keep_25 (by decide) ?_
            refine lv_istore_n (lv' := [(2, .int 0), (0, .ref (bd 0)), (1, .int (li 1))]) hx hb dX12_keep_26 rfl hl (by decide) rfl (fun ls hl => ?_)
            exact ih.2.2 t_4 (uI li 2 0) lj H locs ls hR (lv_sub hl [1, 2, 0] rfl) h
          · have hR := hR.2 c_3
            exact ih.2.1 t li lj H locs ls hR (lv_sub hl [0, 1] rfl) h
      · intro t li lj H locs ls hR hl h
        have hR : wbX12_keep_1 (wpX12_keep k) k t li lj Q := hR
        unfold wbX12_keep_1 at hR
        refine lv_iconst (v := (-1)) hx hb dX12_keep_16 (by decide) ?_
        exact x_iret (w1 := (fun u : XT => (wM cI cJ cB cZ bd u))) t B h hr rfl hR dX12_keep_17
      · intro t li lj H locs ls hR hl h
        have hR : wbX12_keep_2 (wpX12_keep k) k t li lj Q := hR
        unfold wbX12_keep_2 at hR
        refine lv_iload_n hx hb dX12_keep_27 rfl (lv_at hl 2 rfl) ?_
        refine lv_aload_n hx hb dX12_keep_28 rfl (lv_at hl 0 rfl) ?_
        refine x_get (ci := 12) (C := RX12) (T := TX12) (N := 31) (v := .int (t.1 3)) B h hin12 0 5 rfl rfl (by decide) (by decide +kernel) rfl dX12_keep_29 ?_
        refine lv_icmp_ge (tgt := 58) hx hb dX12_keep_32 (by decide) (fun c_5 => ?_) (fun c_5 => ?_)
        · have hR := hR.1 c_5
          refine lv_aload_n hx hb dX12_keep_58 rfl (lv_at hl 0 rfl) ?_
          refine x_cVIF (n := 0) (As := []) (rest := []) B h (wkX12_pairMany l D cI cJ cB cZ bd k t  _ hR) ⟨⟨_, rfl⟩, by decide +kernel, Nat.le_of_ble_eq_true rfl, Nat.le_of_ble_eq_true rfl⟩ gX12_keep_X12_pairMany (show ((wM cI cJ cB cZ bd t) : va_W)[0]? = some (_, .inr (12, _)) from rfl) rfl rfl hl.1 rfl (Nat.le_of_ble_eq_true rfl) dX12_keep_59 ⟨Nat.le_of_ble_eq_true rfl, Nat.le_of_ble_eq_true rfl⟩ (fun r_6 t_6 H locs hR h => ?_)
          exact x_iret (w1 := (fun u : XT => (wM cI cJ cB cZ bd u))) t_6 B h hr rfl hR dX12_keep_62
        · have hR := hR.2 c_5
          refine lv_aload_n hx hb dX12_keep_35 rfl (lv_at hl 0 rfl) ?_
          refine x_get (ci := 12) (C := RX12) (T := TX12) (N := 31) (v := .ref (bd 22)) B h hin12 0 30 rfl rfl (by decide) (by decide +kernel) rfl dX12_keep_36 ?_
          refine lv_bipush (v := 60) hx hb dX12_keep_39 (by decide) ?_
          refine lv_iload_n hx hb dX12_keep_41 rfl (lv_at hl 1 rfl) ?_
          refine lv_imul hx hb dX12_keep_42 ?_
          refine lv_topi (fun v_7 ev_7 => ?_)
          have hR := hR v_7 ev_7
          refine lv_iload_n hx hb dX12_keep_43 rfl (lv_at hl 2 rfl) ?_
          refine lv_iadd hx hb dX12_keep_44 ?_
          refine lv_topi (fun v_8 ev_8 => ?_)
          have hR := hR v_8 ev_8
          refine lv_aload_n hx hb dX12_keep_45 rfl (lv_at hl 0 rfl) ?_
          refine x_get (ci := 12) (C := RX12) (T := TX12) (N := 31) (v := .ref (bd 5)) B h hin12 0 8 rfl rfl (by decide) (by decide +kernel) rfl dX12_keep_46 ?_
          refine lv_iload_n hx hb dX12_keep_49 rfl (lv_at hl 2 rfl) ?_
          obtain ⟨hb_9, hR⟩ := hR
          refine va_iald (f := (t.2.2.1 4)) hx hb B.2.1 h.1 5 0 rfl rfl hb_9 dX12_keep_50 ?_
          refine lv_topi (fun v_9 ev_9 => ?_)
          have hR := hR v_9 ev_9
          obtain ⟨hb_10, hR⟩ := hR
          refine z_iast (f := (t.2.2.1 15)) B h 22 0 rfl rfl hb_10 dX12_keep_51 (fun H locs h => ?_)
          obtain ⟨t_10, et_10⟩ : ∃ v : XT, v = sA t 15 (upd (t.2.2.1 15) v_8.toNatClampNeg v_9) := ⟨_, rfl⟩
          have hR := hR t_10 et_10
          have h : Hp D A s.heap (wM cI cJ cB cZ bd t_10) H locs := by rw [et_10]; exact h
          obtain ⟨v_11, ev_11⟩ : ∃ v : Int32, v = (li 2) + Int32.ofInt 1 := ⟨_, rfl⟩
          have hR := hR v_11 ev_11
          refine lv_iinc (v := v_11) (lv' := [(2, .int v_11), (0, .ref (bd 0)), (1, .int (li 1))]) hx hb dX12_keep_52 hl (k := 2) rfl ev_11.symm (by decide) rfl (fun ls hl => ?_)
          refine lv_goto (tgt := 27) hx hb dX12_keep_55 (by decide) ?_
          exact ih.2.2 t_10 (uI li 2 v_11) lj H locs ls hR (lv_sub hl [1, 2, 0] rfl) h
  exact (main k).1 t _ _ s.heap [] ls hR hl h
