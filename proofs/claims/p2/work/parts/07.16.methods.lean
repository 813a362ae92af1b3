set_option maxRecDepth 20000 in
theorem ggX12_auto1_X12_isCritical : GoodIn wsX12_auto1 wsX12_isCritical := goodIn_r _ [6, 7, 8, 9, 10, 5, 11, 12, 13, 14, 15, 16, 1, 17, 18, 19, 64, 65, 66, 67, 68, 69, 70, 71, 72, 73, 74, 75, 76, 77, 78, 79, 80, 81, 82, 83, 84, 85, 86, 87, 88, 89, 90, 91, 92, 93, 94] (by decide +kernel) (by decide +kernel)
set_option maxRecDepth 20000 in
theorem gX12_auto1_X12_isCritical : GoodIn wsX12_auto1 (wsV RX12 159 RX12 yX12_isCritical wsX12_isCritical) := goodIn_app (goodIn_of _ (by decide +kernel)) ggX12_auto1_X12_isCritical
set_option maxRecDepth 20000 in
theorem ggX12_auto1_X12_isFaceThere : GoodIn wsX12_auto1 wsX12_isFaceThere := goodIn_r _ [23, 12, 24, 25, 26, 5, 27, 28, 29, 30, 31, 32, 33, 34, 35, 36, 37, 38, 39, 64, 65, 66, 67, 68, 69, 70, 71, 72, 73, 74, 75, 76, 77, 78, 79, 80, 81, 82, 83, 84, 85, 86, 87, 88, 89, 90, 91, 92, 93, 94] (by decide +kernel) (by decide +kernel)
set_option maxRecDepth 20000 in
theorem gX12_auto1_X12_isFaceThere : GoodIn wsX12_auto1 (wsV RX12 162 RX12 yX12_isFaceThere wsX12_isFaceThere) := goodIn_app (goodIn_of _ (by decide +kernel)) ggX12_auto1_X12_isFaceThere
set_option maxRecDepth 20000 in
theorem ggX12_auto1_X12_isFree : GoodIn wsX12_auto1 wsX12_isFree := goodIn_r _ [43, 7, 64, 65, 66, 67, 68, 69, 70, 71, 72, 73, 74, 75, 76, 77, 78, 79, 80, 81, 82, 83, 84, 85, 86, 87, 88, 89, 90, 91, 92, 93, 94] (by decide +kernel) (by decide +kernel)
set_option maxRecDepth 20000 in
theorem gX12_auto1_X12_isFree : GoodIn wsX12_auto1 (wsV RX12 185 RX12 yX12_isFree wsX12_isFree) := goodIn_app (goodIn_of _ (by decide +kernel)) ggX12_auto1_X12_isFree
set_option maxRecDepth 20000 in
theorem ggX12_auto1_X12_couples : GoodIn wsX12_auto1 wsX12_couples := goodIn_r _ [47, 7, 48, 49, 50, 5, 51, 1, 52, 53, 54, 55, 56, 57, 58, 59, 60, 61, 62, 63, 24, 25, 26, 27, 28, 29, 30, 31, 32, 33, 34, 35, 36, 37, 38, 39, 64, 65, 66, 67, 68, 69, 70, 71, 72, 73, 74, 75, 76, 77, 78, 79, 80, 81, 82, 83, 84, 85, 86, 87, 88, 89, 90, 91, 92, 93, 94] (by decide +kernel) (by decide +kernel)
set_option maxRecDepth 20000 in
theorem gX12_auto1_X12_couples : GoodIn wsX12_auto1 (wsV RX12 188 RX12 yX12_couples wsX12_couples) := goodIn_app (goodIn_of _ (by decide +kernel)) ggX12_auto1_X12_couples
def wbX12_auto1_0 (rec : Nat → XT → (Nat → Int32) → (Nat → Int64) → (XT → Prop) → Prop) (k : Nat) (t : XT) (li : Nat → Int32) (lj : Nat → Int64) (Q : XT → Prop) : Prop :=
  (∀ v_1 : Int32, v_1 = ((t.1 3) - 1) → rec 1 t (uI li 1 v_1) lj Q)
def wbX12_auto1_1 (rec : Nat → XT → (Nat → Int32) → (Nat → Int64) → (XT → Prop) → Prop) (k : Nat) (t : XT) (li : Nat → Int32) (lj : Nat → Int64) (Q : XT → Prop) : Prop :=
  (((li 1) < 0) → Q t) ∧ (¬ ((li 1) < 0) → (∀ v_3 : Int32, v_3 = ((li 1) - 1) → rec 2 t (uI li 2 v_3) lj Q))
def wbX12_auto1_2 (rec : Nat → XT → (Nat → Int32) → (Nat → Int64) → (XT → Prop) → Prop) (k : Nat) (t : XT) (li : Nat → Int32) (lj : Nat → Int64) (Q : XT → Prop) : Prop :=
  (((li 2) < 0) → rec 4 t li lj Q) ∧ (¬ ((li 2) < 0) → (wqX12_isCritical k t (li 1) (fun r_5 t_5 => ((r_5 = 0) → rec 4 t_5 li lj Q) ∧ (¬ (r_5 = 0) → (wqX12_isFaceThere k t_5 (li 2) (li 1) (fun r_7 t_7 => ((r_7 = 0) → rec 3 t_7 li lj Q) ∧ (¬ (r_7 = 0) → (wqX12_isFree k t_7 (li 2) (li 1) (fun r_9 t_9 => ((r_9 = 0) → rec 3 t_9 li lj Q) ∧ (¬ (r_9 = 0) → (wqX12_couples k t_9 (li 2) (li 1) (fun r_11 t_11 => rec 3 t_11 li lj Q))))))))))))
def wbX12_auto1_3 (rec : Nat → XT → (Nat → Int32) → (Nat → Int64) → (XT → Prop) → Prop) (k : Nat) (t : XT) (li : Nat → Int32) (lj : Nat → Int64) (Q : XT → Prop) : Prop :=
  (∀ v_12 : Int32, v_12 = (li 2) + Int32.ofInt (-1) → rec 2 t (uI li 2 v_12) lj Q)
def wbX12_auto1_4 (rec : Nat → XT → (Nat → Int32) → (Nat → Int64) → (XT → Prop) → Prop) (k : Nat) (t : XT) (li : Nat → Int32) (lj : Nat → Int64) (Q : XT → Prop) : Prop :=
  (∀ v_13 : Int32, v_13 = (li 1) + Int32.ofInt (-1) → rec 1 t (uI li 1 v_13) lj Q)
def wpX12_auto1 : Nat → Nat → XT → (Nat → Int32) → (Nat → Int64) → (XT → Prop) → Prop
  | 0, _, _, _, _, _ => False
  | k + 1, 0, t, li, lj, Q => wbX12_auto1_0 (wpX12_auto1 k) k t li lj Q
  | k + 1, 1, t, li, lj, Q => wbX12_auto1_1 (wpX12_auto1 k) k t li lj Q
  | k + 1, 2, t, li, lj, Q => wbX12_auto1_2 (wpX12_auto1 k) k t li lj Q
  | k + 1, 3, t, li, lj, Q => wbX12_auto1_3 (wpX12_auto1 k) k t li lj Q
  | k + 1, 4, t, li, lj, Q => wbX12_auto1_4 (wpX12_auto1 k) k t li lj Q
  | _ + 1, _, _, _, _, _ => False
def wqX12_auto1 (k : Nat) (t : XT)  (Q : XT → Prop) : Prop := wpX12_auto1 k 0 t (fun _ => 0) (fun _ => 0) Q
set_option maxHeartbeats 8000000 in
set_option maxRecDepth 100000 in
theorem wkX12_auto1 (l : Launch) (D : va_G) (cI cJ cB cZ : ClassId) (bd : Nat → Nat) (k : Nat) (t : XT)  (Q : XT → Prop) (hR : wqX12_auto1 k t  Q) : MetV l yX12_auto1 wsX12_auto1 6 129 0 0 D (TYS cI cJ cB cZ) (wM cI cJ cB cZ bd t) [.ref (bd 0)] (fun u => Q u) (fun u : XT => (wM cI cJ cB cZ bd u)) := by
  refine x_startV (ty := .int) (cc := cX12_auto1) (by decide) rfl (Nat.le_of_ble_eq_true rfl) ?_
  intro p e s m args below meth c A ls B hr hnm h hl
  have hx := B.1.1
  have hb := B.1.2.1
  have hml := B.1.2.2.1
  have hts := B.1.2.2.2.2
  have hown : s.vm.findClass RX12 = some m.cls := B.1.2.2.2.1
  have hin12 : ∀ w ∈ u_ws RX12 TX12 31, w ∈ wsX12_auto1 := by decide +kernel
  have main : ∀ k : Nat, (∀ (t : XT) (li : Nat → Int32) (lj : Nat → Int64) (H : Heap) (locs : List Loc) (ls : Array Slot), wpX12_auto1 k 0 t li lj Q → lv_has ls 3 [(0, .ref (bd 0))] → Hp D A s.heap (wM cI cJ cB cZ bd t) H locs → W p l e { frames := 6, cells := 0, slots := 0, locals := 129 } s m args below meth c H locs 0 0 (MQ below (va_Qv (fun u => Q u) (fun u t => xEnd D ((fun u : XT => (wM cI cJ cB cZ bd u)) u) A t) A) args s 0 0 A) (F0 m 0 ls [])) ∧
      (∀ (t : XT) (li : Nat → Int32) (lj : Nat → Int64) (H : Heap) (locs : List Loc) (ls : Array Slot), wpX12_auto1 k 1 t li lj Q → lv_has ls 3 [(0, .ref (bd 0)), (1, .int (li 1))] → Hp D A s.heap (wM cI cJ cB cZ bd t) H locs → W p l e { frames := 6, cells := 0, slots := 0, locals := 129 } s m args below meth c H locs 0 0 (MQ below (va_Qv (fun u => Q u) (fun u t => xEnd D ((fun u : XT => (wM cI cJ cB cZ bd u)) u) A t) A) args s 0 0 A) (F0 m 7 ls [])) ∧
      (∀ (t : XT) (li : Nat → Int32) (lj : Nat → Int64) (H : Heap) (locs : List Loc) (ls : Array Slot), wpX12_auto1 k 2 t li lj Q → lv_has ls 3 [(0, .ref (bd 0)), (1, .int (li 1)), (2, .int (li 2))] → Hp D A s.heap (wM cI cJ cB cZ bd t) H locs → W p l e { frames := 6, cells := 0, slots := 0, locals := 129 } s m args below meth c H locs 0 0 (MQ below (va_Qv (fun u => Q u) (fun u t => xEnd D ((fun u : XT => (wM cI cJ cB cZ bd u)) u) A t) A) args s 0 0 A) (F0 m 15 ls [])) ∧
      (∀ (t : XT) (li : Nat → Int32) (lj : Nat → Int64) (H : Heap) (locs : List Loc) (ls : Array Slot), wpX12_auto1 k 3 t li lj Q → lv_has ls 3 [(0, .ref (bd 0)), (1, .int (li 1)), (2, .int (li 2))] → Hp D A s.heap (wM cI cJ cB cZ bd t) H locs → W p l e { frames := 6, cells := 0, slots := 0, locals := 129 } s m args below meth c H locs 0 0 (MQ below (va_Qv (fun u => Q u) (fun u t => xEnd D ((fun u : XT => (wM cI cJ cB cZ bd u)) u) A t) A) args s 0 0 A) (F0 m 52 ls [])) ∧
      (∀ (t : XT) (li : Nat → Int32) (lj : Nat → Int64) (H : Heap) (locs : List Loc) (ls : Array Slot), wpX12_auto1 k 4 t li lj Q → lv_has ls 3 [(0, .ref (bd 0)), (1, .int (li 1)), (2, .int (li 2))] → Hp D A s.heap (wM cI cJ cB cZ bd t) H locs → W p l e { frames := 6, cells := 0, slots := 0, locals := 129 } s m args below meth c H locs 0 0 (MQ below (va_Qv (fun u => Q u) (fun u t => xEnd D ((fun u : XT => (wM cI cJ cB cZ bd u)) u) A t) A) args s 0 0 A) (F0 m 58 ls [])) := by
    intro k
    induction k with
    | zero => exact ⟨fun _ _ _ _ _ _ hR => False.elim hR, fun _ _ _ _ _ _ hR => False.elim hR, fun _ _ _ _ _ _ hR => False.elim hR, fun _ _ _ _ _ _ hR => False.elim hR, fun _ _ _ _ _ _ hR => False.elim hR⟩
    | succ k ih =>
      refine ⟨?_, ?_, ?_, ?_, ?_⟩
      · intro t li lj H locs ls hR hl h
        have hR : wbX12_auto1_0 (wpX12_auto1 k) k t li lj Q := hR
        unfold wbX12_auto1_0 at hR
        refine lv_aload_n hx hb dX12_auto1_0 rfl (lv_at hl 0 rfl) ?_
        refine x_get (ci := 12) (C := RX12) (T := TX12) (N := 31) (v := .int (t.1 3)) B h hin12 0 5 rfl rfl (by decide) (by decide +kernel) rfl dX12_auto1_1 ?_
        refine lv_iconst (v := 1) hx hb dX12_auto1_4 (by decide) ?_
        refine lv_isub hx hb dX12_auto1_5 ?_
        refine lv_topi (fun v_1 ev_1 => ?_)
        have hR := hR v_1 ev_1
        refine lv_istore_n (lv' := [(1, .int v_1), (0, .ref (bd 0))]) hx hb dX12_auto1_6 rfl hl (by decide) rfl (fun ls hl => ?_)
        exact ih.2.1 t (uI li 1 v_1) lj H locs ls hR (lv_sub hl [1, 0] rfl) h
      · intro t li lj H locs ls hR hl h
        have hR : wbX12_auto1_1 (wpX12_auto1 k) k t li lj Q := hR
        unfold wbX12_auto1_1 at hR
        refine lv_iload_n hx hb dX12_auto1_7 rfl (lv_at hl 1 rfl) ?_
        refine lv_if_lt (tgt := 64) hx hb dX12_auto1_8 (by decide) (fun c_2 => ?_) (fun c_2 => ?_)
        · have hR := hR.1 c_2
          exact x_vret (w1 := (fun u : XT => (wM cI cJ cB cZ bd u))) t B h hr hR dX12_auto1_64
        · have hR := hR.2 c_2
          refine lv_iload_n hx hb dX12_auto1_11 rfl (lv_at hl 1 rfl) ?_
          refine lv_iconst (v := 1) hx hb dX12_auto1_12 (by decide) ?_
          refine lv_isub hx hb dX12_auto1_13 ?_
          refine lv_topi (fun v_3 ev_3 => ?_)
          have hR := hR v_3 ev_3
          refine lv_istore_n (lv' := [(2, .int v_3), (0, .ref (bd 0)), (1, .int (li 1))]) hx hb dX12_auto1_14 rfl hl (by decide) rfl (fun ls hl => ?_)
          exact ih.2.2.1 t (uI li 2 v_3) lj H locs ls hR (lv_sub hl [1, 2, 0] rfl) h
      · intro t li lj H locs ls hR hl h
        have hR : wbX12_auto1_2 (wpX12_auto1 k) k t li lj Q := hR
        unfold wbX12_auto1_2 at hR
        refine lv_iload_n hx hb dX12_auto1_15 rfl (lv_at hl 2 rfl) ?_
        refine lv_if_lt (tgt := 58) hx hb dX12_auto1_16 (by decide) (fun c_4 => ?_) (fun c_4 => ?_)
        · have hR := hR.1 c_4
          exact ih.2.2.2.2 t li lj H locs ls hR (lv_sub hl [0, 1, 2] rfl) h
        · have hR := hR.2 c_4
          refine lv_aload_n hx hb dX12_auto1_19 rfl (lv_at hl 0 rfl) ?_
          refine lv_iload_n hx hb dX12_auto1_20 rfl (lv_at hl 1 rfl) ?_
          refine x_cVIF (n := 1) (As := [.int (li 1)]) (rest := []) B h (wkX12_isCritical l D cI cJ cB cZ bd k t (li 1) _ hR) ⟨⟨_, rfl⟩, by decide +kernel, Nat.le_of_ble_eq_true rfl, Nat.le_of_ble_eq_true rfl⟩ gX12_auto1_X12_isCritical (show ((wM cI cJ cB cZ bd t) : va_W)[0]? = some (_, .inr (12, _)) from rfl) rfl rfl hl.1 rfl (Nat.le_of_ble_eq_true rfl) dX12_auto1_21 ⟨Nat.le_of_ble_eq_true rfl, Nat.le_of_ble_eq_true rfl⟩ (fun r_5 t_5 H locs hR h => ?_)
          refine lv_if_eq (tgt := 58) hx hb dX12_auto1_24 (by decide) (fun c_6 => ?_) (fun c_6 => ?_)
          · have hR := hR.1 c_6
            exact ih.2.2.2.2 t_5 li lj H locs ls hR (lv_sub hl [0, 1, 2] rfl) h
          · have hR := hR.2 c_6
            refine lv_aload_n hx hb dX12_auto1_27 rfl (lv_at hl 0 rfl) ?_
            refine lv_iload_n hx hb dX12_auto1_28 rfl (lv_at hl 2 rfl) ?_
            refine lv_iload_n hx hb dX12_auto1_29 rfl (lv_at hl 1 rfl) ?_
            refine x_cVIF (n := 2) (As := [.int (li 2), .int (li 1)]) (rest := []) B h (wkX12_isFaceThere l D cI cJ cB cZ bd k t_5 (li 2) (li 1) _ hR) ⟨⟨_, rfl⟩, by decide +kernel, Nat.le_of_ble_eq_true rfl, Nat.le_of_ble_eq_true rfl⟩ gX12_auto1_X12_isFaceThere (show ((wM cI cJ cB cZ bd t_5) : va_W)[0]? = some (_, .inr (12, _)) from rfl) rfl rfl hl.1 rfl (Nat.le_of_ble_eq_true rfl) dX12_auto1_30 ⟨Nat.le_of_ble_eq_true rfl, Nat.le_of_ble_eq_true rfl⟩ (fun r_7 t_7 H locs hR h => ?_)
            refine lv_if_eq (tgt := 52) hx hb dX12_auto1_33 (by decide) (fun c_8 => ?_) (fun c_8 => ?_)
            · have hR := hR.1 c_8
              exact ih.2.2.2.1 t_7 li lj H locs ls hR (lv_sub hl [0, 1, 2] rfl) h
            · have hR := hR.2 c_8
              refine lv_aload_n hx hb dX12_auto1_36 rfl (lv_at hl 0 rfl) ?_
              refine lv_iload_n hx hb dX12_auto1_37 rfl (lv_at hl 2 rfl) ?_
              refine lv_iload_n hx hb dX12_auto1_38 rfl (lv_at hl 1 rfl) ?_
              refine x_cVIF (n := 2) (As := [.int (li 2), .int (li 1)]) (rest := []) B h (wkX12_isFree l D cI cJ cB cZ bd k t_7 (li 2) (li 1) _ hR) ⟨⟨_, rfl⟩, by decide +kernel, Nat.le_of_ble_eq_true rfl, Nat.le_of_ble_eq_true rfl⟩ gX12_auto1_X12_isFree (show ((wM cI cJ cB cZ bd t_7) : va_W)[0]? = some (_, .inr (12, _)) from rfl) rfl rfl hl.1 rfl (Nat.le_of_ble_eq_true rfl) dX12_auto1_39 ⟨Nat.le_of_ble_eq_true rfl, Nat.le_of_ble_eq_true rfl⟩ (fun r_9 t_9 H locs hR h => ?_)
              refine lv_if_eq (tgt := 52) hx hb dX12_auto1_42 (by decide) (fun c_10 => ?_) (fun c_10 => ?_)
              · have hR := hR.1 c_10
                exact ih.2.2.2.1 t_9 li lj H locs ls hR (lv_sub hl [0, 1, 2] rfl) h
              · have hR := hR.2 c_10
                refine lv_aload_n hx hb dX12_auto1_45 rfl (lv_at hl 0 rfl) ?_
                refine lv_iload_n hx hb dX12_auto1_46 rfl (lv_at hl 2 rfl) ?_
                refine lv_iload_n hx hb dX12_auto1_47 rfl (lv_at hl 1 rfl) ?_
                refine x_cVIF (n := 2) (As := [.int (li 2), .int (li 1)]) (rest := []) B h (wkX12_couples l D cI cJ cB cZ bd k t_9 (li 2) (li 1) _ hR) ⟨⟨_, rfl⟩, by decide +kernel, Nat.le_of_ble_eq_true rfl, Nat.le_of_ble_eq_true rfl⟩ gX12_auto1_X12_couples (show ((wM cI cJ cB cZ bd t_9) : va_W)[0]? = some (_, .inr (12, _)) from rfl) rfl rfl hl.1 rfl (Nat.le_of_ble_eq_true rfl) dX12_auto1_48 ⟨Nat.le_of_ble_eq_true rfl, Nat.le_of_ble_eq_true rfl⟩ (fun r_11 t_11 H locs hR h => ?_)
                refine lv_pop hx hb dX12_auto1_51 rfl ?_
                exact ih.2.2.2.1 t_11 li lj H locs ls hR (lv_sub hl [0, 1, 2] rfl) h
      · intro t li lj H locs ls hR hl h
        have hR : wbX12_auto1_3 (wpX12_auto1 k) k t li lj Q := hR
        unfold wbX12_auto1_3 at hR
        obtain ⟨v_12, ev_12⟩ : ∃ v : Int32, v = (li 2) + Int32.ofInt (-1) := ⟨_, rfl⟩
        have hR := hR v_12 ev_12
        refine lv_iinc (v := v_12) (lv' := [(2, .int v_12), (0, .ref (bd 0)), (1, .int (li 1))]) hx hb dX12_auto1_52 hl (k := 2) rfl ev_12.symm (by decide) rfl (fun ls hl => ?_)
        refine lv_goto (tgt := 15) hx hb dX12_auto1_55 (by decide) ?_
        exact ih.2.2.1 t (uI li 2 v_12) lj H locs ls hR (lv_sub hl [1, 2, 0] rfl) h
      · intro t li lj H locs ls hR hl h
        have hR : wbX12_auto1_4 (wpX12_auto1 k) k t li lj Q := hR
        unfold wbX12_auto1_4 at hR
        obtain ⟨v_13, ev_13⟩ : ∃ v : Int32, v = (li 1) + Int32.ofInt (-1) := ⟨_, rfl⟩
        have hR := hR v_13 ev_13
        refine lv_iinc (v := v_13) (lv' := [(1, .int v_13), (0, .ref (bd 0)), (2, .int (li 2))]) hx hb dX12_auto1_58 hl (k := 1) rfl ev_13.symm (by decide) rfl (fun ls hl => ?_)
        refine lv_goto (tgt := 7) hx hb dX12_auto1_61 (by decide) ?_
        exact ih.2.1 t (uI li 1 v_13) lj H locs ls hR (lv_sub hl [1, 0] rfl) h
  exact (main k).1 t _ _ s.heap [] ls hR hl h
set_option maxRecDepth 20000 in
theorem ggX12_auto0_X12_isCritical : GoodIn wsX12_auto0 wsX12_isCritical := goodIn_r _ [6, 7, 8, 9, 10, 5, 11, 12, 13, 14, 15, 16, 1, 17, 18, 19, 64, 65, 66, 67, 68, 69, 70, 71, 72, 73, 74, 75, 76, 77, 78, 79, 80, 81, 82, 83, 84, 85, 86, 87, 88, 89, 90, 91, 92, 93, 94] (by decide +kernel) (by decide +kernel)
set_option maxRecDepth 20000 in
theorem gX12_auto0_X12_isCritical : GoodIn wsX12_auto0 (wsV RX12 159 RX12 yX12_isCritical wsX12_isCritical) := goodIn_app (goodIn_of _ (by decide +kernel)) ggX12_auto0_X12_isCritical
set_option maxRecDepth 20000 in
theorem ggX12_auto0_X12_isFaceThere : GoodIn wsX12_auto0 wsX12_isFaceThere := goodIn_r _ [23, 12, 24, 25, 26, 5, 27, 28, 29, 30, 31, 32, 33, 34, 35, 36, 37, 38, 39, 64, 65, 66, 67, 68, 69, 70, 71, 72, 73, 74, 75, 76, 77, 78, 79, 80, 81, 82, 83, 84, 85, 86, 87, 88, 89, 90, 91, 92, 93, 94] (by decide +kernel) (by decide +kernel)
set_option maxRecDepth 20000 in
theorem gX12_auto0_X12_isFaceThere : GoodIn wsX12_auto0 (wsV RX12 162 RX12 yX12_isFaceThere wsX12_isFaceThere) := goodIn_app (goodIn_of _ (by decide +kernel)) ggX12_auto0_X12_isFaceThere
set_option maxRecDepth 20000 in
theorem ggX12_auto0_X12_isFree : GoodIn wsX12_auto0 wsX12_isFree := goodIn_r _ [43, 7, 64, 65, 66, 67, 68, 69, 70, 71, 72, 73, 74, 75, 76, 77, 78, 79, 80, 81, 82, 83, 84, 85, 86, 87, 88, 89, 90, 91, 92, 93, 94] (by decide +kernel) (by decide +kernel)
set_option maxRecDepth 20000 in
theorem gX12_auto0_X12_isFree : GoodIn wsX12_auto0 (wsV RX12 185 RX12 yX12_isFree wsX12_isFree) := goodIn_app (goodIn_of _ (by decide +kernel)) ggX12_auto0_X12_isFree
set_option maxRecDepth 20000 in
theorem ggX12_auto0_X12_couples : GoodIn wsX12_auto0 wsX12_couples := goodIn_r _ [47, 7, 48, 49, 50, 5, 51, 1, 52, 53, 54, 55, 56, 57, 58, 59, 60, 61, 62, 63, 24, 25, 26, 27, 28, 29, 30, 31, 32, 33, 34, 35, 36, 37, 38, 39, 64, 65, 66, 67, 68, 69, 70, 71, 72, 73, 74, 75, 76, 77, 78, 79, 80, 81, 82, 83, 84, 85, 86, 87, 88, 89, 90, 91, 92, 93, 94] (by decide +kernel) (by decide +kernel)
set_option maxRecDepth 20000 in
theorem gX12_auto0_X12_couples : GoodIn wsX12_auto0 (wsV RX12 188 RX12 yX12_couples wsX12_couples) := goodIn_app (goodIn_of _ (by decide +kernel)) ggX12_auto0_X12_couples
def wbX12_auto0_0 (rec : Nat → XT → (Nat → Int32) → (Nat → Int64) → (XT → Prop) → Prop) (k : Nat) (t : XT) (li : Nat → Int32) (lj : Nat → Int64) (Q : XT → Prop) : Prop :=
  rec 1 t (uI li 1 0) lj Q
def wbX12_auto0_1 (rec : Nat → XT → (Nat → Int32) → (Nat → Int64) → (XT → Prop) → Prop) (k : Nat) (t : XT) (li : Nat → Int32) (lj : Nat → Int64) (Q : XT → Prop) : Prop :=
  ((((t.1 3) : Int32) ≤ (li 1)) → Q t) ∧ (¬ (((t.1 3) : Int32) ≤ (li 1)) → (∀ v_2 : Int32, v_2 = ((li 1) + 1) → rec 2 t (uI li 2 v_2) lj Q))
def wbX12_auto0_2 (rec : Nat → XT → (Nat → Int32) → (Nat → Int64) → (XT → Prop) → Prop) (k : Nat) (t : XT) (li : Nat → Int32) (lj : Nat → Int64) (Q : XT → Prop) : Prop :=
  ((((t.1 3) : Int32) ≤ (li 2)) → rec 4 t li lj Q) ∧ (¬ (((t.1 3) : Int32) ≤ (li 2)) → (wqX12_isCritical k t (li 1) (fun r_4 t_4 => ((r_4 = 0) → rec 4 t_4 li lj Q) ∧ (¬ (r_4 = 0) → (wqX12_isFaceThere k t_4 (li 1) (li 2) (fun r_6 t_6 => ((r_6 = 0) → rec 3 t_6 li lj Q) ∧ (¬ (r_6 = 0) → (wqX12_isFree k t_6 (li 1) (li 2) (fun r_8 t_8 => ((r_8 = 0) → rec 3 t_8 li lj Q) ∧ (¬ (r_8 = 0) → (wqX12_couples k t_8 (li 1) (li 2) (fun r_10 t_10 => rec 3 t_10 li lj Q))))))))))))
def wbX12_auto0_3 (rec : Nat → XT → (Nat → Int32) → (Nat → Int64) → (XT → Prop) → Prop) (k : Nat) (t : XT) (li : Nat → Int32) (lj : Nat → Int64) (Q : XT → Prop) : Prop :=
  (∀ v_11 : Int32, v_11 = (li 2) + Int32.ofInt 1 → rec 2 t (uI li 2 v_11) lj Q)
def wbX12_auto0_4 (rec : Nat → XT → (Nat → Int32) → (Nat → Int64) → (XT → Prop) → Prop) (k : Nat) (t : XT) (li : Nat → Int32) (lj : Nat → Int64) (Q : XT → Prop) : Prop :=
  (∀ v_12 : Int32, v_12 = (li 1) + Int32.ofInt 1 → rec 1 t (uI li 1 v_12) lj Q)
def wpX12_auto0 : Nat → Nat → XT → (Nat → Int32) → (Nat → Int64) → (XT → Prop) → Prop
  | 0, _, _, _, _, _ => False
  | k + 1, 0, t, li, lj, Q => wbX12_auto0_0 (wpX12_auto0 k) k t li lj Q
  | k + 1, 1, t, li, lj, Q => wbX12_auto0_1 (wpX12_auto0 k) k t li lj Q
  | k + 1, 2, t, li, lj, Q => wbX12_auto0_2 (wpX12_auto0 k) k t li lj Q
  | k + 1, 3, t, li, lj, Q => wbX12_auto0_3 (wpX12_auto0 k) k t li lj Q
  | k + 1, 4, t, li, lj, Q => wbX12_auto0_4 (wpX12_auto0 k) k t li lj Q
  | _ + 1, _, _, _, _, _ => False
def wqX12_auto0 (k : Nat) (t : XT)  (Q : XT → Prop) : Prop := wpX12_auto0 k 0 t (fun _ => 0) (fun _ => 0) Q
set_option maxHeartbeats 8000000 in
set_option maxRecDepth 100000 in
theorem wkX12_auto0 (l : Launch) (D : va_G) (cI cJ cB cZ : ClassId) (bd : Nat → Nat) (k : Nat) (t : XT)  (Q : XT → Prop) (hR : wqX12_auto0 k t  Q) : MetV l yX12_auto0 wsX12_auto0 6 129 0 0 D (TYS cI cJ cB cZ) (wM cI cJ cB cZ bd t) [.ref (bd 0)] (fun u => Q u) (fun u : XT => (wM cI cJ cB cZ bd u)) := by
  refine x_startV (ty := .int) (cc := cX12_auto0) (by decide) rfl (Nat.le_of_ble_eq_true rfl) ?_
  intro p e s m args below meth c A ls B hr hnm h hl
  have hx := B.1.1
  have hb := B.1.2.1
  have hml := B.1.2.2.1
  have hts := B.1.2.2.2.2
  have hown : s.vm.findClass RX12 = some m.cls := B.1.2.2.2.1
  have hin12 : ∀ w ∈ u_ws RX12 TX12 31, w ∈ wsX12_auto0 := by decide +kernel
  have main : ∀ k : Nat, (∀ (t : XT) (li : Nat → Int32) (lj : Nat → Int64) (H : Heap) (locs : List Loc) (ls : Array Slot), wpX12_auto0 k 0 t li lj Q → lv_has ls 3 [(0, .ref (bd 0))] → Hp D A s.heap (wM cI cJ cB cZ bd t) H locs → W p l e { frames := 6, cells := 0, slots := 0, locals := 129 } s m args below meth c H locs 0 0 (MQ below (va_Qv (fun u => Q u) (fun u t => xEnd D ((fun u : XT => (wM cI cJ cB cZ bd u)) u) A t) A) args s 0 0 A) (F0 m 0 ls [])) ∧
      (∀ (t : XT) (li : Nat → Int32) (lj : Nat → Int64) (H : Heap) (locs : List Loc) (ls : Array Slot), wpX12_auto0 k 1 t li lj Q → lv_has ls 3 [(0, .ref (bd 0)), (1, .int (li 1))] → Hp D A s.heap (wM cI cJ cB cZ bd t) H locs → W p l e { frames := 6, cells := 0, slots := 0, locals := 129 } s m args below meth c H locs 0 0 (MQ below (va_Qv (fun u => Q u) (fun u t => xEnd D ((fun u : XT => (wM cI cJ cB cZ bd u)) u) A t) A) args s 0 0 A) (F0 m 2 ls [])) ∧
      (∀ (t : XT) (li : Nat → Int32) (lj : Nat → Int64) (H : Heap) (locs : List Loc) (ls : Array Slot), wpX12_auto0 k 2 t li lj Q → lv_has ls 3 [(0, .ref (bd 0)), (1, .int (li 1)), (2, .int (li 2))] → Hp D A s.heap (wM cI cJ cB cZ bd t) H locs → W p l e { frames := 6, cells := 0, slots := 0, locals := 129 } s m args below meth c H locs 0 0 (MQ below (va_Qv (fun u => Q u) (fun u t => xEnd D ((fun u : XT => (wM cI cJ cB cZ bd u)) u) A t) A) args s 0 0 A) (F0 m 14 ls [])) ∧
      (∀ (t : XT) (li : Nat → Int32) (lj : Nat → Int64) (H : Heap) (locs : List Loc) (ls : Array Slot), wpX12_auto0 k 3 t li lj Q → lv_has ls 3 [(0, .ref (bd 0)), (1, .int (li 1)), (2, .int (li 2))] → Hp D A s.heap (wM cI cJ cB cZ bd t) H locs → W p l e { frames := 6, cells := 0, slots := 0, locals := 129 } s m args below meth c H locs 0 0 (MQ below (va_Qv (fun u => Q u) (fun u t => xEnd D ((fun u : XT => (wM cI cJ cB cZ bd u)) u) A t) A) args s 0 0 A) (F0 m 55 ls [])) ∧
      (∀ (t : XT) (li : Nat → Int32) (lj : Nat → Int64) (H : Heap) (locs : List Loc) (ls : Array Slot), wpX12_auto0 k 4 t li lj Q → lv_has ls 3 [(0, .ref (bd 0)), (1, .int (li 1)), (2, .int (li 2))] → Hp D A s.heap (wM cI cJ cB cZ bd t) H locs → W p l e { frames := 6, cells := 0, slots := 0, locals := 129 } s m args below meth c H locs 0 0 (MQ below (va_Qv (fun u => Q u) (fun u t => xEnd D ((fun u : XT => (wM cI cJ cB cZ bd u)) u) A t) A) args s 0 0 A) (F0 m 61 ls [])) := by
    intro k
    induction k with
    | zero => exact ⟨fun _ _ _ _ _ _ hR => False.elim hR, fun _ _ _ _ _ _ hR => False.elim hR, fun _ _ _ _ _ _ hR => False.elim hR, fun _ _ _ _ _ _ hR => False.elim hR, fun _ _ _ _ _ _ hR => False.elim hR⟩
    | succ k ih =>
      refine ⟨?_, ?_, ?_, ?_, ?_⟩
      · intro t li lj H locs ls hR hl h
        have hR : wbX12_auto0_0 (wpX12_auto0 k) k t li lj Q := hR
        unfold wbX12_auto0_0 at hR
        refine lv_iconst (v := 0) hx hb dX12_auto0_0 (by decide) ?_
        refine lv_istore_n (lv' := [(1, .int 0), (0, .ref (bd 0))]) hx hb dX12_auto0_1 rfl hl (by decide) rfl (fun ls hl => ?_)
        exact ih.2.1 t (uI li 1 0) lj H locs ls hR (lv_sub hl [1, 0] rfl) h
      · intro t li lj H locs ls hR hl h
        have hR : wbX12_auto0_1 (wpX12_auto0 k) k t li lj Q := hR
        unfold wbX12_auto0_1 at hR
        refine lv_iload_n hx hb dX12_auto0_2 rfl (lv_at hl 1 rfl) ?_
        refine lv_aload_n hx hb dX12_auto0_3 rfl (lv_at hl 0 rfl) ?_
        refine x_get (ci := 12) (C := RX12) (T := TX12) (N := 31) (v := .int (t.1 3)) B h hin12 0 5 rfl rfl (by decide) (by decide +kernel) rfl dX12_auto0_4 ?_
        refine lv_icmp_ge (tgt := 67) hx hb dX12_auto0_7 (by decide) (fun c_1 => ?_) (fun c_1 => ?_)
        · have hR := hR.1 c_1
          exact x_vret (w1 := (fun u : XT => (wM cI cJ cB cZ bd u))) t B h hr hR dX12_auto0_67
        · have hR := hR.2 c_1
          refine lv_iload_n hx hb dX12_auto0_10 rfl (lv_at hl 1 rfl) ?_
          refine lv_iconst (v := 1) hx hb dX12_auto0_11 (by decide) ?_
          refine lv_iadd hx hb dX12_auto0_12 ?_
          refine lv_topi (fun v_2 ev_2 => ?_)
          have hR := hR v_2 ev_2
          refine lv_istore_n (lv' := [(2, .int v_2), (0, .ref (bd 0)), (1, .int (li 1))]) hx hb dX12_auto0_13 rfl hl (by decide) rfl (fun ls hl => ?_)
          exact ih.2.2.1 t (uI li 2 v_2) lj H locs ls hR (lv_sub hl [1, 2, 0] rfl) h
      · intro t li lj H locs ls hR hl h
        have hR : wbX12_auto0_2 (wpX12_auto0 k) k t li lj Q := hR
        unfold wbX12_auto0_2 at hR
        refine lv_iload_n hx hb dX12_auto0_14 rfl (lv_at hl 2 rfl) ?_
        refine lv_aload_n hx hb dX12_auto0_15 rfl (lv_at hl 0 rfl) ?_
        refine x_get (ci := 12) (C := RX12) (T := TX12) (N := 31) (v := .int (t.1 3)) B h hin12 0 5 rfl rfl (by decide) (by decide +kernel) rfl dX12_auto0_16 ?_
        refine lv_icmp_ge (tgt := 61) hx hb dX12_auto0_19 (by decide) (fun c_3 => ?_) (fun c_3 => ?_)
        · have hR := hR.1 c_3
          exact ih.2.2.2.2 t li lj H locs ls hR (lv_sub hl [0, 1, 2] rfl) h
        · have hR := hR.2 c_3
          refine lv_aload_n hx hb dX12_auto0_22 rfl (lv_at hl 0 rfl) ?_
          refine lv_iload_n hx hb dX12_auto0_23 rfl (lv_at hl 1 rfl) ?_
          refine x_cVIF (n := 1) (As := [.int (li 1)]) (rest := []) B h (wkX12_isCritical l D cI cJ cB cZ bd k t (li 1) _ hR) ⟨⟨_, rfl⟩, by decide +kernel, Nat.le_of_ble_eq_true rfl, Nat.le_of_ble_eq_true rfl⟩ gX12_auto0_X12_isCritical (show ((wM cI cJ cB cZ bd t) : va_W)[0]? = some (_, .inr (12, _)) from rfl) rfl rfl hl.1 rfl (Nat.le_of_ble_eq_true rfl) dX12_auto0_24 ⟨Nat.le_of_ble_eq_true rfl, Nat.le_of_ble_eq_true rfl⟩ (fun r_4 t_4 H locs hR h => ?_)
          refine lv_if_eq (tgt := 61) hx hb dX12_auto0_27 (by decide) (fun c_5 => ?_) (fun c_5 => ?_)
          · have hR := hR.1 c_5
            exact ih.2.2.2.2 t_4 li lj H locs ls hR (lv_sub hl [0, 1, 2] rfl) h
          · have hR := hR.2 c_5
            refine lv_aload_n hx hb dX12_auto0_30 rfl (lv_at hl 0 rfl) ?_
            refine lv_iload_n hx hb dX12_auto0_31 rfl (lv_at hl 1 rfl) ?_
            refine lv_iload_n hx hb dX12_auto0_32 rfl (lv_at hl 2 rfl) ?_
            refine x_cVIF (n := 2) (As := [.int (li 1), .int (li 2)]) (rest := []) B h (wkX12_isFaceThere l D cI cJ cB cZ bd k t_4 (li 1) (li 2) _ hR) ⟨⟨_, rfl⟩, by decide +kernel, Nat.le_of_ble_eq_true rfl, Nat.le_of_ble_eq_true rfl⟩ gX12_auto0_X12_isFaceThere (show ((wM cI cJ cB cZ bd t_4) : va_W)[0]? = some (_, .inr (12, _)) from rfl) rfl rfl hl.1 rfl (Nat.le_of_ble_eq_true rfl) dX12_auto0_33 ⟨Nat.le_of_ble_eq_true rfl, Nat.le_of_ble_eq_true rfl⟩ (fun r_6 t_6 H locs hR h => ?_)
            refine lv_if_eq (tgt := 55) hx hb dX12_auto0_36 (by decide) (fun c_7 => ?_) (fun c_7 => ?_)
            · have hR := hR.1 c_7
              exact ih.2.2.2.1 t_6 li lj H locs ls hR (lv_sub hl [0, 1, 2] rfl) h
            · have hR := hR.2 c_7
              refine lv_aload_n hx hb dX12_auto0_39 rfl (lv_at hl 0 rfl) ?_
              refine lv_iload_n hx hb dX12_auto0_40 rfl (lv_at hl 1 rfl) ?_
              refine lv_iload_n hx hb dX12_auto0_41 rfl (lv_at hl 2 rfl) ?_
              refine x_cVIF (n := 2) (As := [.int (li 1), .int (li 2)]) (rest := []) B h (wkX12_isFree l D cI cJ cB cZ bd k t_6 (li 1) (li 2) _ hR) ⟨⟨_, rfl⟩, by decide +kernel, Nat.le_of_ble_eq_true rfl, Nat.le_of_ble_eq_true rfl⟩ gX12_auto0_X12_isFree (show ((wM cI cJ cB cZ bd t_6) : va_W)[0]? = some (_, .inr (12, _)) from rfl) rfl rfl hl.1 rfl (Nat.le_of_ble_eq_true rfl) dX12_auto0_42 ⟨Nat.le_of_ble_eq_true rfl, Nat.le_of_ble_eq_true rfl⟩ (fun r_8 t_8 H locs hR h => ?_)
              refine lv_if_eq (tgt := 55) hx hb dX12_auto0_45 (by decide) (fun c_9 => ?_) (fun c_9 => ?_)
              · have hR := hR.1 c_9
                exact ih.2.2.2.1 t_8 li lj H locs ls hR (lv_sub hl [0, 1, 2] rfl) h
              · have hR := hR.2 c_9
                refine lv_aload_n hx hb dX12_auto0_48 rfl (lv_at hl 0 rfl) ?_
                refine lv_iload_n hx hb dX12_auto0_49 rfl (lv_at hl 1 rfl) ?_
                refine lv_iload_n hx hb dX12_auto0_50 rfl (lv_at hl 2 rfl) ?_
                refine x_cVIF (n := 2) (As := [.int (li 1), .int (li 2)]) (rest := []) B h (wkX12_couples l D cI cJ cB cZ bd k t_8 (li 1) (li 2) _ hR) ⟨⟨_, rfl⟩, by decide +kernel, Nat.le_of_ble_eq_true rfl, Nat.le_of_ble_eq_true rfl⟩ gX12_auto0_X12_couples (show ((wM cI cJ cB cZ bd t_8) : va_W)[0]? = some (_, .inr (12, _)) from rfl) rfl rfl hl.1 rfl (Nat.le_of_ble_eq_true rfl) dX12_auto0_51 ⟨Nat.le_of_ble_eq_true rfl, Nat.le_of_ble_eq_true rfl⟩ (fun r_10 t_10 H locs hR h => ?_)
                refine lv_pop hx hb dX12_auto0_54 rfl ?_
                exact ih.2.2.2.1 t_10 li lj H locs ls hR (lv_sub hl [0, 1, 2] rfl) h
      · intro t li lj H locs ls hR hl h
        have hR : wbX12_auto0_3 (wpX12_auto0 k) k t li lj Q := hR
        unfold wbX12_auto0_3 at hR
        obtain ⟨v_11, ev_11⟩ : ∃ v : Int32, v = (li 2) + Int32.ofInt 1 := ⟨_, rfl⟩
        have hR := hR v_11 ev_11
        refine lv_iinc (v := v_11) (lv' := [(2, .int v_11), (0, .ref (bd 0)), (1, .int (li 1))]) hx hb dX12_auto0_55 hl (k := 2) rfl ev_11.symm (by decide) rfl (fun ls hl => ?_)
        refine lv_goto (tgt := 14) hx hb dX12_auto0_58 (by decide) ?_
        exact ih.2.2.1 t (uI li 2 v_11) lj H locs ls hR (lv_sub hl [1, 2, 0] rfl) h
      · intro t li lj H locs ls hR hl h
        have hR : wbX12_auto0_4 (wpX12_auto0 k) k t li lj Q := hR
        unfold wbX12_auto0_4 at hR
        obtain ⟨v_12, ev_12⟩ : ∃ v : Int32, v = (li 1) + Int32.ofInt 1 := ⟨_, rfl⟩
        have hR := hR v_12 ev_12
        refine lv_iinc (v := v_12) (lv' := [(1, .int v_12), (0, .ref (bd 0)), (2, .int (li 2))]) hx hb dX12_auto0_61 hl (k := 1) rfl ev_12.symm (by decide) rfl (fun ls hl => ?_)
        refine lv_goto (tgt := 2) hx hb dX12_auto0_64 (by decide) ?_
        exact ih.2.1 t (uI li 1 v_12) lj H locs ls hR (lv_sub hl [1, 0] rfl) h
  exact (main k).1 t _ _ s.heap [] ls hR hl h
set_option maxRecDepth 20000 in
theorem ggX12_auto_X12_in : GoodIn wsX12_auto wsX12_in := goodIn_r _ [5] (by decide +kernel) (by decide +kernel)
set_option maxRecDepth 20000 in
theorem gX12_auto_X12_in : GoodIn wsX12_auto (va_wsS RX12 101 yX12_in wsX12_in) := goodIn_app (goodIn_of _ (by decide +kernel)) ggX12_auto_X12_in
set_option maxRecDepth 20000 in
theorem ggX12_auto_X12_remembers : GoodIn wsX12_auto wsX12_remembers := goodIn_r _ [9, 10, 11, 12, 13, 14, 15, 4, 16, 103, 104, 105, 106, 107, 108, 109, 110, 111, 112, 113, 114, 115, 116, 117, 118, 119, 120, 121, 122, 123, 124, 125, 126, 127, 128, 129, 130, 131, 132, 133] (by decide +kernel) (by decide +kernel)
set_option maxRecDepth 20000 in
theorem gX12_auto_X12_remembers : GoodIn wsX12_auto (wsV RX12 194 RX12 yX12_remembers wsX12_remembers) := goodIn_app (goodIn_of _ (by decide +kernel)) ggX12_auto_X12_remembers
set_option maxRecDepth 20000 in
theorem ggX12_auto_X12_clearsPairs : GoodIn wsX12_auto wsX12_clearsPairs := goodIn_r _ [20, 1, 12, 103, 104, 105, 106, 107, 108, 109, 110, 111, 112, 113, 114, 115, 116, 117, 118, 119, 120, 121, 122, 123, 124, 125, 126, 127, 128, 129, 130, 131, 132, 133] (by decide +kernel) (by decide +kernel)
set_option maxRecDepth 20000 in
theorem gX12_auto_X12_clearsPairs : GoodIn wsX12_auto (wsV RX12 200 RX12 yX12_clearsPairs wsX12_clearsPairs) := goodIn_app (goodIn_of _ (by decide +kernel)) ggX12_auto_X12_clearsPairs
set_option maxRecDepth 20000 in
theorem ggX12_auto_X12_auto0 : GoodIn wsX12_auto wsX12_auto0 := goodIn_r _ [24, 1, 25, 26, 27, 4, 28, 12, 29, 30, 31, 32, 13, 33, 34, 35, 36, 2, 3, 5, 37, 38, 39, 40, 41, 42, 43, 44, 45, 46, 47, 48, 49, 50, 51, 52, 53, 54, 55, 56, 57, 58, 59, 60, 61, 62, 63, 64, 65, 66, 67, 68, 69, 70, 71, 72, 73, 14, 15, 16, 74, 75, 76, 77, 103, 104, 105, 106, 107, 108, 109, 110, 111, 112, 113, 114, 115, 116, 117, 118, 119, 120, 121, 122, 123, 124, 125, 126, 127, 128, 129, 130, 131, 132, 133] (by decide +kernel) (by decide +kernel)
set_option maxRecDepth 20000 in
theorem gX12_auto_X12_auto0 : GoodIn wsX12_auto (wsV RX12 212 RX12 yX12_auto0 wsX12_auto0) := goodIn_app (goodIn_of _ (by decide +kernel)) ggX12_auto_X12_auto0
set_option maxRecDepth 20000 in
theorem ggX12_auto_X12_auto1 : GoodIn wsX12_auto wsX12_auto1 := goodIn_r _ [81, 1, 25, 26, 27, 4, 28, 12, 29, 30, 31, 32, 13, 33, 34, 35, 36, 2, 3, 5, 37, 38, 39, 40, 41, 42, 43, 44, 45, 46, 47, 48, 49, 50, 51, 52, 53, 54, 55, 56, 57, 58, 59, 60, 61, 62, 63, 64, 65, 66, 67, 68, 69, 70, 71, 72, 73, 14, 15, 16, 74, 75, 76, 77, 103, 104, 105, 106, 107, 108, 109, 110, 111, 112, 113, 114, 115, 116, 117, 118, 119, 120, 121, 122, 123, 124, 125, 126, 127, 128, 129, 130, 131, 132, 133] (by decide +kernel) (by decide +kernel)
set_option maxRecDepth 20000 in
theorem gX12_auto_X12_auto1 : GoodIn wsX12_auto (wsV RX12 215 RX12 yX12_auto1 wsX12_auto1) := goodIn_app (goodIn_of _ (by decide +kernel)) ggX12_auto_X12_auto1
set_option maxRecDepth 20000 in
theorem ggX12_auto_X12_auto2 : GoodIn wsX12_auto wsX12_auto2 := goodIn_r _ [85, 1, 86, 87, 88, 89, 4, 90, 13, 17, 18, 19, 20, 12, 91, 92, 93, 94, 41, 42, 43, 44, 45, 46, 47, 48, 49, 50, 51, 52, 53, 54, 55, 56, 95, 96, 97, 98, 103, 104, 105, 106, 107, 108, 109, 110, 111, 112, 113, 114, 115, 116, 117, 118, 119, 120, 121, 122, 123, 124, 125, 126, 127, 128, 129, 130, 131, 132, 133] (by decide +kernel) (by decide +kernel)
set_option maxRecDepth 20000 in
theorem gX12_auto_X12_auto2 : GoodIn wsX12_auto (wsV RX12 218 RX12 yX12_auto2 wsX12_auto2) := goodIn_app (goodIn_of _ (by decide +kernel)) ggX12_auto_X12_auto2
set_option maxRecDepth 20000 in
theorem ggX12_auto_X12_criticalMany : GoodIn wsX12_auto wsX12_criticalMany := goodIn_r _ [102, 1, 25, 26, 27, 4, 28, 12, 29, 30, 31, 32, 13, 33, 34, 35, 36, 2, 3, 5, 14, 15, 16, 103, 104, 105, 106, 107, 108, 109, 110, 111, 112, 113, 114, 115, 116, 117, 118, 119, 120, 121, 122, 123, 124, 125, 126, 127, 128, 129, 130, 131, 132, 133] (by decide +kernel) (by decide +kernel)
set_option maxRecDepth 20000 in
theorem gX12_auto_X12_criticalMany : GoodIn wsX12_auto (wsV RX12 197 RX12 yX12_criticalMany wsX12_criticalMany) := goodIn_app (goodIn_of _ (by decide +kernel)) ggX12_auto_X12_criticalMany
def wbX12_auto_0 (rec : Nat → XT → (Nat → Int32) → (Nat → Int64) → (Int32 → XT → Prop) → Prop) (k : Nat) (t : XT) (li : Nat → Int32) (lj : Nat → Int64) (Q : Int32 → XT → Prop) : Prop :=
  (((t.1 3) = 0) → rec 1 t li lj Q) ∧ (¬ ((t.1 3) = 0) → (wqX12_in k (li 1) 0 2 (fun r_2 => ((¬ r_2 = 0) → (wqX12_remembers k t  (fun t_4 => (wqX12_clearsPairs k t_4  (fun t_5 => ((¬ (li 1) = 0) → ((¬ (li 1) = 1) → (wqX12_auto2 k t_5  (fun t_8 => rec 2 t_8 li lj Q))) ∧ (((li 1) = 1) → (wqX12_auto1 k t_5  (fun t_9 => rec 2 t_9 li lj Q)))) ∧ (((li 1) = 0) → (wqX12_auto0 k t_5  (fun t_10 => rec 2 t_10 li lj Q)))))))) ∧ ((r_2 = 0) → rec 1 t li lj Q))))
def wbX12_auto_1 (rec : Nat → XT → (Nat → Int32) → (Nat → Int64) → (Int32 → XT → Prop) → Prop) (k : Nat) (t : XT) (li : Nat → Int32) (lj : Nat → Int64) (Q : Int32 → XT → Prop) : Prop :=
  Q (-1) t
def wbX12_auto_2 (rec : Nat → XT → (Nat → Int32) → (Nat → Int64) → (Int32 → XT → Prop) → Prop) (k : Nat) (t : XT) (li : Nat → Int32) (lj : Nat → Int64) (Q : Int32 → XT → Prop) : Prop :=
  (wqX12_criticalMany k t  (fun r_11 t_11 => Q r_11 t_11))
def wpX12_auto : Nat → Nat → XT → (Nat → Int32) → (Nat → Int64) → (Int32 → XT → Prop) → Prop
  | 0, _, _, _, _, _ => False
  | k + 1, 0, t, li, lj, Q => wbX12_auto_0 (wpX12_auto k) k t li lj Q
  | k + 1, 1, t, li, lj, Q => wbX12_auto_1 (wpX12_auto k) k t li lj Q
  | k + 1, 2, t, li, lj, Q => wbX12_auto_2 (wpX12_auto k) k t li lj Q
  | _ + 1, _, _, _, _, _ => False
def wqX12_auto (k : Nat) (t : XT) (a1 : Int32) (Q : Int32 → XT → Prop) : Prop := wpX12_auto k 0 t (uI (fun _ => 0) 1 a1) (fun _ => 0) Q
set_option maxHeartbeats 8000000 in
set_option maxRecDepth 100000 in
theorem wkX12_auto (l : Launch) (D : va_G) (cI cJ cB cZ : ClassId) (bd : Nat → Nat) (k : Nat) (t : XT) (a1 : Int32) (Q : Int32 → XT → Prop) (hR : wqX12_auto k t a1 Q) : MetI l yX12_auto wsX12_auto 7 151 0 0 D (TYS cI cJ cB cZ) (wM cI cJ cB cZ bd t) [.ref (bd 0), .int a1] (fun r u => Q r u) (fun u : XT => (wM cI cJ cB cZ bd u)) := by
  refine x_startI (ty := .int) (cc := cX12_auto) (by decide) rfl (Nat.le_of_ble_eq_true rfl) ?_
  intro p e s m args below meth c A ls B hr hnm h hl
  have hx := B.1.1
  have hb := B.1.2.1
  have hml := B.1.2.2.1
  have hts := B.1.2.2.2.2
  have hown : s.vm.findClass RX12 = some m.cls := B.1.2.2.2.1
  have hin12 : ∀ w ∈ u_ws RX12 TX12 31, w ∈ wsX12_auto := by decide +kernel
  have main : ∀ k : Nat, (∀ (t : XT) (li : Nat → Int32) (lj : Nat → Int64) (H : Heap) (locs : List Loc) (ls : Array Slot), wpX12_auto k 0 t li lj Q → lv_has ls 2 [(0, .ref (bd 0)), (1, .int (li 1))] → Hp D A s.heap (wM cI cJ cB cZ bd t) H locs → W p l e { frames := 7, cells := 0, slots := 0, locals := 151 } s m args below meth c H locs 0 0 (MQ below (va_Qi (fun r u => Q r u) (fun u t => xEnd D ((fun u : XT => (wM cI cJ cB cZ bd u)) u) A t) A) args s 0 0 A) (F0 m 0 ls [])) ∧
      (∀ (t : XT) (li : Nat → Int32) (lj : Nat → Int64) (H : Heap) (locs : List Loc) (ls : Array Slot), wpX12_auto k 1 t li lj Q → lv_has ls 2 [(0, .ref (bd 0)), (1, .int (li 1))] → Hp D A s.heap (wM cI cJ cB cZ bd t) H locs → W p l e { frames := 7, cells := 0, slots := 0, locals := 151 } s m args below meth c H locs 0 0 (MQ below (va_Qi (fun r u => Q r u) (fun u t => xEnd D ((fun u : XT => (wM cI cJ cB cZ bd u)) u) A t) A) args s 0 0 A) (F0 m 16 ls [])) ∧
      (∀ (t : XT) (li : Nat → Int32) (lj : Nat → Int64) (H : Heap) (locs : List Loc) (ls : Array Slot), wpX12_auto k 2 t li lj Q → lv_has ls 2 [(0, .ref (bd 0)), (1, .int (li 1))] → Hp D A s.heap (wM cI cJ cB cZ bd t) H locs → W p l e { frames := 7, cells := 0, slots := 0, locals := 151 } s m args below meth c H locs 0 0 (MQ below (va_Qi (fun r u => Q r u) (fun u t => xEnd D ((fun u : XT => (wM cI cJ cB cZ bd u)) u) A t) A) args s 0 0 A) (F0 m 53 ls [])) := by
    intro k
    induction k with
    | zero => exact ⟨fun _ _ _ _ _ _ hR => False.elim hR, fun _ _ _ _ _ _ hR => False.elim hR, fun _ _ _ _ _ _ hR => False.elim hR⟩
    | succ k ih =>
      refine ⟨?_, ?_, ?_⟩
      · intro t li lj H locs ls hR hl h
        have hR : wbX12_auto_0 (wpX12_auto k) k t li lj Q := hR
        unfold wbX12_auto_0 at hR
        refine lv_aload_n hx hb dX12_auto_0 rfl (lv_at hl 0 rfl) ?_
        refine x_get (ci := 12) (C := RX12) (T := TX12) (N := 31) (v := .int (t.1 3)) B h hin12 0 5 rfl rfl (by decide) (by decide +kernel) rfl dX12_auto_1 ?_
        refine lv_if_eq (tgt := 16) hx hb dX12_auto_4 (by decide) (fun c_1 => ?_) (fun c_1 => ?_)
        · have hR := hR.1 c_1
          exact ih.2.1 t li lj H locs ls hR (lv_sub hl [0, 1] rfl) h
        · have hR := hR.2 c_1
          refine lv_iload_n hx hb dX12_auto_7 rfl (lv_at hl 1 rfl) ?_
          refine lv_iconst (v := 0) hx hb dX12_auto_8 (by decide) ?_
          refine lv_iconst (v := 2) hx hb dX12_auto_9 (by decide) ?_
          refine x_cSIE (n := 3) (As := [.int (li 1), .int 0, .int 2]) (rest := []) B h (wkX12_in l D cI cJ cB cZ bd k (li 1) 0 2 _ hR) ⟨⟨_, rfl⟩, by decide +kernel, Nat.le_of_ble_eq_true rfl, Nat.le_of_ble_eq_true rfl⟩ gX12_auto_X12_in rfl hl.1 rfl (Nat.le_of_ble_eq_true rfl) dX12_auto_10 ⟨Nat.le_of_ble_eq_true rfl, Nat.le_of_ble_eq_true rfl⟩ (fun r_2 _ H locs hR h => ?_)
          refine lv_if_ne (tgt := 18) hx hb dX12_auto_13 (by decide) (fun c_3 => ?_) (fun c_3 => ?_)
          · have hR := hR.1 c_3
            refine lv_aload_n hx hb dX12_auto_18 rfl (lv_at hl 0 rfl) ?_
            refine x_cVVF (n := 0) (As := []) (rest := []) B h (wkX12_remembers l D cI cJ cB cZ bd k t  _ hR) ⟨⟨_, rfl⟩, by decide +kernel, Nat.le_of_ble_eq_true rfl, Nat.le_of_ble_eq_true rfl⟩ gX12_auto_X12_remembers (show ((wM cI cJ cB cZ bd t) : va_W)[0]? = some (_, .inr (12, _)) from rfl) rfl rfl hl.1 rfl (Nat.le_of_ble_eq_true rfl) dX12_auto_19 ⟨Nat.le_of_ble_eq_true rfl, Nat.le_of_ble_eq_true rfl⟩ (fun t_4 H locs hR h => ?_)
            refine lv_aload_n hx hb dX12_auto_22 rfl (lv_at hl 0 rfl) ?_
            refine x_cVVF (n := 0) (As := []) (rest := []) B h (wkX12_clearsPairs l D cI cJ cB cZ bd k t_4  _ hR) ⟨⟨_, rfl⟩, by decide +kernel, Nat.le_of_ble_eq_true rfl, Nat.le_of_ble_eq_true rfl⟩ gX12_auto_X12_clearsPairs (show ((wM cI cJ cB cZ bd t_4) : va_W)[0]? = some (_, .inr (12, _)) from rfl) rfl rfl hl.1 rfl (Nat.le_of_ble_eq_true rfl) dX12_auto_23 ⟨Nat.le_of_ble_eq_true rfl, Nat.le_of_ble_eq_true rfl⟩ (fun t_5 H locs hR h => ?_)
            refine lv_iload_n hx hb dX12_auto_26 rfl (lv_at hl 1 rfl) ?_
            refine lv_if_ne (tgt := 37) hx hb dX12_auto_27 (by decide) (fun c_6 => ?_) (fun c_6 => ?_)
            · have hR := hR.1 c_6
              refine lv_iload_n hx hb dX12_auto_37 rfl (lv_at hl 1 rfl) ?_
              refine lv_iconst (v := 1) hx hb dX12_auto_38 (by decide) ?_
              refine lv_icmp_ne (tgt := 49) hx hb dX12_auto_39 (by decide) (fun c_7 => ?_) (fun c_7 => ?_)
              · have hR := hR.1 c_7
                refine lv_aload_n hx hb dX12_auto_49 rfl (lv_at hl 0 rfl) ?_
                refine x_cVVF (n := 0) (As := []) (rest := []) B h (wkX12_auto2 l D cI cJ cB cZ bd k t_5  _ hR) ⟨⟨_, rfl⟩, by decide +kernel, Nat.le_of_ble_eq_true rfl, Nat.le_of_ble_eq_true rfl⟩ gX12_auto_X12_auto2 (show ((wM cI cJ cB cZ bd t_5) : va_W)[0]? = some (_, .inr (12, _)) from rfl) rfl rfl hl.1 rfl (Nat.le_of_ble_eq_true rfl) dX12_auto_50 ⟨Nat.le_of_ble_eq_true rfl, Nat.le_of_ble_eq_true rfl⟩ (fun t_8 H locs hR h => ?_)
                exact ih.2.2 t_8 li lj H locs ls hR (lv_sub hl [0, 1] rfl) h
              · have hR := hR.2 c_7
                refine lv_aload_n hx hb dX12_auto_42 rfl (lv_at hl 0 rfl) ?_
                refine x_cVVF (n := 0) (As := []) (rest := []) B h (wkX12_auto1 l D cI cJ cB cZ bd k t_5  _ hR) ⟨⟨_, rfl⟩, by decide +kernel, Nat.le_of_ble_eq_true rfl, Nat.le_of_ble_eq_true rfl⟩ gX12_auto_X12_auto1 (show ((wM cI cJ cB cZ bd t_5) : va_W)[0]? = some (_, .inr (12, _)) from rfl) rfl rfl hl.1 rfl (Nat.le_of_ble_eq_true rfl) dX12_auto_43 ⟨Nat.le_of_ble_eq_true rfl, Nat.le_of_ble_eq_true rfl⟩ (fun t_9 H locs hR h => ?_)
                refine lv_goto (tgt := 53) hx hb dX12_auto_46 (by decide) ?_
                exact ih.2.2 t_9 li lj H locs ls hR (lv_sub hl [0, 1] rfl) h
            · have hR := hR.2 c_6
              refine lv_aload_n hx hb dX12_auto_30 rfl (lv_at hl 0 rfl) ?_
              refine x_cVVF (n := 0) (As := []) (rest := []) B h (wkX12_auto0 l D cI cJ cB cZ bd k t_5  _ hR) ⟨⟨_, rfl⟩, by decide +kernel, Nat.le_of_ble_eq_true rfl, Nat.le_of_ble_eq_true rfl⟩ gX12_auto_X12_auto0 (show ((wM cI cJ cB cZ bd t_5) : va_W)[0]? = some (_, .inr (12, _)) from rfl) rfl rfl hl.1 rfl (Nat.le_of_ble_eq_true rfl) dX12_auto_31 ⟨Nat.le_of_ble_eq_true rfl, Nat.le_of_ble_eq_true rfl⟩ (fun t_10 H locs hR h => ?_)
              refine lv_goto (tgt := 53) hx hb dX12_auto_34 (by decide) ?_
              exact ih.2.2 t_10 li lj H locs ls hR (lv_sub hl [0, 1] rfl) h
          · have hR := hR.2 c_3
            exact ih.2.1 t li lj H locs ls hR (lv_sub hl [0, 1] rfl) h
      · intro t li lj H locs ls hR hl h
        have hR : wbX12_auto_1 (wpX12_auto k) k t li lj Q := hR
        unfold wbX12_auto_1 at hR
        refine lv_iconst (v := (-1)) hx hb dX12_auto_16 (by decide) ?_
        exact x_iret (w1 := (fun u : XT => (wM cI cJ cB cZ bd u))) t B h hr rfl hR dX12_auto_17
      · intro t li lj H locs ls hR hl h
        have hR : wbX12_auto_2 (wpX12_auto k) k t li lj Q := hR
        unfold wbX12_auto_2 at hR
        refine lv_aload_n hx hb dX12_auto_53 rfl (lv_at hl 0 rfl) ?_
        refine x_cVIF (n := 0) (As := []) (rest := []) B h (wkX12_criticalMany l D cI cJ cB cZ bd k t  _ hR) ⟨⟨_, rfl⟩, by decide +kernel, Nat.le_of_ble_eq_true rfl, Nat.le_of_ble_eq_true rfl⟩ gX12_auto_X12_criticalMany (show ((wM cI cJ cB cZ bd t) : va_W)[0]? = some (_, .inr (12, _)) from rfl) rfl rfl hl.1 rfl (Nat.le_of_ble_eq_true rfl) dX12_auto_54 ⟨Nat.le_of_ble_eq_true rfl, Nat.le_of_ble_eq_true rfl⟩ (fun r_11 t_11 H locs hR h => ?_)
        exact x_iret (w1 := (fun u : XT => (wM cI cJ cB cZ bd u))) t_11 B h hr rfl hR dX12_auto_57
  exact (main k).1 t _ _ s.heap [] ls hR hl h
set_option maxRecDepth 20000 in
theorem ggX12_areEnds_X12_isCritical : GoodIn wsX12_areEnds wsX12_isCritical := goodIn_r _ [5, 6, 7, 8, 9, 4, 10, 11, 12, 13, 14, 15, 16, 17, 18, 19, 32, 33, 34, 35, 36, 37, 38, 39, 40, 41, 42, 43, 44, 45, 46, 47, 48, 49, 50, 51, 52, 53, 54, 55, 56, 57, 58, 59, 60, 61, 62] (by decide +kernel) (by decide +kernel)
set_option maxRecDepth 20000 in
theorem gX12_areEnds_X12_isCritical : GoodIn wsX12_areEnds (wsV RX12 159 RX12 yX12_isCritical wsX12_isCritical) := goodIn_app (goodIn_of _ (by decide +kernel)) ggX12_areEnds_X12_isCritical
set_option maxRecDepth 20000 in
theorem ggX12_areEnds_X12_dimOf : GoodIn wsX12_areEnds wsX12_dimOf := goodIn_r _ [23, 24, 25, 26, 27, 28, 29, 30, 31, 32, 33, 34, 35, 36, 37, 38, 39, 40, 41, 42, 43, 44, 45, 46, 47, 48, 49, 50, 51, 52, 53, 54, 55, 56, 57, 58, 59, 60, 61, 62] (by decide +kernel) (by decide +kernel)
set_option maxRecDepth 20000 in
theorem gX12_areEnds_X12_dimOf : GoodIn wsX12_areEnds (wsV RX12 149 RX12 yX12_dimOf wsX12_dimOf) := goodIn_app (goodIn_of _ (by decide +kernel)) ggX12_areEnds_X12_dimOf
def wbX12_areEnds_0 (rec : Nat → XT → (Nat → Int32) → (Nat → Int64) → (Int32 → XT → Prop) → Prop) (k : Nat) (t : XT) (li : Nat → Int32) (lj : Nat → Int64) (Q : Int32 → XT → Prop) : Prop :=
  (wqX12_isCritical k t (li 1) (fun r_1 t_1 => ((r_1 = 0) → rec 1 t_1 li lj Q) ∧ (¬ (r_1 = 0) → (wqX12_isCritical k t_1 (li 2) (fun r_3 t_3 => ((r_3 = 0) → rec 1 t_3 li lj Q) ∧ (¬ (r_3 = 0) → (wqX12_dimOf k t_3 (li 1) (fun r_5 t_5 => (wqX12_dimOf k t_5 (li 2) (fun r_6 t_6 => (∀ v_7 : Int32, v_7 = (r_6 + 1) → ((¬ r_5 = v_7) → rec 1 t_6 li lj Q) ∧ ((r_5 = v_7) → Q 1 t_6))))))))))))
def wbX12_areEnds_1 (rec : Nat → XT → (Nat → Int32) → (Nat → Int64) → (Int32 → XT → Prop) → Prop) (k : Nat) (t : XT) (li : Nat → Int32) (lj : Nat → Int64) (Q : Int32 → XT → Prop) : Prop :=
  Q 0 t
def wpX12_areEnds : Nat → Nat → XT → (Nat → Int32) → (Nat → Int64) → (Int32 → XT → Prop) → Prop
  | 0, _, _, _, _, _ => False
  | k + 1, 0, t, li, lj, Q => wbX12_areEnds_0 (wpX12_areEnds k) k t li lj Q
  | k + 1, 1, t, li, lj, Q => wbX12_areEnds_1 (wpX12_areEnds k) k t li lj Q
  | _ + 1, _, _, _, _, _ => False
def wqX12_areEnds (k : Nat) (t : XT) (a1 : Int32) (a2 : Int32) (Q : Int32 → XT → Prop) : Prop := wpX12_areEnds k 0 t (uI (uI (fun _ => 0) 1 a1) 2 a2) (fun _ => 0) Q
set_option maxHeartbeats 8000000 in
set_option maxRecDepth 100000 in
theorem wkX12_areEnds (l : Launch) (D : va_G) (cI cJ cB cZ : ClassId) (bd : Nat → Nat) (k : Nat) (t : XT) (a1 : Int32) (a2 : Int32) (Q : Int32 → XT → Prop) (hR : wqX12_areEnds k t a1 a2 Q) : MetI l yX12_areEnds wsX12_areEnds 4 85 0 0 D (TYS cI cJ cB cZ) (wM cI cJ cB cZ bd t) [.ref (bd 0), .int a1, .int a2] (fun r u => Q r u) (fun u : XT => (wM cI cJ cB cZ bd u)) := by
  refine x_startI (ty := .boolean) (cc := cX12_areEnds) (by decide) rfl (Nat.le_of_ble_eq_true rfl) ?_
  intro p e s m args below meth c A ls B hr hnm h hl
  have hx := B.1.1
  have hb := B.1.2.1
  have hml := B.1.2.2.1
  have hts := B.1.2.2.2.2
  have hown : s.vm.findClass RX12 = some m.cls := B.1.2.2.2.1
  have main : ∀ k : Nat, (∀ (t : XT) (li : Nat → Int32) (lj : Nat → Int64) (H : Heap) (locs : List Loc) (ls : Array Slot), wpX12_areEnds k 0 t li lj Q → lv_has ls 3 [(0, .ref (bd 0)), (1, .int (li 1)), (2, .int (li 2))] → Hp D A s.heap (wM cI cJ cB cZ bd t) H locs → W p l e { frames := 4, cells := 0, slots := 0, locals := 85 } s m args below meth c H locs 0 0 (MQ below (va_Qi (fun r u => Q r u) (fun u t => xEnd D ((fun u : XT => (wM cI cJ cB cZ bd u)) u) A t) A) args s 0 0 A) (F0 m 0 ls [])) ∧
      (∀ (t : XT) (li : Nat → Int32) (lj : Nat → Int64) (H : Heap) (locs : List Loc) (ls : Array Slot), wpX12_areEnds k 1 t li lj Q → lv_has ls 3 [(0, .ref (bd 0)), (1, .int (li 1)), (2, .int (li 2))] → Hp D A s.heap (wM cI cJ cB cZ bd t) H locs → W p l e { frames := 4, cells := 0, slots := 0, locals := 85 } s m args below meth c H locs 0 0 (MQ below (va_Qi (fun r u => Q r u) (fun u t => xEnd D ((fun u : XT => (wM cI cJ cB cZ bd u)) u) A t) A) args s 0 0 A) (F0 m 35 ls [])) := by
    intro k
    induction k with
    | zero => exact ⟨fun _ _ _ _ _ _ hR => False.elim hR, fun _ _ _ _ _ _ hR => False.elim hR⟩
    | succ k ih =>
      refine ⟨?_, ?_⟩
      · intro t li lj H locs ls hR hl h
        have hR : wbX12_areEnds_0 (wpX12_areEnds k) k t li lj Q := hR
        unfold wbX12_areEnds_0 at hR
        refine lv_aload_n hx hb dX12_areEnds_0 rfl (lv_at hl 0 rfl) ?_
        refine lv_iload_n hx hb dX12_areEnds_1 rfl (lv_at hl 1 rfl) ?_
        refine x_cVIF (n := 1) (As := [.int (li 1)]) (rest := []) B h (wkX12_isCritical l D cI cJ cB cZ bd k t (li 1) _ hR) ⟨⟨_, rfl⟩, by decide +kernel, Nat.le_of_ble_eq_true rfl, Nat.le_of_ble_eq_true rfl⟩ gX12_areEnds_X12_isCritical (show ((wM cI cJ cB cZ bd t) : va_W)[0]? = some (_, .inr (12, _)) from rfl) rfl rfl hl.1 rfl (Nat.le_of_ble_eq_true rfl) dX12_areEnds_2 ⟨Nat.le_of_ble_eq_true rfl, Nat.le_of_ble_eq_true rfl⟩ (fun r_1 t_1 H locs hR h => ?_)
        refine lv_if_eq (tgt := 35) hx hb dX12_areEnds_5 (by decide) (fun c_2 => ?_) (fun c_2 => ?_)
        · have hR := hR.1 c_2
          exact ih.2 t_1 li lj H locs ls hR (lv_sub hl [0, 1, 2] rfl) h
        · have hR := hR.2 c_2
          refine lv_aload_n hx hb dX12_areEnds_8 rfl (lv_at hl 0 rfl) ?_
          refine lv_iload_n hx hb dX12_areEnds_9 rfl (lv_at hl 2 rfl) ?_
          refine x_cVIF (n := 1) (As := [.int (li 2)]) (rest := []) B h (wkX12_isCritical l D cI cJ cB cZ bd k t_1 (li 2) _ hR) ⟨⟨_, rfl⟩, by decide +kernel, Nat.le_of_ble_eq_true rfl, Nat.le_of_ble_eq_true rfl⟩ gX12_areEnds_X12_isCritical (show ((wM cI cJ cB cZ bd t_1) : va_W)[0]? = some (_, .inr (12, _)) from rfl) rfl rfl hl.1 rfl (Nat.le_of_ble_eq_true rfl) dX12_areEnds_10 ⟨Nat.le_of_ble_eq_true rfl, Nat.le_of_ble_eq_true rfl⟩ (fun r_3 t_3 H locs hR h => ?_)
          refine lv_if_eq (tgt := 35) hx hb dX12_areEnds_13 (by decide) (fun c_4 => ?_) (fun c_4 => ?_)
          · have hR := hR.1 c_4
            exact ih.2 t_3 li lj H locs ls hR (lv_sub hl [0, 1, 2] rfl) h
          · have hR := hR.2 c_4
            refine lv_aload_n hx hb dX12_areEnds_16 rfl (lv_at hl 0 rfl) ?_
            refine lv_iload_n hx hb dX12_areEnds_17 rfl (lv_at hl 1 rfl) ?_
            refine x_cVIF (n := 1) (As := [.int (li 1)]) (rest := []) B h (wkX12_dimOf l D cI cJ cB cZ bd k t_3 (li 1) _ hR) ⟨⟨_, rfl⟩, by decide +kernel, Nat.le_of_ble_eq_true rfl, Nat.le_of_ble_eq_true rfl⟩ gX12_areEnds_X12_dimOf (show ((wM cI cJ cB cZ bd t_3) : va_W)[0]? = some (_, .inr (12, _)) from rfl) rfl rfl hl.1 rfl (Nat.le_of_ble_eq_true rfl) dX12_areEnds_18 ⟨Nat.le_of_ble_eq_true rfl, Nat.le_of_ble_eq_true rfl⟩ (fun r_5 t_5 H locs hR h => ?_)
            refine lv_aload_n hx hb dX12_areEnds_21 rfl (lv_at hl 0 rfl) ?_
            refine lv_iload_n hx hb dX12_areEnds_22 rfl (lv_at hl 2 rfl) ?_
            refine x_cVIF (n := 1) (As := [.int (li 2)]) (rest := [.int r_5]) B h (wkX12_dimOf l D cI cJ cB cZ bd k t_5 (li 2) _ hR) ⟨⟨_, rfl⟩, by decide +kernel, Nat.le_of_ble_eq_true rfl, Nat.le_of_ble_eq_true rfl⟩ gX12_areEnds_X12_dimOf (show ((wM cI cJ cB cZ bd t_5) : va_W)[0]? = some (_, .inr (12, _)) from rfl) rfl rfl hl.1 rfl (Nat.le_of_ble_eq_true rfl) dX12_areEnds_23 ⟨Nat.le_of_ble_eq_true rfl, Nat.le_of_ble_eq_true rfl⟩ (fun r_6 t_6 H locs hR h => ?_)
            refine lv_iconst (v := 1) hx hb dX12_areEnds_26 (by decide) ?_
            refine lv_iadd hx hb dX12_areEnds_27 ?_
            refine lv_topi (fun v_7 ev_7 => ?_)
            have hR := hR v_7 ev_7
            refine lv_icmp_ne (tgt := 35) hx hb dX12_areEnds_28 (by decide) (fun c_8 => ?_) (fun c_8 => ?_)
            · have hR := hR.1 c_8
              exact ih.2 t_6 li lj H locs ls hR (lv_sub hl [0, 1, 2] rfl) h
            · have hR := hR.2 c_8
              refine lv_iconst (v := 1) hx hb dX12_areEnds_31 (by decide) ?_
              refine lv_goto (tgt := 36) hx hb dX12_areEnds_32 (by decide) ?_
              exact x_iret (w1 := (fun u : XT => (wM cI cJ cB cZ bd u))) t_6 B h hr rfl hR dX12_areEnds_36
      · intro t li lj H locs ls hR hl h
        have hR : wbX12_areEnds_1 (wpX12_areEnds k) k t li lj Q := hR
        unfold wbX12_areEnds_1 at hR
        refine lv_iconst (v := 0) hx hb dX12_areEnds_35 (by decide) ?_
        exact x_iret (w1 := (fun u : XT => (wM cI cJ cB cZ bd u))) t B h hr rfl hR dX12_areEnds_36
  exact (main k).1 t _ _ s.heap [] ls hR hl h
set_option maxRecDepth 20000 in
theorem ggX12_laysWay_X12_isFaceThere : GoodIn wsX12_laysWay wsX12_isFaceThere := goodIn_r _ [10, 11, 12, 13, 14, 9, 15, 16, 17, 18, 19, 20, 21, 22, 23, 24, 25, 26, 27, 32, 33, 34, 35, 36, 37, 38, 39, 40, 41, 42, 43, 44, 45, 46, 47, 48, 49, 50, 51, 52, 53, 54, 55, 56, 57, 58, 59, 60, 61, 62] (by decide +kernel) (by decide +kernel)
set_option maxRecDepth 20000 in
theorem gX12_laysWay_X12_isFaceThere : GoodIn wsX12_laysWay (wsV RX12 162 RX12 yX12_isFaceThere wsX12_isFaceThere) := goodIn_app (goodIn_of _ (by decide +kernel)) ggX12_laysWay_X12_isFaceThere
set_option maxRecDepth 20000 in
theorem ggX12_laysWay_X12_signOf : GoodIn wsX12_laysWay wsX12_signOf := goodIn_r _ [31, 16, 21, 22, 23, 24, 25, 26, 27, 32, 33, 34, 35, 36, 37, 38, 39, 40, 41, 42, 43, 44, 45, 46, 47, 48, 49, 50, 51, 52, 53, 54, 55, 56, 57, 58, 59, 60, 61, 62] (by decide +kernel) (by decide +kernel)
set_option maxRecDepth 20000 in
theorem gX12_laysWay_X12_signOf : GoodIn wsX12_laysWay (wsV RX12 166 RX12 yX12_signOf wsX12_signOf) := goodIn_app (goodIn_of _ (by decide +kernel)) ggX12_laysWay_X12_signOf
def wbX12_laysWay_0 (rec : Nat → XT → (Nat → Int32) → (Nat → Int64) → (Int32 → XT → Prop) → Prop) (k : Nat) (t : XT) (li : Nat → Int32) (lj : Nat → Int64) (Q : Int32 → XT → Prop) : Prop :=
  (vp_in (li 1) 60 ∧ (∀ v_1 : Int32, v_1 = (t.2.2.1 4) (li 1).toNatClampNeg → rec 1 t (uI (uI li 2 v_1) 7 0) (uI (uI lj 3 0) 5 0) Q))
def wbX12_laysWay_1 (rec : Nat → XT → (Nat → Int32) → (Nat → Int64) → (Int32 → XT → Prop) → Prop) (k : Nat) (t : XT) (li : Nat → Int32) (lj : Nat → Int64) (Q : Int32 → XT → Prop) : Prop :=
  ((((t.1 3) : Int32) ≤ (li 7)) → (vp_in (li 1) 60 ∧ (∀ t_3 : XT, t_3 = sB t 0 (vp_updL (t.2.2.2 0) (li 1).toNatClampNeg (lj 3)) → (wqX12_signOf k t_3 (li 1) (li 2) (fun r_4 t_4 => (∀ v_5 : Int32, v_5 = (-r_4) → (∀ v_6 : Int64, v_6 = v_5.toInt64 → (∀ v_7 : Int64, v_7 = (v_6 * (lj 5)) → (vp_in (li 1) 60 ∧ (∀ t_8 : XT, t_8 = sB t_4 1 (vp_updL (t_4.2.2.2 1) (li 1).toNatClampNeg v_7) → Q 1 t_8)))))))))) ∧ (¬ (((t.1 3) : Int32) ≤ (li 7)) → (((li 7) = (li 1)) → rec 2 t li lj Q) ∧ (¬ ((li 7) = (li 1)) → (wqX12_isFaceThere k t (li 7) (li 2) (fun r_10 t_10 => ((¬ r_10 = 0) → (vp_in (li 7) 60 ∧ (∀ v_12 : Int64, v_12 = (t_10.2.2.2 0) (li 7).toNatClampNeg → (∀ v_13 : Int32, v_13 = (lg_cmp v_12 (-9223372036854775807)) → ((¬ v_13 = 0) → (vp_in (li 7) 60 ∧ (∀ v_15 : Int64, v_15 = (t_10.2.2.2 0) (li 7).toNatClampNeg → (∀ v_16 : Int64, v_16 = ((lj 3) + v_15) → (wqX12_signOf k t_10 (li 7) (li 2) (fun r_17 t_17 => (∀ v_18 : Int64, v_18 = r_17.toInt64 → (vp_in (li 7) 60 ∧ (∀ v_19 : Int64, v_19 = (t_17.2.2.2 1) (li 7).toNatClampNeg → (∀ v_20 : Int64, v_20 = (v_18 * v_19) → (∀ v_21 : Int64, v_21 = ((lj 5) + v_20) → rec 2 t_17 li (uI (uI lj 3 v_16) 5 v_21) Q))))))))))) ∧ ((v_13 = 0) → Q 0 t_10))))) ∧ ((r_10 = 0) → rec 2 t_10 li lj Q)))))
def wbX12_laysWay_2 (rec : Nat → XT → (Nat → Int32) → (Nat → Int64) → (Int32 → XT → Prop) → Prop) (k : Nat) (t : XT) (li : Nat → Int32) (lj : Nat → Int64) (Q : Int32 → XT → Prop) : Prop :=
  (∀ v_22 : Int32, v_22 = (li 7) + Int32.ofInt 1 → rec 1 t (uI li 7 v_22) lj Q)
def wpX12_laysWay : Nat → Nat → XT → (Nat → Int32) → (Nat → Int64) → (Int32 → XT → Prop) → Prop
  | 0, _, _, _, _, _ => False
  | k + 1, 0, t, li, lj, Q => wbX12_laysWay_0 (wpX12_laysWay k) k t li lj Q
  | k + 1, 1, t, li, lj, Q => wbX12_laysWay_1 (wpX12_laysWay k) k t li lj Q
  | k + 1, 2, t, li, lj, Q => wbX12_laysWay_2 (wpX12_laysWay k) k t li lj Q
  | _ + 1, _, _, _, _, _ => False
def wqX12_laysWay (k : Nat) (t : XT) (a1 : Int32) (Q : Int32 → XT → Prop) : Prop := wpX12_laysWay k 0 t (uI (fun _ => 0) 1 a1) (fun _ => 0) Q
set_option maxHeartbeats 8000000 in
set_option maxRecDepth 100000 in
theorem wkX12_laysWay (l : Launch) (D : va_G) (cI cJ cB cZ : ClassId) (bd : Nat → Nat) (k : Nat) (t : XT) (a1 : Int32) (Q : Int32 → XT → Prop) (hR : wqX12_laysWay k t a1 Q) : MetI l yX12_laysWay wsX12_laysWay 4 85 0 0 D (TYS cI cJ cB cZ) (wM cI cJ cB cZ bd t) [.ref (bd 0), .int a1] (fun r u => Q r u) (fun u : XT => (wM cI cJ cB cZ bd u)) := by
  refine x_startI (ty := .boolean) (cc := cX12_laysWay) (by decide) rfl (Nat.le_of_ble_eq_true rfl) ?_
  intro p e s m args below meth c A ls B hr hnm h hl
  have hx := B.1.1
  have hb := B.1.2.1
  have hml := B.1.2.2.1
  have hts := B.1.2.2.2.2
  have hown : s.vm.findClass RX12 = some m.cls := B.1.2.2.2.1
  have hin12 : ∀ w ∈ u_ws RX12 TX12 31, w ∈ wsX12_laysWay := by decide +kernel
  have main : ∀ k : Nat, (∀ (t : XT) (li : Nat → Int32) (lj : Nat → Int64) (H : Heap) (locs : List Loc) (ls : Array Slot), wpX12_laysWay k 0 t li lj Q → lv_has ls 8 [(0, .ref (bd 0)), (1, .int (li 1))] → Hp D A s.heap (wM cI cJ cB cZ bd t) H locs → W p l e { frames := 4, cells := 0, slots := 0, locals := 85 } s m args below meth c H locs 0 0 (MQ below (va_Qi (fun r u => Q r u) (fun u t => xEnd D ((fun u : XT => (wM cI cJ cB cZ bd u)) u) A t) A) args s 0 0 A) (F0 m 0 ls [])) ∧
      (∀ (t : XT) (li : Nat → Int32) (lj : Nat → Int64) (H : Heap) (locs : List Loc) (ls : Array Slot), wpX12_laysWay k 1 t li lj Q → lv_has ls 8 [(0, .ref (bd 0)), (1, .int (li 1)), (2, .int (li 2)), (3, .long (lj 3)), (5, .long (lj 5)), (7, .int (li 7))] → Hp D A s.heap (wM cI cJ cB cZ bd t) H locs → W p l e { frames := 4, cells := 0, slots := 0, locals := 85 } s m args below meth c H locs 0 0 (MQ below (va_Qi (fun r u => Q r u) (fun u t => xEnd D ((fun u : XT => (wM cI cJ cB cZ bd u)) u) A t) A) args s 0 0 A) (F0 m 15 ls [])) ∧
      (∀ (t : XT) (li : Nat → Int32) (lj : Nat → Int64) (H : Heap) (locs : List Loc) (ls : Array Slot), wpX12_laysWay k 2 t li lj Q → lv_has ls 8 [(0, .ref (bd 0)), (1, .int (li 1)), (2, .int (li 2)), (3, .long (lj 3)), (5, .long (lj 5)), (7, .int (li 7))] → Hp D A s.heap (wM cI cJ cB cZ bd t) H locs → W p l e { frames := 4, cells := 0, slots := 0, locals := 85 } s m args below meth c H locs 0 0 (MQ below (va_Qi (fun r u => Q r u) (fun u t => xEnd D ((fun u : XT => (wM cI cJ cB cZ bd u)) u) A t) A) args s 0 0 A) (F0 m 90 ls [])) := by
    intro k
    induction k with
    | zero => exact ⟨fun _ _ _ _ _ _ hR => False.elim hR, fun _ _ _ _ _ _ hR => False.elim hR, fun _ _ _ _ _ _ hR => False.elim hR⟩
    | succ k ih =>
      refine ⟨?_, ?_, ?_⟩
      · intro t li lj H locs ls hR hl h
        have hR : wbX12_laysWay_0 (wpX12_laysWay k) k t li lj Q := hR
        unfold wbX12_laysWay_0 at hR
        refine lv_aload_n hx hb dX12_laysWay_0 rfl (lv_at hl 0 rfl) ?_
        refine x_get (ci := 12) (C := RX12) (T := TX12) (N := 31) (v := .ref (bd 5)) B h hin12 0 8 rfl rfl (by decide) (by decide +kernel) rfl dX12_laysWay_1 ?_
        refine lv_iload_n hx hb dX12_laysWay_4 rfl (lv_at hl 1 rfl) ?_
        obtain ⟨hb_1, hR⟩ := hR
        refine va_iald (f := (t.2.2.1 4)) hx hb B.2.1 h.1 5 0 rfl rfl hb_1 dX12_laysWay_5 ?_
        refine lv_topi (fun v_1 ev_1 => ?_)
        have hR := hR v_1 ev_1
        refine lv_istore_n (lv' := [(2, .int v_1), (0, .ref (bd 0)), (1, .int (li 1))]) hx hb dX12_laysWay_6 rfl hl (by decide) rfl (fun ls hl => ?_)
        refine lv_lconst (v := 0) hx hb dX12_laysWay_7 (by decide) ?_
        refine lv_lstore_n (lv' := [(3, .long 0), (2, .int v_1), (0, .ref (bd 0)), (1, .int (li 1))]) hx hb dX12_laysWay_8 rfl hl (by decide) rfl (fun ls hl => ?_)
        refine lv_lconst (v := 0) hx hb dX12_laysWay_9 (by decide) ?_
        refine lv_lstore (lv' := [(5, .long 0), (3, .long 0), (2, .int v_1), (0, .ref (bd 0)), (1, .int (li 1))]) hx hb dX12_laysWay_10 hl (by decide) rfl (fun ls hl => ?_)
        refine lv_iconst (v := 0) hx hb dX12_laysWay_12 (by decide) ?_
        refine lv_istore (lv' := [(7, .int 0), (5, .long 0), (3, .long 0), (2, .int v_1), (0, .ref (bd 0)), (1, .int (li 1))]) hx hb dX12_laysWay_13 hl (by decide) rfl (fun ls hl => ?_)
        exact ih.2.1 t (uI (uI li 2 v_1) 7 0) (uI (uI lj 3 0) 5 0) H locs ls hR (lv_sub hl [4, 5, 3, 2, 1, 0] rfl) h
      · intro t li lj H locs ls hR hl h
        have hR : wbX12_laysWay_1 (wpX12_laysWay k) k t li lj Q := hR
        unfold wbX12_laysWay_1 at hR
        refine lv_iload hx hb dX12_laysWay_15 (lv_at hl 5 rfl) ?_
        refine lv_aload_n hx hb dX12_laysWay_17 rfl (lv_at hl 0 rfl) ?_
        refine x_get (ci := 12) (C := RX12) (T := TX12) (N := 31) (v := .int (t.1 3)) B h hin12 0 5 rfl rfl (by decide) (by decide +kernel) rfl dX12_laysWay_18 ?_
        refine lv_icmp_ge (tgt := 96) hx hb dX12_laysWay_21 (by decide) (fun c_2 => ?_) (fun c_2 => ?_)
        · have hR := hR.1 c_2
          refine lv_aload_n hx hb dX12_laysWay_96 rfl (lv_at hl 0 rfl) ?_
          refine x_get (ci := 12) (C := RX12) (T := TX12) (N := 31) (v := .ref (bd 11)) B h hin12 0 15 rfl rfl (by decide) (by decide +kernel) rfl dX12_laysWay_97 ?_
          refine lv_iload_n hx hb dX12_laysWay_100 rfl (lv_at hl 1 rfl) ?_
          refine lv_lload_n hx hb dX12_laysWay_101 rfl (lv_at hl 3 rfl) ?_
          obtain ⟨hb_3, hR⟩ := hR
          refine z_last (f := (t.2.2.2 0)) B h 11 1 rfl rfl hb_3 dX12_laysWay_102 (fun H locs h => ?_)
          obtain ⟨t_3, et_3⟩ : ∃ v : XT, v = sB t 0 (vp_updL (t.2.2.2 0) (li 1).toNatClampNeg (lj 3)) := ⟨_, rfl⟩
          have hR := hR t_3 et_3
          have h : Hp D A s.heap (wM cI cJ cB cZ bd t_3) H locs := by rw [et_3]; exact h
          refine lv_aload_n hx hb dX12_laysWay_103 rfl (lv_at hl 0 rfl) ?_
          refine x_get (ci := 12) (C := RX12) (T := TX12) (N := 31) (v := .ref (bd 12)) B h hin12 0 16 rfl rfl (by decide) (by decide +kernel) rfl dX12_laysWay_104 ?_
          refine lv_iload_n hx hb dX12_laysWay_107 rfl (lv_at hl 1 rfl) ?_
          refine lv_aload_n hx hb dX12_laysWay_108 rfl (lv_at hl 0 rfl) ?_
          refine lv_iload_n hx hb dX12_laysWay_109 rfl (lv_at hl 1 rfl) ?_
          refine lv_iload_n hx hb dX12_laysWay_110 rfl (lv_at hl 2 rfl) ?_
          refine x_cVIF (n := 2) (As := [.int (li 1), .int (li 2)]) (rest := [.int (li 1), .ref (bd 12)]) B h (wkX12_signOf l D cI cJ cB cZ bd k t_3 (li 1) (li 2) _ hR) ⟨⟨_, rfl⟩, by decide +kernel, Nat.le_of_ble_eq_true rfl, Nat.le_of_ble_eq_true rfl⟩ gX12_laysWay_X12_signOf (show ((wM cI cJ cB cZ bd t_3) : va_W)[0]? = some (_, .inr (12, _)) from rfl) rfl rfl hl.1 rfl (Nat.le_of_ble_eq_true rfl) dX12_laysWay_111 ⟨Nat.le_of_ble_eq_true rfl, Nat.le_of_ble_eq_true rfl⟩ (fun r_4 t_4 H locs hR h => ?_)
          refine lv_ineg hx hb dX12_laysWay_114 ?_
          refine lv_topi (fun v_5 ev_5 => ?_)
          have hR := hR v_5 ev_5
          obtain ⟨v_6, ev_6⟩ : ∃ v : Int64, v = v_5.toInt64 := ⟨_, rfl⟩
          have hR := hR v_6 ev_6
          refine lv_i2l (v := v_6) hx hb dX12_laysWay_115 ev_6.symm ?_
          refine lv_lload hx hb dX12_laysWay_116 (lv_at hl 4 rfl) ?_
          refine lv_lmul hx hb dX12_laysWay_118 ?_
          refine lv_topl (fun v_7 ev_7 => ?_)
          have hR := hR v_7 ev_7
          obtain ⟨hb_8, hR⟩ := hR
          refine z_last (f := (t_4.2.2.2 1)) B h 12 1 rfl rfl hb_8 dX12_laysWay_119 (fun H locs h => ?_)
          obtain ⟨t_8, et_8⟩ : ∃ v : XT, v = sB t_4 1 (vp_updL (t_4.2.2.2 1) (li 1).toNatClampNeg v_7) := ⟨_, rfl⟩
          have hR := hR t_8 et_8
          have h : Hp D A s.heap (wM cI cJ cB cZ bd t_8) H locs := by rw [et_8]; exact h
          refine lv_iconst (v := 1) hx hb dX12_laysWay_120 (by decide) ?_
          exact x_iret (w1 := (fun u : XT => (wM cI cJ cB cZ bd u))) t_8 B h hr rfl hR dX12_laysWay_121
        · have hR := hR.2 c_2
          refine lv_iload hx hb dX12_laysWay_24 (lv_at hl 5 rfl) ?_
          refine lv_iload_n hx hb dX12_laysWay_26 rfl (lv_at hl 1 rfl) ?_
          refine lv_icmp_eq (tgt := 90) hx hb dX12_laysWay_27 (by decide) (fun c_9 => ?_) (fun c_9 => ?_)
          · have hR := hR.1 c_9
            exact ih.2.2 t li lj H locs ls hR (lv_sub hl [0, 1, 2, 3, 4, 5] rfl) h
          · have hR := hR.2 c_9
            refine lv_aload_n hx hb dX12_laysWay_30 rfl (lv_at hl 0 rfl) ?_
            refine lv_iload hx hb dX12_laysWay_31 (lv_at hl 5 rfl) ?_
            refine lv_iload_n hx hb dX12_laysWay_33 rfl (lv_at hl 2 rfl) ?_
            refine x_cVIF (n := 2) (As := [.int (li 7), .int (li 2)]) (rest := []) B h (wkX12_isFaceThere l D cI cJ cB cZ bd k t (li 7) (li 2) _ hR) ⟨⟨_, rfl⟩, by decide +kernel, Nat.le_of_ble_eq_true rfl, Nat.le_of_ble_eq_true rfl⟩ gX12_laysWay_X12_isFaceThere (show ((wM cI cJ cB cZ bd t) : va_W)[0]? = some (_, .inr (12, _)) from rfl) rfl rfl hl.1 rfl (Nat.le_of_ble_eq_true rfl) dX12_laysWay_34 ⟨Nat.le_of_ble_eq_true rfl, Nat.le_of_ble_eq_true rfl⟩ (fun r_10 t_10 H locs hR h => ?_)
            refine lv_if_ne (tgt := 43) hx hb dX12_laysWay_37 (by decide) (fun c_11 => ?_) (fun c_11 => ?_)
            · have hR := hR.1 c_11
              refine lv_aload_n hx hb dX12_laysWay_43 rfl (lv_at hl 0 rfl) ?_
              refine x_get (ci := 12) (C := RX12) (T := TX12) (N := 31) (v := .ref (bd 11)) B h hin12 0 15 rfl rfl (by decide) (by decide +kernel) rfl dX12_laysWay_44 ?_
              refine lv_iload hx hb dX12_laysWay_47 (lv_at hl 5 rfl) ?_
              obtain ⟨hb_12, hR⟩ := hR
              refine va_lald (f := (t_10.2.2.2 0)) hx hb B.2.1 h.1 11 1 rfl rfl hb_12 dX12_laysWay_49 ?_
              refine lv_topl (fun v_12 ev_12 => ?_)
              have hR := hR v_12 ev_12
              refine lv_ldc2 (v := (-9223372036854775807)) hx hb hown (hts (.constantLong RX12 221 (-9223372036854775807)) (by decide +kernel)) dX12_laysWay_50 ?_
              refine W.lcmp hx hb dX12_laysWay_53 ?_
              refine lv_topi (fun v_13 ev_13 => ?_)
              have hR := hR v_13 ev_13
              refine lv_if_ne (tgt := 59) hx hb dX12_laysWay_54 (by decide) (fun c_14 => ?_) (fun c_14 => ?_)
              · have hR := hR.1 c_14
                refine lv_lload_n hx hb dX12_laysWay_59 rfl (lv_at hl 3 rfl) ?_
                refine lv_aload_n hx hb dX12_laysWay_60 rfl (lv_at hl 0 rfl) ?_
                refine x_get (ci := 12) (C := RX12) (T := TX12) (N := 31) (v := .ref (bd 11)) B h hin12 0 15 rfl rfl (by decide) (by decide +kernel) rfl dX12_laysWay_61 ?_
                refine lv_iload hx hb dX12_laysWay_64 (lv_at hl 5 rfl) ?_
                obtain ⟨hb_15, hR⟩ := hR
                refine va_lald (f := (t_10.2.2.2 0)) hx hb B.2.1 h.1 11 1 rfl rfl hb_15 dX12_laysWay_66 ?_
                refine lv_topl (fun v_15 ev_15 => ?_)
                have hR := hR v_15 ev_15
                refine lv_ladd hx hb dX12_laysWay_67 ?_
                refine lv_topl (fun v_16 ev_16 => ?_)
                have hR := hR v_16 ev_16
                refine lv_lstore_n (lv' := [(3, .long v_16), (0, .ref (bd 0)), (1, .int (li 1)), (2, .int (li 2)), (5, .long (lj 5)), (7, .int (li 7))]) hx hb dX12_laysWay_68 rfl hl (by decide) rfl (fun ls hl => ?_)
                refine lv_lload hx hb dX12_laysWay_69 (lv_at hl 4 rfl) ?_
                refine lv_aload_n hx hb dX12_laysWay_71 rfl (lv_at hl 1 rfl) ?_
                refine lv_iload hx hb dX12_laysWay_72 (lv_at hl 5 rfl) ?_
                refine lv_iload_n hx hb dX12_laysWay_74 rfl (lv_at hl 3 rfl) ?_
                refine x_cVIF (n := 2) (As := [.int (li 7), .int (li 2)]) (rest := [.long (lj 5)]) B h (wkX12_signOf l D cI cJ cB cZ bd k t_10 (li 7) (li 2) _ hR) ⟨⟨_, rfl⟩, by decide +kernel, Nat.le_of_ble_eq_true rfl, Nat.le_of_ble_eq_true rfl⟩ gX12_laysWay_X12_signOf (show ((wM cI cJ cB cZ bd t_10) : va_W)[0]? = some (_, .inr (12, _)) from rfl) rfl rfl hl.1 rfl (Nat.le_of_ble_eq_true rfl) dX12_laysWay_75 ⟨Nat.le_of_ble_eq_true rfl, Nat.le_of_ble_eq_true rfl⟩ (fun r_17 t_17 H locs hR h => ?_)
                obtain ⟨v_18, ev_18⟩ : ∃ v : Int64, v = r_17.toInt64 := ⟨_, rfl⟩
                have hR := hR v_18 ev_18
                refine lv_i2l (v := v_18) hx hb dX12_laysWay_78 ev_18.symm ?_
                refine lv_aload_n hx hb dX12_laysWay_79 rfl (lv_at hl 1 rfl) ?_
                refine x_get (ci := 12) (C := RX12) (T := TX12) (N := 31) (v := .ref (bd 12)) B h hin12 0 16 rfl rfl (by decide) (by decide +kernel) rfl dX12_laysWay_80 ?_
                refine lv_iload hx hb dX12_laysWay_83 (lv_at hl 5 rfl) ?_
                obtain ⟨hb_19, hR⟩ := hR
                refine va_lald (f := (t_17.2.2.2 1)) hx hb B.2.1 h.1 12 1 rfl rfl hb_19 dX12_laysWay_85 ?_
                refine lv_topl (fun v_19 ev_19 => ?_)
                have hR := hR v_19 ev_19
                refine lv_lmul hx hb dX12_laysWay_86 ?_
                refine lv_topl (fun v_20 ev_20 => ?_)
                have hR := hR v_20 ev_20
                refine lv_ladd hx hb dX12_laysWay_87 ?_
                refine lv_topl (fun v_21 ev_21 => ?_)
                have hR := hR v_21 ev_21
                refine lv_lstore (lv' := [(5, .long v_21), (3, .long v_16), (0, .ref (bd 0)), (1, .int (li 1)), (2, .int (li 2)), (7, .int (li 7))]) hx hb dX12_laysWay_88 hl (by decide) rfl (fun ls hl => ?_)
                exact ih.2.2 t_17 li (uI (uI lj 3 v_16) 5 v_21) H locs ls hR (lv_sub hl [2, 3, 4, 1, 0, 5] rfl) h
              · have hR := hR.2 c_14
                refine lv_iconst (v := 0) hx hb dX12_laysWay_57 (by decide) ?_
                exact x_iret (w1 := (fun u : XT => (wM cI cJ cB cZ bd u))) t_10 B h hr rfl hR dX12_laysWay_58
            · have hR := hR.2 c_11
              refine lv_goto (tgt := 90) hx hb dX12_laysWay_40 (by decide) ?_
              exact ih.2.2 t_10 li lj H locs ls hR (lv_sub hl [0, 1, 2, 3, 4, 5] rfl) h
      · intro t li lj H locs ls hR hl h
        have hR : wbX12_laysWay_2 (wpX12_laysWay k) k t li lj Q := hR
        unfold wbX12_laysWay_2 at hR
        obtain ⟨v_22, ev_22⟩ : ∃ v : Int32, v = (li 7) + Int32.ofInt 1 := ⟨_, rfl⟩
        have hR := hR v_22 ev_22
        refine lv_iinc (v := v_22) (lv' := [(7, .int v_22), (0, .ref (bd 0)), (1, .int (li 1)), (2, .int (li 2)), (3, .long (lj 3)), (5, .long (lj 5))]) hx hb dX12_laysWay_90 hl (k := 5) rfl ev_22.symm (by decide) rfl (fun ls hl => ?_)
        refine lv_goto (tgt := 15) hx hb dX12_laysWay_93 (by decide) ?_
        exact ih.2.1 t (uI li 7 v_22) lj H locs ls hR (lv_sub hl [1, 2, 3, 4, 5, 0] rfl) h
  exact (main k).1 t _ _ s.heap [] ls hR hl h
