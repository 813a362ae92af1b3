set_option maxRecDepth 20000 in
theorem ggX12_readsFacet_X12_blanks : GoodIn wsX12_readsFacet wsX12_blanks := goodIn_r _ [6, 1, 7, 8, 9, 5, 10, 11, 12, 48, 49, 50, 51, 52, 53, 54, 55, 56, 57, 58, 59, 60, 61, 62, 63, 64, 65, 66, 67, 68, 69, 70, 71, 72, 73, 74, 75, 76, 77, 78] (by decide +kernel) (by decide +kernel)
set_option maxRecDepth 20000 in
theorem gX12_readsFacet_X12_blanks : GoodIn wsX12_readsFacet (wsV RX12 109 RX12 yX12_blanks wsX12_blanks) := goodIn_app (goodIn_of _ (by decide +kernel)) ggX12_readsFacet_X12_blanks
set_option maxRecDepth 20000 in
theorem ggX12_readsFacet_X12_isLetter : GoodIn wsX12_readsFacet wsX12_isLetter := goodIn_r _ [16, 7, 8, 9, 5, 10, 1, 11, 12, 17, 18, 19, 48, 49, 50, 51, 52, 53, 54, 55, 56, 57, 58, 59, 60, 61, 62, 63, 64, 65, 66, 67, 68, 69, 70, 71, 72, 73, 74, 75, 76, 77, 78] (by decide +kernel) (by decide +kernel)
set_option maxRecDepth 20000 in
theorem gX12_readsFacet_X12_isLetter : GoodIn wsX12_readsFacet (wsV RX12 112 RX12 yX12_isLetter wsX12_isLetter) := goodIn_app (goodIn_of _ (by decide +kernel)) ggX12_readsFacet_X12_isLetter
set_option maxRecDepth 20000 in
theorem ggX12_readsFacet_X12_fails : GoodIn wsX12_readsFacet wsX12_fails := goodIn_r _ [23, 24, 48, 49, 50, 51, 52, 53, 54, 55, 56, 57, 58, 59, 60, 61, 62, 63, 64, 65, 66, 67, 68, 69, 70, 71, 72, 73, 74, 75, 76, 77, 78] (by decide +kernel) (by decide +kernel)
set_option maxRecDepth 20000 in
theorem gX12_readsFacet_X12_fails : GoodIn wsX12_readsFacet (wsV RX12 116 RX12 yX12_fails wsX12_fails) := goodIn_app (goodIn_of _ (by decide +kernel)) ggX12_readsFacet_X12_fails
set_option maxRecDepth 20000 in
theorem ggX12_readsFacet_X12_isRight : GoodIn wsX12_readsFacet wsX12_isRight := goodIn_r _ [28, 24, 48, 49, 50, 51, 52, 53, 54, 55, 56, 57, 58, 59, 60, 61, 62, 63, 64, 65, 66, 67, 68, 69, 70, 71, 72, 73, 74, 75, 76, 77, 78] (by decide +kernel) (by decide +kernel)
set_option maxRecDepth 20000 in
theorem gX12_readsFacet_X12_isRight : GoodIn wsX12_readsFacet (wsV RX12 120 RX12 yX12_isRight wsX12_isRight) := goodIn_app (goodIn_of _ (by decide +kernel)) ggX12_readsFacet_X12_isRight
set_option maxRecDepth 20000 in
theorem ggX12_readsFacet_X12_byteNow : GoodIn wsX12_readsFacet wsX12_byteNow := goodIn_r _ [10, 1, 11, 12, 48, 49, 50, 51, 52, 53, 54, 55, 56, 57, 58, 59, 60, 61, 62, 63, 64, 65, 66, 67, 68, 69, 70, 71, 72, 73, 74, 75, 76, 77, 78] (by decide +kernel) (by decide +kernel)
set_option maxRecDepth 20000 in
theorem gX12_readsFacet_X12_byteNow : GoodIn wsX12_readsFacet (wsV RX12 94 RX12 yX12_byteNow wsX12_byteNow) := goodIn_app (goodIn_of _ (by decide +kernel)) ggX12_readsFacet_X12_byteNow
set_option maxRecDepth 20000 in
theorem ggX12_readsFacet_J6_bitCount_0f7a4 : GoodIn wsX12_readsFacet wsJ6_bitCount_0f7a4 := goodIn_r _ [32, 33, 34, 35] (by decide +kernel) (by decide +kernel)
set_option maxRecDepth 20000 in
theorem gX12_readsFacet_J6_bitCount_0f7a4 : GoodIn wsX12_readsFacet (va_wsS RX12 123 yJ6_bitCount_0f7a4 wsJ6_bitCount_0f7a4) := goodIn_app (goodIn_of _ (by decide +kernel)) ggX12_readsFacet_J6_bitCount_0f7a4
set_option maxRecDepth 20000 in
theorem ggX12_readsFacet_X12_takesSets : GoodIn wsX12_readsFacet wsX12_takesSets := goodIn_r _ [39, 40, 48, 49, 50, 51, 52, 53, 54, 55, 56, 57, 58, 59, 60, 61, 62, 63, 64, 65, 66, 67, 68, 69, 70, 71, 72, 73, 74, 75, 76, 77, 78] (by decide +kernel) (by decide +kernel)
set_option maxRecDepth 20000 in
theorem gX12_readsFacet_X12_takesSets : GoodIn wsX12_readsFacet (wsV RX12 127 RX12 yX12_takesSets wsX12_takesSets) := goodIn_app (goodIn_of _ (by decide +kernel)) ggX12_readsFacet_X12_takesSets
set_option maxRecDepth 20000 in
theorem ggX12_readsFacet_X12_toldMany : GoodIn wsX12_readsFacet wsX12_toldMany := goodIn_r _ [44, 40, 45, 46, 5, 47, 48, 49, 50, 51, 52, 53, 54, 55, 56, 57, 58, 59, 60, 61, 62, 63, 64, 65, 66, 67, 68, 69, 70, 71, 72, 73, 74, 75, 76, 77, 78] (by decide +kernel) (by decide +kernel)
set_option maxRecDepth 20000 in
theorem gX12_readsFacet_X12_toldMany : GoodIn wsX12_readsFacet (wsV RX12 130 RX12 yX12_toldMany wsX12_toldMany) := goodIn_app (goodIn_of _ (by decide +kernel)) ggX12_readsFacet_X12_toldMany
def wbX12_readsFacet_0 (rec : Nat → XT → (Nat → Int32) → (Nat → Int64) → (XT → Prop) → Prop) (k : Nat) (t : XT) (li : Nat → Int32) (lj : Nat → Int64) (Q : XT → Prop) : Prop :=
  (wqX12_blanks k t  (fun t_1 => (wqX12_isLetter k t_1  (fun r_2 t_2 => ((¬ r_2 = 0) → rec 1 t_2 (uI (uI li 2 (t_1.1 1)) 3 0) lj Q) ∧ ((r_2 = 0) → (wqX12_fails k t_2 1 (t_2.1 1) (fun t_4 => rec 1 t_4 (uI (uI li 2 (t_1.1 1)) 3 0) lj Q)))))))
def wbX12_readsFacet_1 (rec : Nat → XT → (Nat → Int32) → (Nat → Int64) → (XT → Prop) → Prop) (k : Nat) (t : XT) (li : Nat → Int32) (lj : Nat → Int64) (Q : XT → Prop) : Prop :=
  ((¬ (li 1) = 24) → rec 2 t li lj Q) ∧ (((li 1) = 24) → (wqX12_fails k t 4 (t.1 1) (fun t_6 => rec 2 t_6 li lj Q)))
def wbX12_readsFacet_2 (rec : Nat → XT → (Nat → Int32) → (Nat → Int64) → (XT → Prop) → Prop) (k : Nat) (t : XT) (li : Nat → Int32) (lj : Nat → Int64) (Q : XT → Prop) : Prop :=
  (wqX12_isRight k t  (fun r_7 t_7 => ((r_7 = 0) → rec 5 t_7 li lj Q) ∧ (¬ (r_7 = 0) → (wqX12_isLetter k t_7  (fun r_9 t_9 => ((r_9 = 0) → rec 5 t_9 li lj Q) ∧ (¬ (r_9 = 0) → (wqX12_byteNow k t_9  (fun r_11 t_11 => (∀ v_12 : Int32, v_12 = (r_11 - 97) → (∀ v_13 : Int32, v_13 = (1 <<< (v_12 &&& 31)) → (∀ v_14 : Int32, v_14 = ((li 3) &&& v_13) → ((v_14 = 0) → rec 3 t_11 (uI li 4 v_13) lj Q) ∧ (¬ (v_14 = 0) → (wqX12_fails k t_11 2 (t_11.1 1) (fun t_16 => rec 3 t_16 (uI li 4 v_13) lj Q))))))))))))))
def wbX12_readsFacet_3 (rec : Nat → XT → (Nat → Int32) → (Nat → Int64) → (XT → Prop) → Prop) (k : Nat) (t : XT) (li : Nat → Int32) (lj : Nat → Int64) (Q : XT → Prop) : Prop :=
  (wqJ6_bitCount_0f7a4 k (li 3) (fun r_17 => ((¬ r_17 = 5) → rec 4 t li lj Q) ∧ ((r_17 = 5) → (wqX12_fails k t 3 (t.1 1) (fun t_19 => rec 4 t_19 li lj Q)))))
def wbX12_readsFacet_4 (rec : Nat → XT → (Nat → Int32) → (Nat → Int64) → (XT → Prop) → Prop) (k : Nat) (t : XT) (li : Nat → Int32) (lj : Nat → Int64) (Q : XT → Prop) : Prop :=
  (∀ v_20 : Int32, v_20 = ((li 3) ||| (li 4)) → (∀ v_21 : Int32, v_21 = ((t.1 1) + 1) → (∀ t_22 : XT, t_22 = sI t 1 v_21 → rec 2 t_22 (uI li 3 v_20) lj Q)))
def wbX12_readsFacet_5 (rec : Nat → XT → (Nat → Int32) → (Nat → Int64) → (XT → Prop) → Prop) (k : Nat) (t : XT) (li : Nat → Int32) (lj : Nat → Int64) (Q : XT → Prop) : Prop :=
  (wqX12_isRight k t  (fun r_23 t_23 => ((r_23 = 0) → rec 6 t_23 li lj Q) ∧ (¬ (r_23 = 0) → (wqX12_takesSets k t_23 (li 3) (fun t_25 => (wqX12_toldMany k t_25  (fun r_26 t_26 => ((r_26 ≤ 60) → rec 6 t_26 li lj Q) ∧ (¬ (r_26 ≤ 60) → (wqX12_fails k t_26 5 (li 2) (fun t_28 => rec 6 t_28 li lj Q))))))))))
def wbX12_readsFacet_6 (rec : Nat → XT → (Nat → Int32) → (Nat → Int64) → (XT → Prop) → Prop) (k : Nat) (t : XT) (li : Nat → Int32) (lj : Nat → Int64) (Q : XT → Prop) : Prop :=
  (wqX12_blanks k t  (fun t_29 => Q t_29))
def wpX12_readsFacet : Nat → Nat → XT → (Nat → Int32) → (Nat → Int64) → (XT → Prop) → Prop
  | 0, _, _, _, _, _ => False
  | k + 1, 0, t, li, lj, Q => wbX12_readsFacet_0 (wpX12_readsFacet k) k t li lj Q
  | k + 1, 1, t, li, lj, Q => wbX12_readsFacet_1 (wpX12_readsFacet k) k t li lj Q
  | k + 1, 2, t, li, lj, Q => wbX12_readsFacet_2 (wpX12_readsFacet k) k t li lj Q
  | k + 1, 3, t, li, lj, Q => wbX12_readsFacet_3 (wpX12_readsFacet k) k t li lj Q
  | k + 1, 4, t, li, lj, Q => wbX12_readsFacet_4 (wpX12_readsFacet k) k t li lj Q
  | k + 1, 5, t, li, lj, Q => wbX12_readsFacet_5 (wpX12_readsFacet k) k t li lj Q
  | k + 1, 6, t, li, lj, Q => wbX12_readsFacet_6 (wpX12_readsFacet k) k t li lj Q
  | _ + 1, _, _, _, _, _ => False
def wqX12_readsFacet (k : Nat) (t : XT) (a1 : Int32) (Q : XT → Prop) : Prop := wpX12_readsFacet k 0 t (uI (fun _ => 0) 1 a1) (fun _ => 0) Q
set_option maxHeartbeats 8000000 in
set_option maxRecDepth 100000 in
theorem wkX12_readsFacet (l : Launch) (D : va_G) (cI cJ cB cZ : ClassId) (bd : Nat → Nat) (k : Nat) (t : XT) (a1 : Int32) (Q : XT → Prop) (hR : wqX12_readsFacet k t a1 Q) : MetV l yX12_readsFacet wsX12_readsFacet 2 42 0 0 D (TYS cI cJ cB cZ) (wM cI cJ cB cZ bd t) [.ref (bd 0), .int a1] (fun u => Q u) (fun u : XT => (wM cI cJ cB cZ bd u)) := by
  refine x_startV (ty := .int) (cc := cX12_readsFacet) (by decide) rfl (Nat.le_of_ble_eq_true rfl) ?_
  intro p e s m args below meth c A ls B hr hnm h hl
  have hx := B.1.1
  have hb := B.1.2.1
  have hml := B.1.2.2.1
  have hts := B.1.2.2.2.2
  have hown : s.vm.findClass RX12 = some m.cls := B.1.2.2.2.1
  have hin12 : ∀ w ∈ u_ws RX12 TX12 31, w ∈ wsX12_readsFacet := by decide +kernel
  have main : ∀ k : Nat, (∀ (t : XT) (li : Nat → Int32) (lj : Nat → Int64) (H : Heap) (locs : List Loc) (ls : Array Slot), wpX12_readsFacet k 0 t li lj Q → lv_has ls 5 [(0, .ref (bd 0)), (1, .int (li 1))] → Hp D A s.heap (wM cI cJ cB cZ bd t) H locs → W p l e { frames := 2, cells := 0, slots := 0, locals := 42 } s m args below meth c H locs 0 0 (MQ below (va_Qv (fun u => Q u) (fun u t => xEnd D ((fun u : XT => (wM cI cJ cB cZ bd u)) u) A t) A) args s 0 0 A) (F0 m 0 ls [])) ∧
      (∀ (t : XT) (li : Nat → Int32) (lj : Nat → Int64) (H : Heap) (locs : List Loc) (ls : Array Slot), wpX12_readsFacet k 1 t li lj Q → lv_has ls 5 [(0, .ref (bd 0)), (1, .int (li 1)), (2, .int (li 2)), (3, .int (li 3))] → Hp D A s.heap (wM cI cJ cB cZ bd t) H locs → W p l e { frames := 2, cells := 0, slots := 0, locals := 42 } s m args below meth c H locs 0 0 (MQ below (va_Qv (fun u => Q u) (fun u t => xEnd D ((fun u : XT => (wM cI cJ cB cZ bd u)) u) A t) A) args s 0 0 A) (F0 m 27 ls [])) ∧
      (∀ (t : XT) (li : Nat → Int32) (lj : Nat → Int64) (H : Heap) (locs : List Loc) (ls : Array Slot), wpX12_readsFacet k 2 t li lj Q → lv_has ls 5 [(0, .ref (bd 0)), (1, .int (li 1)), (2, .int (li 2)), (3, .int (li 3))] → Hp D A s.heap (wM cI cJ cB cZ bd t) H locs → W p l e { frames := 2, cells := 0, slots := 0, locals := 42 } s m args below meth c H locs 0 0 (MQ below (va_Qv (fun u => Q u) (fun u t => xEnd D ((fun u : XT => (wM cI cJ cB cZ bd u)) u) A t) A) args s 0 0 A) (F0 m 42 ls [])) ∧
      (∀ (t : XT) (li : Nat → Int32) (lj : Nat → Int64) (H : Heap) (locs : List Loc) (ls : Array Slot), wpX12_readsFacet k 3 t li lj Q → lv_has ls 5 [(0, .ref (bd 0)), (1, .int (li 1)), (2, .int (li 2)), (3, .int (li 3)), (4, .int (li 4))] → Hp D A s.heap (wM cI cJ cB cZ bd t) H locs → W p l e { frames := 2, cells := 0, slots := 0, locals := 42 } s m args below meth c H locs 0 0 (MQ below (va_Qv (fun u => Q u) (fun u t => xEnd D ((fun u : XT => (wM cI cJ cB cZ bd u)) u) A t) A) args s 0 0 A) (F0 m 83 ls [])) ∧
      (∀ (t : XT) (li : Nat → Int32) (lj : Nat → Int64) (H : Heap) (locs : List Loc) (ls : Array Slot), wpX12_readsFacet k 4 t li lj Q → lv_has ls 5 [(0, .ref (bd 0)), (1, .int (li 1)), (2, .int (li 2)), (3, .int (li 3)), (4, .int (li 4))] → Hp D A s.heap (wM cI cJ cB cZ bd t) H locs → W p l e { frames := 2, cells := 0, slots := 0, locals := 42 } s m args below meth c H locs 0 0 (MQ below (va_Qv (fun u => Q u) (fun u t => xEnd D ((fun u : XT => (wM cI cJ cB cZ bd u)) u) A t) A) args s 0 0 A) (F0 m 100 ls [])) ∧
      (∀ (t : XT) (li : Nat → Int32) (lj : Nat → Int64) (H : Heap) (locs : List Loc) (ls : Array Slot), wpX12_readsFacet k 5 t li lj Q → lv_has ls 5 [(0, .ref (bd 0)), (1, .int (li 1)), (2, .int (li 2)), (3, .int (li 3))] → Hp D A s.heap (wM cI cJ cB cZ bd t) H locs → W p l e { frames := 2, cells := 0, slots := 0, locals := 42 } s m args below meth c H locs 0 0 (MQ below (va_Qv (fun u => Q u) (fun u t => xEnd D ((fun u : XT => (wM cI cJ cB cZ bd u)) u) A t) A) args s 0 0 A) (F0 m 118 ls [])) ∧
      (∀ (t : XT) (li : Nat → Int32) (lj : Nat → Int64) (H : Heap) (locs : List Loc) (ls : Array Slot), wpX12_readsFacet k 6 t li lj Q → lv_has ls 5 [(0, .ref (bd 0)), (1, .int (li 1)), (2, .int (li 2)), (3, .int (li 3))] → Hp D A s.heap (wM cI cJ cB cZ bd t) H locs → W p l e { frames := 2, cells := 0, slots := 0, locals := 42 } s m args below meth c H locs 0 0 (MQ below (va_Qv (fun u => Q u) (fun u t => xEnd D ((fun u : XT => (wM cI cJ cB cZ bd u)) u) A t) A) args s 0 0 A) (F0 m 145 ls [])) := by
    intro k
    induction k with
    | zero => exact ⟨fun _ _ _ _ _ _ hR => False.elim hR, fun _ _ _ _ _ _ hR => False.elim hR, fun _ _ _ _ _ _ hR => False.elim hR, fun _ _ _ _ _ _ hR => False.elim hR, fun _ _ _ _ _ _ hR => False.elim hR, fun _ _ _ _ _ _ hR => False.elim hR, fun _ _ _ _ _ _ hR => False.elim hR⟩
    | succ k ih =>
      refine ⟨?_, ?_, ?_, ?_, ?_, ?_, ?_⟩
      · intro t li lj H locs ls hR hl h
        have hR : wbX12_readsFacet_0 (wpX12_readsFacet k) k t li lj Q := hR
        unfold wbX12_readsFacet_0 at hR
        refine lv_aload_n hx hb dX12_readsFacet_0 rfl (lv_at hl 0 rfl) ?_
        refine x_cVVF (n := 0) (As := []) (rest := []) B h (wkX12_blanks l D cI cJ cB cZ bd k t  _ hR) ⟨⟨_, rfl⟩, by decide +kernel, Nat.le_of_ble_eq_true rfl, Nat.le_of_ble_eq_true rfl⟩ gX12_readsFacet_X12_blanks (show ((wM cI cJ cB cZ bd t) : va_W)[0]? = some (_, .inr (12, _)) from rfl) rfl rfl hl.1 rfl (Nat.le_of_ble_eq_true rfl) dX12_readsFacet_1 ⟨Nat.le_of_ble_eq_true rfl, Nat.le_of_ble_eq_true rfl⟩ (fun t_1 H locs hR h => ?_)
        refine lv_aload_n hx hb dX12_readsFacet_4 rfl (lv_at hl 0 rfl) ?_
        refine x_get (ci := 12) (C := RX12) (T := TX12) (N := 31) (v := .int (t_1.1 1)) B h hin12 0 2 rfl rfl (by decide) (by decide +kernel) rfl dX12_readsFacet_5 ?_
        refine lv_istore_n (lv' := [(2, .int (t_1.1 1)), (0, .ref (bd 0)), (1, .int (li 1))]) hx hb dX12_readsFacet_8 rfl hl (by decide) rfl (fun ls hl => ?_)
        refine lv_iconst (v := 0) hx hb dX12_readsFacet_9 (by decide) ?_
        refine lv_istore_n (lv' := [(3, .int 0), (2, .int (t_1.1 1)), (0, .ref (bd 0)), (1, .int (li 1))]) hx hb dX12_readsFacet_10 rfl hl (by decide) rfl (fun ls hl => ?_)
        refine lv_aload_n hx hb dX12_readsFacet_11 rfl (lv_at hl 2 rfl) ?_
        refine x_cVIF (n := 0) (As := []) (rest := []) B h (wkX12_isLetter l D cI cJ cB cZ bd k t_1  _ hR) ⟨⟨_, rfl⟩, by decide +kernel, Nat.le_of_ble_eq_true rfl, Nat.le_of_ble_eq_true rfl⟩ gX12_readsFacet_X12_isLetter (show ((wM cI cJ cB cZ bd t_1) : va_W)[0]? = some (_, .inr (12, _)) from rfl) rfl rfl hl.1 rfl (Nat.le_of_ble_eq_true rfl) dX12_readsFacet_12 ⟨Nat.le_of_ble_eq_true rfl, Nat.le_of_ble_eq_true rfl⟩ (fun r_2 t_2 H locs hR h => ?_)
        refine lv_if_ne (tgt := 27) hx hb dX12_readsFacet_15 (by decide) (fun c_3 => ?_) (fun c_3 => ?_)
        · have hR := hR.1 c_3
          exact ih.2.1 t_2 (uI (uI li 2 (t_1.1 1)) 3 0) lj H locs ls hR (lv_sub hl [2, 3, 1, 0] rfl) h
        · have hR := hR.2 c_3
          refine lv_aload_n hx hb dX12_readsFacet_18 rfl (lv_at hl 2 rfl) ?_
          refine lv_iconst (v := 1) hx hb dX12_readsFacet_19 (by decide) ?_
          refine lv_aload_n hx hb dX12_readsFacet_20 rfl (lv_at hl 2 rfl) ?_
          refine x_get (ci := 12) (C := RX12) (T := TX12) (N := 31) (v := .int (t_2.1 1)) B h hin12 0 2 rfl rfl (by decide) (by decide +kernel) rfl dX12_readsFacet_21 ?_
          refine x_cVVF (n := 2) (As := [.int 1, .int (t_2.1 1)]) (rest := []) B h (wkX12_fails l D cI cJ cB cZ bd k t_2 1 (t_2.1 1) _ hR) ⟨⟨_, rfl⟩, by decide +kernel, Nat.le_of_ble_eq_true rfl, Nat.le_of_ble_eq_true rfl⟩ gX12_readsFacet_X12_fails (show ((wM cI cJ cB cZ bd t_2) : va_W)[0]? = some (_, .inr (12, _)) from rfl) rfl rfl hl.1 rfl (Nat.le_of_ble_eq_true rfl) dX12_readsFacet_24 ⟨Nat.le_of_ble_eq_true rfl, Nat.le_of_ble_eq_true rfl⟩ (fun t_4 H locs hR h => ?_)
          exact ih.2.1 t_4 (uI (uI li 2 (t_1.1 1)) 3 0) lj H locs ls hR (lv_sub hl [2, 3, 1, 0] rfl) h
      · intro t li lj H locs ls hR hl h
        have hR : wbX12_readsFacet_1 (wpX12_readsFacet k) k t li lj Q := hR
        unfold wbX12_readsFacet_1 at hR
        refine lv_iload_n hx hb dX12_readsFacet_27 rfl (lv_at hl 1 rfl) ?_
        refine lv_bipush (v := 24) hx hb dX12_readsFacet_28 (by decide) ?_
        refine lv_icmp_ne (tgt := 42) hx hb dX12_readsFacet_30 (by decide) (fun c_5 => ?_) (fun c_5 => ?_)
        · have hR := hR.1 c_5
          exact ih.2.2.1 t li lj H locs ls hR (lv_sub hl [0, 1, 2, 3] rfl) h
        · have hR := hR.2 c_5
          refine lv_aload_n hx hb dX12_readsFacet_33 rfl (lv_at hl 0 rfl) ?_
          refine lv_iconst (v := 4) hx hb dX12_readsFacet_34 (by decide) ?_
          refine lv_aload_n hx hb dX12_readsFacet_35 rfl (lv_at hl 0 rfl) ?_
          refine x_get (ci := 12) (C := RX12) (T := TX12) (N := 31) (v := .int (t.1 1)) B h hin12 0 2 rfl rfl (by decide) (by decide +kernel) rfl dX12_readsFacet_36 ?_
          refine x_cVVF (n := 2) (As := [.int 4, .int (t.1 1)]) (rest := []) B h (wkX12_fails l D cI cJ cB cZ bd k t 4 (t.1 1) _ hR) ⟨⟨_, rfl⟩, by decide +kernel, Nat.le_of_ble_eq_true rfl, Nat.le_of_ble_eq_true rfl⟩ gX12_readsFacet_X12_fails (show ((wM cI cJ cB cZ bd t) : va_W)[0]? = some (_, .inr (12, _)) from rfl) rfl rfl hl.1 rfl (Nat.le_of_ble_eq_true rfl) dX12_readsFacet_39 ⟨Nat.le_of_ble_eq_true rfl, Nat.le_of_ble_eq_true rfl⟩ (fun t_6 H locs hR h => ?_)
          exact ih.2.2.1 t_6 li lj H locs ls hR (lv_sub hl [0, 1, 2, 3] rfl) h
      · intro t li lj H locs ls hR hl h
        have hR : wbX12_readsFacet_2 (wpX12_readsFacet k) k t li lj Q := hR
        unfold wbX12_readsFacet_2 at hR
        refine lv_aload_n hx hb dX12_readsFacet_42 rfl (lv_at hl 0 rfl) ?_
        refine x_cVIF (n := 0) (As := []) (rest := []) B h (wkX12_isRight l D cI cJ cB cZ bd k t  _ hR) ⟨⟨_, rfl⟩, by decide +kernel, Nat.le_of_ble_eq_true rfl, Nat.le_of_ble_eq_true rfl⟩ gX12_readsFacet_X12_isRight (show ((wM cI cJ cB cZ bd t) : va_W)[0]? = some (_, .inr (12, _)) from rfl) rfl rfl hl.1 rfl (Nat.le_of_ble_eq_true rfl) dX12_readsFacet_43 ⟨Nat.le_of_ble_eq_true rfl, Nat.le_of_ble_eq_true rfl⟩ (fun r_7 t_7 H locs hR h => ?_)
        refine lv_if_eq (tgt := 118) hx hb dX12_readsFacet_46 (by decide) (fun c_8 => ?_) (fun c_8 => ?_)
        · have hR := hR.1 c_8
          exact ih.2.2.2.2.2.1 t_7 li lj H locs ls hR (lv_sub hl [0, 1, 2, 3] rfl) h
        · have hR := hR.2 c_8
          refine lv_aload_n hx hb dX12_readsFacet_49 rfl (lv_at hl 0 rfl) ?_
          refine x_cVIF (n := 0) (As := []) (rest := []) B h (wkX12_isLetter l D cI cJ cB cZ bd k t_7  _ hR) ⟨⟨_, rfl⟩, by decide +kernel, Nat.le_of_ble_eq_true rfl, Nat.le_of_ble_eq_true rfl⟩ gX12_readsFacet_X12_isLetter (show ((wM cI cJ cB cZ bd t_7) : va_W)[0]? = some (_, .inr (12, _)) from rfl) rfl rfl hl.1 rfl (Nat.le_of_ble_eq_true rfl) dX12_readsFacet_50 ⟨Nat.le_of_ble_eq_true rfl, Nat.le_of_ble_eq_true rfl⟩ (fun r_9 t_9 H locs hR h => ?_)
          refine lv_if_eq (tgt := 118) hx hb dX12_readsFacet_53 (by decide) (fun c_10 => ?_) (fun c_10 => ?_)
          · have hR := hR.1 c_10
            exact ih.2.2.2.2.2.1 t_9 li lj H locs ls hR (lv_sub hl [0, 1, 2, 3] rfl) h
          · have hR := hR.2 c_10
            refine lv_iconst (v := 1) hx hb dX12_readsFacet_56 (by decide) ?_
            refine lv_aload_n hx hb dX12_readsFacet_57 rfl (lv_at hl 0 rfl) ?_
            refine x_cVIF (n := 0) (As := []) (rest := [.int 1]) B h (wkX12_byteNow l D cI cJ cB cZ bd k t_9  _ hR) ⟨⟨_, rfl⟩, by decide +kernel, Nat.le_of_ble_eq_true rfl, Nat.le_of_ble_eq_true rfl⟩ gX12_readsFacet_X12_byteNow (show ((wM cI cJ cB cZ bd t_9) : va_W)[0]? = some (_, .inr (12, _)) from rfl) rfl rfl hl.1 rfl (Nat.le_of_ble_eq_true rfl) dX12_readsFacet_58 ⟨Nat.le_of_ble_eq_true rfl, Nat.le_of_ble_eq_true rfl⟩ (fun r_11 t_11 H locs hR h => ?_)
            refine lv_bipush (v := 97) hx hb dX12_readsFacet_61 (by decide) ?_
            refine lv_isub hx hb dX12_readsFacet_63 ?_
            refine lv_topi (fun v_12 ev_12 => ?_)
            have hR := hR v_12 ev_12
            refine lv_ishl hx hb dX12_readsFacet_64 ?_
            refine lv_topi (fun v_13 ev_13 => ?_)
            have hR := hR v_13 ev_13
            refine lv_istore (lv' := [(4, .int v_13), (0, .ref (bd 0)), (1, .int (li 1)), (2, .int (li 2)), (3, .int (li 3))]) hx hb dX12_readsFacet_65 hl (by decide) rfl (fun ls hl => ?_)
            refine lv_iload_n hx hb dX12_readsFacet_67 rfl (lv_at hl 4 rfl) ?_
            refine lv_iload hx hb dX12_readsFacet_68 (lv_at hl 0 rfl) ?_
            refine lv_iand hx hb dX12_readsFacet_70 ?_
            refine lv_topi (fun v_14 ev_14 => ?_)
            have hR := hR v_14 ev_14
            refine lv_if_eq (tgt := 83) hx hb dX12_readsFacet_71 (by decide) (fun c_15 => ?_) (fun c_15 => ?_)
            · have hR := hR.1 c_15
              exact ih.2.2.2.1 t_11 (uI li 4 v_13) lj H locs ls hR (lv_sub hl [1, 2, 3, 4, 0] rfl) h
            · have hR := hR.2 c_15
              refine lv_aload_n hx hb dX12_readsFacet_74 rfl (lv_at hl 1 rfl) ?_
              refine lv_iconst (v := 2) hx hb dX12_readsFacet_75 (by decide) ?_
              refine lv_aload_n hx hb dX12_readsFacet_76 rfl (lv_at hl 1 rfl) ?_
              refine x_get (ci := 12) (C := RX12) (T := TX12) (N := 31) (v := .int (t_11.1 1)) B h hin12 0 2 rfl rfl (by decide) (by decide +kernel) rfl dX12_readsFacet_77 ?_
              refine x_cVVF (n := 2) (As := [.int 2, .int (t_11.1 1)]) (rest := []) B h (wkX12_fails l D cI cJ cB cZ bd k t_11 2 (t_11.1 1) _ hR) ⟨⟨_, rfl⟩, by decide +kernel, Nat.le_of_ble_eq_true rfl, Nat.le_of_ble_eq_true rfl⟩ gX12_readsFacet_X12_fails (show ((wM cI cJ cB cZ bd t_11) : va_W)[0]? = some (_, .inr (12, _)) from rfl) rfl rfl hl.1 rfl (Nat.le_of_ble_eq_true rfl) dX12_readsFacet_80 ⟨Nat.le_of_ble_eq_true rfl, Nat.le_of_ble_eq_true rfl⟩ (fun t_16 H locs hR h => ?_)
              exact ih.2.2.2.1 t_16 (uI li 4 v_13) lj H locs ls hR (lv_sub hl [1, 2, 3, 4, 0] rfl) h
      · intro t li lj H locs ls hR hl h
        have hR : wbX12_readsFacet_3 (wpX12_readsFacet k) k t li lj Q := hR
        unfold wbX12_readsFacet_3 at hR
        refine lv_iload_n hx hb dX12_readsFacet_83 rfl (lv_at hl 3 rfl) ?_
        refine x_cSIE (n := 1) (As := [.int (li 3)]) (rest := []) B h (wkJ6_bitCount_0f7a4 l D cI cJ cB cZ bd k (li 3) _ hR) ⟨⟨_, rfl⟩, by decide +kernel, Nat.le_of_ble_eq_true rfl, Nat.le_of_ble_eq_true rfl⟩ gX12_readsFacet_J6_bitCount_0f7a4 rfl hl.1 rfl (Nat.le_of_ble_eq_true rfl) dX12_readsFacet_84 ⟨Nat.le_of_ble_eq_true rfl, Nat.le_of_ble_eq_true rfl⟩ (fun r_17 _ H locs hR h => ?_)
        refine lv_iconst (v := 5) hx hb dX12_readsFacet_87 (by decide) ?_
        refine lv_icmp_ne (tgt := 100) hx hb dX12_readsFacet_88 (by decide) (fun c_18 => ?_) (fun c_18 => ?_)
        · have hR := hR.1 c_18
          exact ih.2.2.2.2.1 t li lj H locs ls hR (lv_sub hl [0, 1, 2, 3, 4] rfl) h
        · have hR := hR.2 c_18
          refine lv_aload_n hx hb dX12_readsFacet_91 rfl (lv_at hl 0 rfl) ?_
          refine lv_iconst (v := 3) hx hb dX12_readsFacet_92 (by decide) ?_
          refine lv_aload_n hx hb dX12_readsFacet_93 rfl (lv_at hl 0 rfl) ?_
          refine x_get (ci := 12) (C := RX12) (T := TX12) (N := 31) (v := .int (t.1 1)) B h hin12 0 2 rfl rfl (by decide) (by decide +kernel) rfl dX12_readsFacet_94 ?_
          refine x_cVVF (n := 2) (As := [.int 3, .int (t.1 1)]) (rest := []) B h (wkX12_fails l D cI cJ cB cZ bd k t 3 (t.1 1) _ hR) ⟨⟨_, rfl⟩, by decide +kernel, Nat.le_of_ble_eq_true rfl, Nat.le_of_ble_eq_true rfl⟩ gX12_readsFacet_X12_fails (show ((wM cI cJ cB cZ bd t) : va_W)[0]? = some (_, .inr (12, _)) from rfl) rfl rfl hl.1 rfl (Nat.le_of_ble_eq_true rfl) dX12_readsFacet_97 ⟨Nat.le_of_ble_eq_true rfl, Nat.le_of_ble_eq_true rfl⟩ (fun t_19 H locs hR h => ?_)
          exact ih.2.2.2.2.1 t_19 li lj H locs ls hR (lv_sub hl [0, 1, 2, 3, 4] rfl) h
      · intro t li lj H locs ls hR hl h
        have hR : wbX12_readsFacet_4 (wpX12_readsFacet k) k t li lj Q := hR
        unfold wbX12_readsFacet_4 at hR
        refine lv_iload_n hx hb dX12_readsFacet_100 rfl (lv_at hl 3 rfl) ?_
        refine lv_iload hx hb dX12_readsFacet_101 (lv_at hl 4 rfl) ?_
        refine lv_ior hx hb dX12_readsFacet_103 ?_
        refine lv_topi (fun v_20 ev_20 => ?_)
        have hR := hR v_20 ev_20
        refine lv_istore_n (lv' := [(3, .int v_20), (0, .ref (bd 0)), (1, .int (li 1)), (2, .int (li 2)), (4, .int (li 4))]) hx hb dX12_readsFacet_104 rfl hl (by decide) rfl (fun ls hl => ?_)
        refine lv_aload_n hx hb dX12_readsFacet_105 rfl (lv_at hl 1 rfl) ?_
        refine lv_dup hx hb dX12_readsFacet_106 rfl ?_
        refine x_get (ci := 12) (C := RX12) (T := TX12) (N := 31) (v := .int (t.1 1)) B h hin12 0 2 rfl rfl (by decide) (by decide +kernel) rfl dX12_readsFacet_107 ?_
        refine lv_iconst (v := 1) hx hb dX12_readsFacet_110 (by decide) ?_
        refine lv_iadd hx hb dX12_readsFacet_111 ?_
        refine lv_topi (fun v_21 ev_21 => ?_)
        have hR := hR v_21 ev_21
        refine x_put (ci := 12) (C := RX12) (T := TX12) (N := 31) (v := .int v_21) (ty := .int) B h hin12 tyX12 tyX12_ok nmX12 0 2 rfl rfl (by decide) (by decide +kernel) rfl rfl rfl rfl (Nat.le_of_ble_eq_true rfl) dX12_readsFacet_112 (fun H locs h => ?_)
        obtain ⟨t_22, et_22⟩ : ∃ v : XT, v = sI t 1 v_21 := ⟨_, rfl⟩
        have hR := hR t_22 et_22
        have h : Hp D A s.heap (wM cI cJ cB cZ bd t_22) H locs := by rw [et_22]; exact h
        refine lv_goto (tgt := 42) hx hb dX12_readsFacet_115 (by decide) ?_
        exact ih.2.2.1 t_22 (uI li 3 v_20) lj H locs ls hR (lv_sub hl [1, 2, 3, 0] rfl) h
      · intro t li lj H locs ls hR hl h
        have hR : wbX12_readsFacet_5 (wpX12_readsFacet k) k t li lj Q := hR
        unfold wbX12_readsFacet_5 at hR
        refine lv_aload_n hx hb dX12_readsFacet_118 rfl (lv_at hl 0 rfl) ?_
        refine x_cVIF (n := 0) (As := []) (rest := []) B h (wkX12_isRight l D cI cJ cB cZ bd k t  _ hR) ⟨⟨_, rfl⟩, by decide +kernel, Nat.le_of_ble_eq_true rfl, Nat.le_of_ble_eq_true rfl⟩ gX12_readsFacet_X12_isRight (show ((wM cI cJ cB cZ bd t) : va_W)[0]? = some (_, .inr (12, _)) from rfl) rfl rfl hl.1 rfl (Nat.le_of_ble_eq_true rfl) dX12_readsFacet_119 ⟨Nat.le_of_ble_eq_true rfl, Nat.le_of_ble_eq_true rfl⟩ (fun r_23 t_23 H locs hR h => ?_)
        refine lv_if_eq (tgt := 145) hx hb dX12_readsFacet_122 (by decide) (fun c_24 => ?_) (fun c_24 => ?_)
        · have hR := hR.1 c_24
          exact ih.2.2.2.2.2.2 t_23 li lj H locs ls hR (lv_sub hl [0, 1, 2, 3] rfl) h
        · have hR := hR.2 c_24
          refine lv_aload_n hx hb dX12_readsFacet_125 rfl (lv_at hl 0 rfl) ?_
          refine lv_iload_n hx hb dX12_readsFacet_126 rfl (lv_at hl 3 rfl) ?_
          refine x_cVVF (n := 1) (As := [.int (li 3)]) (rest := []) B h (wkX12_takesSets l D cI cJ cB cZ bd k t_23 (li 3) _ hR) ⟨⟨_, rfl⟩, by decide +kernel, Nat.le_of_ble_eq_true rfl, Nat.le_of_ble_eq_true rfl⟩ gX12_readsFacet_X12_takesSets (show ((wM cI cJ cB cZ bd t_23) : va_W)[0]? = some (_, .inr (12, _)) from rfl) rfl rfl hl.1 rfl (Nat.le_of_ble_eq_true rfl) dX12_readsFacet_127 ⟨Nat.le_of_ble_eq_true rfl, Nat.le_of_ble_eq_true rfl⟩ (fun t_25 H locs hR h => ?_)
          refine lv_aload_n hx hb dX12_readsFacet_130 rfl (lv_at hl 0 rfl) ?_
          refine x_cVIF (n := 0) (As := []) (rest := []) B h (wkX12_toldMany l D cI cJ cB cZ bd k t_25  _ hR) ⟨⟨_, rfl⟩, by decide +kernel, Nat.le_of_ble_eq_true rfl, Nat.le_of_ble_eq_true rfl⟩ gX12_readsFacet_X12_toldMany (show ((wM cI cJ cB cZ bd t_25) : va_W)[0]? = some (_, .inr (12, _)) from rfl) rfl rfl hl.1 rfl (Nat.le_of_ble_eq_true rfl) dX12_readsFacet_131 ⟨Nat.le_of_ble_eq_true rfl, Nat.le_of_ble_eq_true rfl⟩ (fun r_26 t_26 H locs hR h => ?_)
          refine lv_bipush (v := 60) hx hb dX12_readsFacet_134 (by decide) ?_
          refine lv_icmp_le (tgt := 145) hx hb dX12_readsFacet_136 (by decide) (fun c_27 => ?_) (fun c_27 => ?_)
          · have hR := hR.1 c_27
            exact ih.2.2.2.2.2.2 t_26 li lj H locs ls hR (lv_sub hl [0, 1, 2, 3] rfl) h
          · have hR := hR.2 c_27
            refine lv_aload_n hx hb dX12_readsFacet_139 rfl (lv_at hl 0 rfl) ?_
            refine lv_iconst (v := 5) hx hb dX12_readsFacet_140 (by decide) ?_
            refine lv_iload_n hx hb dX12_readsFacet_141 rfl (lv_at hl 2 rfl) ?_
            refine x_cVVF (n := 2) (As := [.int 5, .int (li 2)]) (rest := []) B h (wkX12_fails l D cI cJ cB cZ bd k t_26 5 (li 2) _ hR) ⟨⟨_, rfl⟩, by decide +kernel, Nat.le_of_ble_eq_true rfl, Nat.le_of_ble_eq_true rfl⟩ gX12_readsFacet_X12_fails (show ((wM cI cJ cB cZ bd t_26) : va_W)[0]? = some (_, .inr (12, _)) from rfl) rfl rfl hl.1 rfl (Nat.le_of_ble_eq_true rfl) dX12_readsFacet_142 ⟨Nat.le_of_ble_eq_true rfl, Nat.le_of_ble_eq_true rfl⟩ (fun t_28 H locs hR h => ?_)
            exact ih.2.2.2.2.2.2 t_28 li lj H locs ls hR (lv_sub hl [0, 1, 2, 3] rfl) h
      · intro t li lj H locs ls hR hl h
        have hR : wbX12_readsFacet_6 (wpX12_readsFacet k) k t li lj Q := hR
        unfold wbX12_readsFacet_6 at hR
        refine lv_aload_n hx hb dX12_readsFacet_145 rfl (lv_at hl 0 rfl) ?_
        refine x_cVVF (n := 0) (As := []) (rest := []) B h (wkX12_blanks l D cI cJ cB cZ bd k t  _ hR) ⟨⟨_, rfl⟩, by decide +kernel, Nat.le_of_ble_eq_true rfl, Nat.le_of_ble_eq_true rfl⟩ gX12_readsFacet_X12_blanks (show ((wM cI cJ cB cZ bd t) : va_W)[0]? = some (_, .inr (12, _)) from rfl) rfl rfl hl.1 rfl (Nat.le_of_ble_eq_true rfl) dX12_readsFacet_146 ⟨Nat.le_of_ble_eq_true rfl, Nat.le_of_ble_eq_true rfl⟩ (fun t_29 H locs hR h => ?_)
        exact x_vret (w1 := (fun u : XT => (wM cI cJ cB cZ bd u))) t_29 B h hr hR dX12_readsFacet_149
  exact (main k).1 t _ _ s.heap [] ls hR hl h
set_option maxRecDepth 20000 in
theorem ggX12_numbers_J6_bitCount_0f7a4 : GoodIn wsX12_numbers wsJ6_bitCount_0f7a4 := goodIn_r _ [12, 13, 14, 15] (by decide +kernel) (by decide +kernel)
set_option maxRecDepth 20000 in
theorem gX12_numbers_J6_bitCount_0f7a4 : GoodIn wsX12_numbers (va_wsS RX12 123 yJ6_bitCount_0f7a4 wsJ6_bitCount_0f7a4) := goodIn_app (goodIn_of _ (by decide +kernel)) ggX12_numbers_J6_bitCount_0f7a4
def wbX12_numbers_0 (rec : Nat → XT → (Nat → Int32) → (Nat → Int64) → (XT → Prop) → Prop) (k : Nat) (t : XT) (li : Nat → Int32) (lj : Nat → Int64) (Q : XT → Prop) : Prop :=
  (∀ t_1 : XT, t_1 = sI t 3 0 → rec 1 t_1 (uI li 1 1) lj Q)
def wbX12_numbers_1 (rec : Nat → XT → (Nat → Int32) → (Nat → Int64) → (XT → Prop) → Prop) (k : Nat) (t : XT) (li : Nat → Int32) (lj : Nat → Int64) (Q : XT → Prop) : Prop :=
  (((5 : Int32) < (li 1)) → rec 4 t (uI li 1 0) lj Q) ∧ (¬ ((5 : Int32) < (li 1)) → rec 2 t (uI li 2 1) lj Q)
def wbX12_numbers_2 (rec : Nat → XT → (Nat → Int32) → (Nat → Int64) → (XT → Prop) → Prop) (k : Nat) (t : XT) (li : Nat → Int32) (lj : Nat → Int64) (Q : XT → Prop) : Prop :=
  (((256 : Int32) ≤ (li 2)) → (∀ v_4 : Int32, v_4 = (li 1) + Int32.ofInt 1 → rec 1 t (uI li 1 v_4) lj Q)) ∧ (¬ ((256 : Int32) ≤ (li 2)) → (vp_in (li 2) 256 ∧ (∀ v_5 : Int32, v_5 = (t.2.2.1 1) (li 2).toNatClampNeg → ((v_5 = 0) → rec 3 t li lj Q) ∧ (¬ (v_5 = 0) → (wqJ6_bitCount_0f7a4 k (li 2) (fun r_7 => ((¬ r_7 = (li 1)) → rec 3 t li lj Q) ∧ ((r_7 = (li 1)) → (vp_in (t.1 3) 60 ∧ (∀ t_9 : XT, t_9 = sA t 2 (upd (t.2.2.1 2) (t.1 3).toNatClampNeg (li 2)) → (∀ v_10 : Int32, v_10 = ((t_9.1 3) + 1) → (∀ t_11 : XT, t_11 = sI t_9 3 v_10 → rec 3 t_11 li lj Q)))))))))))
def wbX12_numbers_3 (rec : Nat → XT → (Nat → Int32) → (Nat → Int64) → (XT → Prop) → Prop) (k : Nat) (t : XT) (li : Nat → Int32) (lj : Nat → Int64) (Q : XT → Prop) : Prop :=
  (∀ v_12 : Int32, v_12 = (li 2) + Int32.ofInt 1 → rec 2 t (uI li 2 v_12) lj Q)
def wbX12_numbers_4 (rec : Nat → XT → (Nat → Int32) → (Nat → Int64) → (XT → Prop) → Prop) (k : Nat) (t : XT) (li : Nat → Int32) (lj : Nat → Int64) (Q : XT → Prop) : Prop :=
  (((256 : Int32) ≤ (li 1)) → rec 5 t (uI li 1 0) lj Q) ∧ (¬ ((256 : Int32) ≤ (li 1)) → (vp_in (li 1) 256 ∧ (∀ t_14 : XT, t_14 = sA t 3 (upd (t.2.2.1 3) (li 1).toNatClampNeg (-1)) → (∀ v_15 : Int32, v_15 = (li 1) + Int32.ofInt 1 → rec 4 t_14 (uI li 1 v_15) lj Q))))
def wbX12_numbers_5 (rec : Nat → XT → (Nat → Int32) → (Nat → Int64) → (XT → Prop) → Prop) (k : Nat) (t : XT) (li : Nat → Int32) (lj : Nat → Int64) (Q : XT → Prop) : Prop :=
  ((((t.1 3) : Int32) ≤ (li 1)) → rec 6 t (uI li 1 0) lj Q) ∧ (¬ (((t.1 3) : Int32) ≤ (li 1)) → (vp_in (li 1) 60 ∧ (∀ v_17 : Int32, v_17 = (t.2.2.1 2) (li 1).toNatClampNeg → (vp_in v_17 256 ∧ (∀ t_18 : XT, t_18 = sA t 3 (upd (t.2.2.1 3) v_17.toNatClampNeg (li 1)) → (vp_in (li 1) 60 ∧ (∀ t_19 : XT, t_19 = sA t_18 4 (upd (t_18.2.2.1 4) (li 1).toNatClampNeg (-1)) → (vp_in (li 1) 60 ∧ (∀ t_20 : XT, t_20 = sA t_19 5 (upd (t_19.2.2.1 5) (li 1).toNatClampNeg (vp_nar .boolean 0)) → (∀ v_21 : Int32, v_21 = (li 1) + Int32.ofInt 1 → rec 5 t_20 (uI li 1 v_21) lj Q))))))))))
def wbX12_numbers_6 (rec : Nat → XT → (Nat → Int32) → (Nat → Int64) → (XT → Prop) → Prop) (k : Nat) (t : XT) (li : Nat → Int32) (lj : Nat → Int64) (Q : XT → Prop) : Prop :=
  (((3 : Int32) ≤ (li 1)) → (∀ t_23 : XT, t_23 = sI t 4 0 → Q t_23)) ∧ (¬ ((3 : Int32) ≤ (li 1)) → (vp_in (li 1) 3 ∧ (∀ t_24 : XT, t_24 = sA t 14 (upd (t.2.2.1 14) (li 1).toNatClampNeg (vp_nar .boolean 0)) → (∀ v_25 : Int32, v_25 = (li 1) + Int32.ofInt 1 → rec 6 t_24 (uI li 1 v_25) lj Q))))
def wpX12_numbers : Nat → Nat → XT → (Nat → Int32) → (Nat → Int64) → (XT → Prop) → Prop
  | 0, _, _, _, _, _ => False
  | k + 1, 0, t, li, lj, Q => wbX12_numbers_0 (wpX12_numbers k) k t li lj Q
  | k + 1, 1, t, li, lj, Q => wbX12_numbers_1 (wpX12_numbers k) k t li lj Q
  | k + 1, 2, t, li, lj, Q => wbX12_numbers_2 (wpX12_numbers k) k t li lj Q
  | k + 1, 3, t, li, lj, Q => wbX12_numbers_3 (wpX12_numbers k) k t li lj Q
  | k + 1, 4, t, li, lj, Q => wbX12_numbers_4 (wpX12_numbers k) k t li lj Q
  | k + 1, 5, t, li, lj, Q => wbX12_numbers_5 (wpX12_numbers k) k t li lj Q
  | k + 1, 6, t, li, lj, Q => wbX12_numbers_6 (wpX12_numbers k) k t li lj Q
  | _ + 1, _, _, _, _, _ => False
def wqX12_numbers (k : Nat) (t : XT)  (Q : XT → Prop) : Prop := wpX12_numbers k 0 t (fun _ => 0) (fun _ => 0) Q
set_option maxHeartbeats 8000000 in
set_option maxRecDepth 100000 in
theorem wkX12_numbers (l : Launch) (D : va_G) (cI cJ cB cZ : ClassId) (bd : Nat → Nat) (k : Nat) (t : XT)  (Q : XT → Prop) (hR : wqX12_numbers k t  Q) : MetV l yX12_numbers wsX12_numbers 1 20 0 0 D (TYS cI cJ cB cZ) (wM cI cJ cB cZ bd t) [.ref (bd 0)] (fun u => Q u) (fun u : XT => (wM cI cJ cB cZ bd u)) := by
  refine x_startV (ty := .int) (cc := cX12_numbers) (by decide) rfl (Nat.le_of_ble_eq_true rfl) ?_
  intro p e s m args below meth c A ls B hr hnm h hl
  have hx := B.1.1
  have hb := B.1.2.1
  have hml := B.1.2.2.1
  have hts := B.1.2.2.2.2
  have hown : s.vm.findClass RX12 = some m.cls := B.1.2.2.2.1
  have hin12 : ∀ w ∈ u_ws RX12 TX12 31, w ∈ wsX12_numbers := by decide +kernel
  have main : ∀ k : Nat, (∀ (t : XT) (li : Nat → Int32) (lj : Nat → Int64) (H : Heap) (locs : List Loc) (ls : Array Slot), wpX12_numbers k 0 t li lj Q → lv_has ls 3 [(0, .ref (bd 0))] → Hp D A s.heap (wM cI cJ cB cZ bd t) H locs → W p l e { frames := 1, cells := 0, slots := 0, locals := 20 } s m args below meth c H locs 0 0 (MQ below (va_Qv (fun u => Q u) (fun u t => xEnd D ((fun u : XT => (wM cI cJ cB cZ bd u)) u) A t) A) args s 0 0 A) (F0 m 0 ls [])) ∧
      (∀ (t : XT) (li : Nat → Int32) (lj : Nat → Int64) (H : Heap) (locs : List Loc) (ls : Array Slot), wpX12_numbers k 1 t li lj Q → lv_has ls 3 [(0, .ref (bd 0)), (1, .int (li 1))] → Hp D A s.heap (wM cI cJ cB cZ bd t) H locs → W p l e { frames := 1, cells := 0, slots := 0, locals := 20 } s m args below meth c H locs 0 0 (MQ below (va_Qv (fun u => Q u) (fun u t => xEnd D ((fun u : XT => (wM cI cJ cB cZ bd u)) u) A t) A) args s 0 0 A) (F0 m 7 ls [])) ∧
      (∀ (t : XT) (li : Nat → Int32) (lj : Nat → Int64) (H : Heap) (locs : List Loc) (ls : Array Slot), wpX12_numbers k 2 t li lj Q → lv_has ls 3 [(0, .ref (bd 0)), (1, .int (li 1)), (2, .int (li 2))] → Hp D A s.heap (wM cI cJ cB cZ bd t) H locs → W p l e { frames := 1, cells := 0, slots := 0, locals := 20 } s m args below meth c H locs 0 0 (MQ below (va_Qv (fun u => Q u) (fun u t => xEnd D ((fun u : XT => (wM cI cJ cB cZ bd u)) u) A t) A) args s 0 0 A) (F0 m 14 ls [])) ∧
      (∀ (t : XT) (li : Nat → Int32) (lj : Nat → Int64) (H : Heap) (locs : List Loc) (ls : Array Slot), wpX12_numbers k 3 t li lj Q → lv_has ls 3 [(0, .ref (bd 0)), (1, .int (li 1)), (2, .int (li 2))] → Hp D A s.heap (wM cI cJ cB cZ bd t) H locs → W p l e { frames := 1, cells := 0, slots := 0, locals := 20 } s m args below meth c H locs 0 0 (MQ below (va_Qv (fun u => Q u) (fun u t => xEnd D ((fun u : XT => (wM cI cJ cB cZ bd u)) u) A t) A) args s 0 0 A) (F0 m 58 ls [])) ∧
      (∀ (t : XT) (li : Nat → Int32) (lj : Nat → Int64) (H : Heap) (locs : List Loc) (ls : Array Slot), wpX12_numbers k 4 t li lj Q → lv_has ls 3 [(0, .ref (bd 0)), (1, .int (li 1))] → Hp D A s.heap (wM cI cJ cB cZ bd t) H locs → W p l e { frames := 1, cells := 0, slots := 0, locals := 20 } s m args below meth c H locs 0 0 (MQ below (va_Qv (fun u => Q u) (fun u t => xEnd D ((fun u : XT => (wM cI cJ cB cZ bd u)) u) A t) A) args s 0 0 A) (F0 m 72 ls [])) ∧
      (∀ (t : XT) (li : Nat → Int32) (lj : Nat → Int64) (H : Heap) (locs : List Loc) (ls : Array Slot), wpX12_numbers k 5 t li lj Q → lv_has ls 3 [(0, .ref (bd 0)), (1, .int (li 1))] → Hp D A s.heap (wM cI cJ cB cZ bd t) H locs → W p l e { frames := 1, cells := 0, slots := 0, locals := 20 } s m args below meth c H locs 0 0 (MQ below (va_Qv (fun u => Q u) (fun u t => xEnd D ((fun u : XT => (wM cI cJ cB cZ bd u)) u) A t) A) args s 0 0 A) (F0 m 94 ls [])) ∧
      (∀ (t : XT) (li : Nat → Int32) (lj : Nat → Int64) (H : Heap) (locs : List Loc) (ls : Array Slot), wpX12_numbers k 6 t li lj Q → lv_has ls 3 [(0, .ref (bd 0)), (1, .int (li 1))] → Hp D A s.heap (wM cI cJ cB cZ bd t) H locs → W p l e { frames := 1, cells := 0, slots := 0, locals := 20 } s m args below meth c H locs 0 0 (MQ below (va_Qv (fun u => Q u) (fun u t => xEnd D ((fun u : XT => (wM cI cJ cB cZ bd u)) u) A t) A) args s 0 0 A) (F0 m 136 ls [])) := by
    intro k
    induction k with
    | zero => exact ⟨fun _ _ _ _ _ _ hR => False.elim hR, fun _ _ _ _ _ _ hR => False.elim hR, fun _ _ _ _ _ _ hR => False.elim hR, fun _ _ _ _ _ _ hR => False.elim hR, fun _ _ _ _ _ _ hR => False.elim hR, fun _ _ _ _ _ _ hR => False.elim hR, fun _ _ _ _ _ _ hR => False.elim hR⟩
    | succ k ih =>
      refine ⟨?_, ?_, ?_, ?_, ?_, ?_, ?_⟩
      · intro t li lj H locs ls hR hl h
        have hR : wbX12_numbers_0 (wpX12_numbers k) k t li lj Q := hR
        unfold wbX12_numbers_0 at hR
        refine lv_aload_n hx hb dX12_numbers_0 rfl (lv_at hl 0 rfl) ?_
        refine lv_iconst (v := 0) hx hb dX12_numbers_1 (by decide) ?_
        refine x_put (ci := 12) (C := RX12) (T := TX12) (N := 31) (v := .int 0) (ty := .int) B h hin12 tyX12 tyX12_ok nmX12 0 5 rfl rfl (by decide) (by decide +kernel) rfl rfl rfl rfl (Nat.le_of_ble_eq_true rfl) dX12_numbers_2 (fun H locs h => ?_)
        obtain ⟨t_1, et_1⟩ : ∃ v : XT, v = sI t 3 0 := ⟨_, rfl⟩
        have hR := hR t_1 et_1
        have h : Hp D A s.heap (wM cI cJ cB cZ bd t_1) H locs := by rw [et_1]; exact h
        refine lv_iconst (v := 1) hx hb dX12_numbers_5 (by decide) ?_
        refine lv_istore_n (lv' := [(1, .int 1), (0, .ref (bd 0))]) hx hb dX12_numbers_6 rfl hl (by decide) rfl (fun ls hl => ?_)
        exact ih.2.1 t_1 (uI li 1 1) lj H locs ls hR (lv_sub hl [1, 0] rfl) h
      · intro t li lj H locs ls hR hl h
        have hR : wbX12_numbers_1 (wpX12_numbers k) k t li lj Q := hR
        unfold wbX12_numbers_1 at hR
        refine lv_iload_n hx hb dX12_numbers_7 rfl (lv_at hl 1 rfl) ?_
        refine lv_iconst (v := 5) hx hb dX12_numbers_8 (by decide) ?_
        refine lv_icmp_gt (tgt := 70) hx hb dX12_numbers_9 (by decide) (fun c_2 => ?_) (fun c_2 => ?_)
        · have hR := hR.1 c_2
          refine lv_iconst (v := 0) hx hb dX12_numbers_70 (by decide) ?_
          refine lv_istore_n (lv' := [(1, .int 0), (0, .ref (bd 0))]) hx hb dX12_numbers_71 rfl hl (by decide) rfl (fun ls hl => ?_)
          exact ih.2.2.2.2.1 t (uI li 1 0) lj H locs ls hR (lv_sub hl [1, 0] rfl) h
        · have hR := hR.2 c_2
          refine lv_iconst (v := 1) hx hb dX12_numbers_12 (by decide) ?_
          refine lv_istore_n (lv' := [(2, .int 1), (0, .ref (bd 0)), (1, .int (li 1))]) hx hb dX12_numbers_13 rfl hl (by decide) rfl (fun ls hl => ?_)
          exact ih.2.2.1 t (uI li 2 1) lj H locs ls hR (lv_sub hl [1, 2, 0] rfl) h
      · intro t li lj H locs ls hR hl h
        have hR : wbX12_numbers_2 (wpX12_numbers k) k t li lj Q := hR
        unfold wbX12_numbers_2 at hR
        refine lv_iload_n hx hb dX12_numbers_14 rfl (lv_at hl 2 rfl) ?_
        refine lv_sipush (v := 256) hx hb dX12_numbers_15 (by decide) ?_
        refine lv_icmp_ge (tgt := 64) hx hb dX12_numbers_18 (by decide) (fun c_3 => ?_) (fun c_3 => ?_)
        · have hR := hR.1 c_3
          obtain ⟨v_4, ev_4⟩ : ∃ v : Int32, v = (li 1) + Int32.ofInt 1 := ⟨_, rfl⟩
          have hR := hR v_4 ev_4
          refine lv_iinc (v := v_4) (lv' := [(1, .int v_4), (0, .ref (bd 0)), (2, .int (li 2))]) hx hb dX12_numbers_64 hl (k := 1) rfl ev_4.symm (by decide) rfl (fun ls hl => ?_)
          refine lv_goto (tgt := 7) hx hb dX12_numbers_67 (by decide) ?_
          exact ih.2.1 t (uI li 1 v_4) lj H locs ls hR (lv_sub hl [1, 0] rfl) h
        · have hR := hR.2 c_3
          refine lv_aload_n hx hb dX12_numbers_21 rfl (lv_at hl 0 rfl) ?_
          refine x_get (ci := 12) (C := RX12) (T := TX12) (N := 31) (v := .ref (bd 2)) B h hin12 0 4 rfl rfl (by decide) (by decide +kernel) rfl dX12_numbers_22 ?_
          refine lv_iload_n hx hb dX12_numbers_25 rfl (lv_at hl 2 rfl) ?_
          obtain ⟨hb_5, hR⟩ := hR
          refine va_zald (f := (t.2.2.1 1)) hx hb B.2.1 h.1 2 3 rfl rfl hb_5 dX12_numbers_26 ?_
          refine lv_topi (fun v_5 ev_5 => ?_)
          have hR := hR v_5 ev_5
          refine lv_if_eq (tgt := 58) hx hb dX12_numbers_27 (by decide) (fun c_6 => ?_) (fun c_6 => ?_)
          · have hR := hR.1 c_6
            exact ih.2.2.2.1 t li lj H locs ls hR (lv_sub hl [0, 1, 2] rfl) h
          · have hR := hR.2 c_6
            refine lv_iload_n hx hb dX12_numbers_30 rfl (lv_at hl 2 rfl) ?_
            refine x_cSIE (n := 1) (As := [.int (li 2)]) (rest := []) B h (wkJ6_bitCount_0f7a4 l D cI cJ cB cZ bd k (li 2) _ hR) ⟨⟨_, rfl⟩, by decide +kernel, Nat.le_of_ble_eq_true rfl, Nat.le_of_ble_eq_true rfl⟩ gX12_numbers_J6_bitCount_0f7a4 rfl hl.1 rfl (Nat.le_of_ble_eq_true rfl) dX12_numbers_31 ⟨Nat.le_of_ble_eq_true rfl, Nat.le_of_ble_eq_true rfl⟩ (fun r_7 _ H locs hR h => ?_)
            refine lv_iload_n hx hb dX12_numbers_34 rfl (lv_at hl 1 rfl) ?_
            refine lv_icmp_ne (tgt := 58) hx hb dX12_numbers_35 (by decide) (fun c_8 => ?_) (fun c_8 => ?_)
            · have hR := hR.1 c_8
              exact ih.2.2.2.1 t li lj H locs ls hR (lv_sub hl [0, 1, 2] rfl) h
            · have hR := hR.2 c_8
              refine lv_aload_n hx hb dX12_numbers_38 rfl (lv_at hl 0 rfl) ?_
              refine x_get (ci := 12) (C := RX12) (T := TX12) (N := 31) (v := .ref (bd 3)) B h hin12 0 6 rfl rfl (by decide) (by decide +kernel) rfl dX12_numbers_39 ?_
              refine lv_aload_n hx hb dX12_numbers_42 rfl (lv_at hl 0 rfl) ?_
              refine x_get (ci := 12) (C := RX12) (T := TX12) (N := 31) (v := .int (t.1 3)) B h hin12 0 5 rfl rfl (by decide) (by decide +kernel) rfl dX12_numbers_43 ?_
              refine lv_iload_n hx hb dX12_numbers_46 rfl (lv_at hl 2 rfl) ?_
              obtain ⟨hb_9, hR⟩ := hR
              refine z_iast (f := (t.2.2.1 2)) B h 3 0 rfl rfl hb_9 dX12_numbers_47 (fun H locs h => ?_)
              obtain ⟨t_9, et_9⟩ : ∃ v : XT, v = sA t 2 (upd (t.2.2.1 2) (t.1 3).toNatClampNeg (li 2)) := ⟨_, rfl⟩
              have hR := hR t_9 et_9
              have h : Hp D A s.heap (wM cI cJ cB cZ bd t_9) H locs := by rw [et_9]; exact h
              refine lv_aload_n hx hb dX12_numbers_48 rfl (lv_at hl 0 rfl) ?_
              refine lv_dup hx hb dX12_numbers_49 rfl ?_
              refine x_get (ci := 12) (C := RX12) (T := TX12) (N := 31) (v := .int (t_9.1 3)) B h hin12 0 5 rfl rfl (by decide) (by decide +kernel) rfl dX12_numbers_50 ?_
              refine lv_iconst (v := 1) hx hb dX12_numbers_53 (by decide) ?_
              refine lv_iadd hx hb dX12_numbers_54 ?_
              refine lv_topi (fun v_10 ev_10 => ?_)
              have hR := hR v_10 ev_10
              refine x_put (ci := 12) (C := RX12) (T := TX12) (N := 31) (v := .int v_10) (ty := .int) B h hin12 tyX12 tyX12_ok nmX12 0 5 rfl rfl (by decide) (by decide +kernel) rfl rfl rfl rfl (Nat.le_of_ble_eq_true rfl) dX12_numbers_55 (fun H locs h => ?_)
              obtain ⟨t_11, et_11⟩ : ∃ v : XT, v = sI t_9 3 v_10 := ⟨_, rfl⟩
              have hR := hR t_11 et_11
              have h : Hp D A s.heap (wM cI cJ cB cZ bd t_11) H locs := by rw [et_11]; exact h
              exact ih.2.2.2.1 t_11 li lj H locs ls hR (lv_sub hl [0, 1, 2] rfl) h
      · intro t li lj H locs ls hR hl h
        have hR : wbX12_numbers_3 (wpX12_numbers k) k t li lj Q := hR
        unfold wbX12_numbers_3 at hR
        obtain ⟨v_12, ev_12⟩ : ∃ v : Int32, v = (li 2) + Int32.ofInt 1 := ⟨_, rfl⟩
        have hR := hR v_12 ev_12
        refine lv_iinc (v := v_12) (lv' := [(2, .int v_12), (0, .ref (bd 0)), (1, .int (li 1))]) hx hb dX12_numbers_58 hl (k := 2) rfl ev_12.symm (by decide) rfl (fun ls hl => ?_)
        refine lv_goto (tgt := 14) hx hb dX12_numbers_61 (by decide) ?_
        exact ih.2.2.1 t (uI li 2 v_12) lj H locs ls hR (lv_sub hl [1, 2, 0] rfl) h
      · intro t li lj H locs ls hR hl h
        have hR : wbX12_numbers_4 (wpX12_numbers k) k t li lj Q := hR
        unfold wbX12_numbers_4 at hR
        refine lv_iload_n hx hb dX12_numbers_72 rfl (lv_at hl 1 rfl) ?_
        refine lv_sipush (v := 256) hx hb dX12_numbers_73 (by decide) ?_
        refine lv_icmp_ge (tgt := 92) hx hb dX12_numbers_76 (by decide) (fun c_13 => ?_) (fun c_13 => ?_)
        · have hR := hR.1 c_13
          refine lv_iconst (v := 0) hx hb dX12_numbers_92 (by decide) ?_
          refine lv_istore_n (lv' := [(1, .int 0), (0, .ref (bd 0))]) hx hb dX12_numbers_93 rfl hl (by decide) rfl (fun ls hl => ?_)
          exact ih.2.2.2.2.2.1 t (uI li 1 0) lj H locs ls hR (lv_sub hl [1, 0] rfl) h
        · have hR := hR.2 c_13
          refine lv_aload_n hx hb dX12_numbers_79 rfl (lv_at hl 0 rfl) ?_
          refine x_get (ci := 12) (C := RX12) (T := TX12) (N := 31) (v := .ref (bd 4)) B h hin12 0 7 rfl rfl (by decide) (by decide +kernel) rfl dX12_numbers_80 ?_
          refine lv_iload_n hx hb dX12_numbers_83 rfl (lv_at hl 1 rfl) ?_
          refine lv_iconst (v := (-1)) hx hb dX12_numbers_84 (by decide) ?_
          obtain ⟨hb_14, hR⟩ := hR
          refine z_iast (f := (t.2.2.1 3)) B h 4 0 rfl rfl hb_14 dX12_numbers_85 (fun H locs h => ?_)
          obtain ⟨t_14, et_14⟩ : ∃ v : XT, v = sA t 3 (upd (t.2.2.1 3) (li 1).toNatClampNeg (-1)) := ⟨_, rfl⟩
          have hR := hR t_14 et_14
          have h : Hp D A s.heap (wM cI cJ cB cZ bd t_14) H locs := by rw [et_14]; exact h
          obtain ⟨v_15, ev_15⟩ : ∃ v : Int32, v = (li 1) + Int32.ofInt 1 := ⟨_, rfl⟩
          have hR := hR v_15 ev_15
          refine lv_iinc (v := v_15) (lv' := [(1, .int v_15), (0, .ref (bd 0))]) hx hb dX12_numbers_86 hl (k := 1) rfl ev_15.symm (by decide) rfl (fun ls hl => ?_)
          refine lv_goto (tgt := 72) hx hb dX12_numbers_89 (by decide) ?_
          exact ih.2.2.2.2.1 t_14 (uI li 1 v_15) lj H locs ls hR (lv_sub hl [1, 0] rfl) h
      · intro t li lj H locs ls hR hl h
        have hR : wbX12_numbers_5 (wpX12_numbers k) k t li lj Q := hR
        unfold wbX12_numbers_5 at hR
        refine lv_iload_n hx hb dX12_numbers_94 rfl (lv_at hl 1 rfl) ?_
        refine lv_aload_n hx hb dX12_numbers_95 rfl (lv_at hl 0 rfl) ?_
        refine x_get (ci := 12) (C := RX12) (T := TX12) (N := 31) (v := .int (t.1 3)) B h hin12 0 5 rfl rfl (by decide) (by decide +kernel) rfl dX12_numbers_96 ?_
        refine lv_icmp_ge (tgt := 134) hx hb dX12_numbers_99 (by decide) (fun c_16 => ?_) (fun c_16 => ?_)
        · have hR := hR.1 c_16
          refine lv_iconst (v := 0) hx hb dX12_numbers_134 (by decide) ?_
          refine lv_istore_n (lv' := [(1, .int 0), (0, .ref (bd 0))]) hx hb dX12_numbers_135 rfl hl (by decide) rfl (fun ls hl => ?_)
          exact ih.2.2.2.2.2.2 t (uI li 1 0) lj H locs ls hR (lv_sub hl [1, 0] rfl) h
        · have hR := hR.2 c_16
          refine lv_aload_n hx hb dX12_numbers_102 rfl (lv_at hl 0 rfl) ?_
          refine x_get (ci := 12) (C := RX12) (T := TX12) (N := 31) (v := .ref (bd 4)) B h hin12 0 7 rfl rfl (by decide) (by decide +kernel) rfl dX12_numbers_103 ?_
          refine lv_aload_n hx hb dX12_numbers_106 rfl (lv_at hl 0 rfl) ?_
          refine x_get (ci := 12) (C := RX12) (T := TX12) (N := 31) (v := .ref (bd 3)) B h hin12 0 6 rfl rfl (by decide) (by decide +kernel) rfl dX12_numbers_107 ?_
          refine lv_iload_n hx hb dX12_numbers_110 rfl (lv_at hl 1 rfl) ?_
          obtain ⟨hb_17, hR⟩ := hR
          refine va_iald (f := (t.2.2.1 2)) hx hb B.2.1 h.1 3 0 rfl rfl hb_17 dX12_numbers_111 ?_
          refine lv_topi (fun v_17 ev_17 => ?_)
          have hR := hR v_17 ev_17
          refine lv_iload_n hx hb dX12_numbers_112 rfl (lv_at hl 1 rfl) ?_
          obtain ⟨hb_18, hR⟩ := hR
          refine z_iast (f := (t.2.2.1 3)) B h 4 0 rfl rfl hb_18 dX12_numbers_113 (fun H locs h => ?_)
          obtain ⟨t_18, et_18⟩ : ∃ v : XT, v = sA t 3 (upd (t.2.2.1 3) v_17.toNatClampNeg (li 1)) := ⟨_, rfl⟩
          have hR := hR t_18 et_18
          have h : Hp D A s.heap (wM cI cJ cB cZ bd t_18) H locs := by rw [et_18]; exact h
          refine lv_aload_n hx hb dX12_numbers_114 rfl (lv_at hl 0 rfl) ?_
          refine x_get (ci := 12) (C := RX12) (T := TX12) (N := 31) (v := .ref (bd 5)) B h hin12 0 8 rfl rfl (by decide) (by decide +kernel) rfl dX12_numbers_115 ?_
          refine lv_iload_n hx hb dX12_numbers_118 rfl (lv_at hl 1 rfl) ?_
          refine lv_iconst (v := (-1)) hx hb dX12_numbers_119 (by decide) ?_
          obtain ⟨hb_19, hR⟩ := hR
          refine z_iast (f := (t_18.2.2.1 4)) B h 5 0 rfl rfl hb_19 dX12_numbers_120 (fun H locs h => ?_)
          obtain ⟨t_19, et_19⟩ : ∃ v : XT, v = sA t_18 4 (upd (t_18.2.2.1 4) (li 1).toNatClampNeg (-1)) := ⟨_, rfl⟩
          have hR := hR t_19 et_19
          have h : Hp D A s.heap (wM cI cJ cB cZ bd t_19) H locs := by rw [et_19]; exact h
          refine lv_aload_n hx hb dX12_numbers_121 rfl (lv_at hl 0 rfl) ?_
          refine x_get (ci := 12) (C := RX12) (T := TX12) (N := 31) (v := .ref (bd 6)) B h hin12 0 9 rfl rfl (by decide) (by decide +kernel) rfl dX12_numbers_122 ?_
          refine lv_iload_n hx hb dX12_numbers_125 rfl (lv_at hl 1 rfl) ?_
          refine lv_iconst (v := 0) hx hb dX12_numbers_126 (by decide) ?_
          obtain ⟨hb_20, hR⟩ := hR
          refine z_zast (f := (t_19.2.2.1 5)) B h 6 3 rfl rfl hb_20 dX12_numbers_127 (fun H locs h => ?_)
          obtain ⟨t_20, et_20⟩ : ∃ v : XT, v = sA t_19 5 (upd (t_19.2.2.1 5) (li 1).toNatClampNeg (vp_nar .boolean 0)) := ⟨_, rfl⟩
          have hR := hR t_20 et_20
          have h : Hp D A s.heap (wM cI cJ cB cZ bd t_20) H locs := by rw [et_20]; exact h
          obtain ⟨v_21, ev_21⟩ : ∃ v : Int32, v = (li 1) + Int32.ofInt 1 := ⟨_, rfl⟩
          have hR := hR v_21 ev_21
          refine lv_iinc (v := v_21) (lv' := [(1, .int v_21), (0, .ref (bd 0))]) hx hb dX12_numbers_128 hl (k := 1) rfl ev_21.symm (by decide) rfl (fun ls hl => ?_)
          refine lv_goto (tgt := 94) hx hb dX12_numbers_131 (by decide) ?_
          exact ih.2.2.2.2.2.1 t_20 (uI li 1 v_21) lj H locs ls hR (lv_sub hl [1, 0] rfl) h
      · intro t li lj H locs ls hR hl h
        have hR : wbX12_numbers_6 (wpX12_numbers k) k t li lj Q := hR
        unfold wbX12_numbers_6 at hR
        refine lv_iload_n hx hb dX12_numbers_136 rfl (lv_at hl 1 rfl) ?_
        refine lv_iconst (v := 3) hx hb dX12_numbers_137 (by decide) ?_
        refine lv_icmp_ge (tgt := 154) hx hb dX12_numbers_138 (by decide) (fun c_22 => ?_) (fun c_22 => ?_)
        · have hR := hR.1 c_22
          refine lv_aload_n hx hb dX12_numbers_154 rfl (lv_at hl 0 rfl) ?_
          refine lv_iconst (v := 0) hx hb dX12_numbers_155 (by decide) ?_
          refine x_put (ci := 12) (C := RX12) (T := TX12) (N := 31) (v := .int 0) (ty := .int) B h hin12 tyX12 tyX12_ok nmX12 0 13 rfl rfl (by decide) (by decide +kernel) rfl rfl rfl rfl (Nat.le_of_ble_eq_true rfl) dX12_numbers_156 (fun H locs h => ?_)
          obtain ⟨t_23, et_23⟩ : ∃ v : XT, v = sI t 4 0 := ⟨_, rfl⟩
          have hR := hR t_23 et_23
          have h : Hp D A s.heap (wM cI cJ cB cZ bd t_23) H locs := by rw [et_23]; exact h
          exact x_vret (w1 := (fun u : XT => (wM cI cJ cB cZ bd u))) t_23 B h hr hR dX12_numbers_159
        · have hR := hR.2 c_22
          refine lv_aload_n hx hb dX12_numbers_141 rfl (lv_at hl 0 rfl) ?_
          refine x_get (ci := 12) (C := RX12) (T := TX12) (N := 31) (v := .ref (bd 21)) B h hin12 0 29 rfl rfl (by decide) (by decide +kernel) rfl dX12_numbers_142 ?_
          refine lv_iload_n hx hb dX12_numbers_145 rfl (lv_at hl 1 rfl) ?_
          refine lv_iconst (v := 0) hx hb dX12_numbers_146 (by decide) ?_
          obtain ⟨hb_24, hR⟩ := hR
          refine z_zast (f := (t.2.2.1 14)) B h 21 3 rfl rfl hb_24 dX12_numbers_147 (fun H locs h => ?_)
          obtain ⟨t_24, et_24⟩ : ∃ v : XT, v = sA t 14 (upd (t.2.2.1 14) (li 1).toNatClampNeg (vp_nar .boolean 0)) := ⟨_, rfl⟩
          have hR := hR t_24 et_24
          have h : Hp D A s.heap (wM cI cJ cB cZ bd t_24) H locs := by rw [et_24]; exact h
          obtain ⟨v_25, ev_25⟩ : ∃ v : Int32, v = (li 1) + Int32.ofInt 1 := ⟨_, rfl⟩
          have hR := hR v_25 ev_25
          refine lv_iinc (v := v_25) (lv' := [(1, .int v_25), (0, .ref (bd 0))]) hx hb dX12_numbers_148 hl (k := 1) rfl ev_25.symm (by decide) rfl (fun ls hl => ?_)
          refine lv_goto (tgt := 136) hx hb dX12_numbers_151 (by decide) ?_
          exact ih.2.2.2.2.2.2 t_24 (uI li 1 v_25) lj H locs ls hR (lv_sub hl [1, 0] rfl) h
  exact (main k).1 t _ _ s.heap [] ls hR hl h
set_option maxRecDepth 20000 in
theorem ggX12_complex_X12_readsFacet : GoodIn wsX12_complex wsX12_readsFacet := goodIn_r _ [10, 1, 11, 12, 13, 9, 14, 15, 16, 17, 18, 4, 19, 20, 21, 22, 23, 24, 25, 26, 27, 28, 29, 30, 2, 31, 32, 33, 34, 35, 36, 37, 38, 39, 40, 41, 42, 43, 44, 45, 3, 46, 47, 48, 49, 50, 51, 52, 63, 64, 65, 66, 67, 68, 69, 70, 71, 72, 73, 74, 75, 76, 77, 78, 79, 80, 81, 82, 83, 84, 85, 86, 87, 88, 89, 90, 91, 92, 93] (by decide +kernel) (by decide +kernel)
set_option maxRecDepth 20000 in
theorem gX12_complex_X12_readsFacet : GoodIn wsX12_complex (wsV RX12 133 RX12 yX12_readsFacet wsX12_readsFacet) := goodIn_app (goodIn_of _ (by decide +kernel)) ggX12_complex_X12_readsFacet
set_option maxRecDepth 20000 in
theorem ggX12_complex_X12_isRight : GoodIn wsX12_complex wsX12_isRight := goodIn_r _ [34, 2, 63, 64, 65, 66, 67, 68, 69, 70, 71, 72, 73, 74, 75, 76, 77, 78, 79, 80, 81, 82, 83, 84, 85, 86, 87, 88, 89, 90, 91, 92, 93] (by decide +kernel) (by decide +kernel)
set_option maxRecDepth 20000 in
theorem gX12_complex_X12_isRight : GoodIn wsX12_complex (wsV RX12 120 RX12 yX12_isRight wsX12_isRight) := goodIn_app (goodIn_of _ (by decide +kernel)) ggX12_complex_X12_isRight
set_option maxRecDepth 20000 in
theorem ggX12_complex_X12_byteNow : GoodIn wsX12_complex wsX12_byteNow := goodIn_r _ [18, 1, 4, 19, 63, 64, 65, 66, 67, 68, 69, 70, 71, 72, 73, 74, 75, 76, 77, 78, 79, 80, 81, 82, 83, 84, 85, 86, 87, 88, 89, 90, 91, 92, 93] (by decide +kernel) (by decide +kernel)
set_option maxRecDepth 20000 in
theorem gX12_complex_X12_byteNow : GoodIn wsX12_complex (wsV RX12 94 RX12 yX12_byteNow wsX12_byteNow) := goodIn_app (goodIn_of _ (by decide +kernel)) ggX12_complex_X12_byteNow
set_option maxRecDepth 20000 in
theorem ggX12_complex_X12_truth : GoodIn wsX12_complex wsX12_truth := goodIn_r _ [52] (by decide +kernel) (by decide +kernel)
set_option maxRecDepth 20000 in
theorem gX12_complex_X12_truth : GoodIn wsX12_complex (va_wsS RX12 105 yX12_truth wsX12_truth) := goodIn_app (goodIn_of _ (by decide +kernel)) ggX12_complex_X12_truth
set_option maxRecDepth 20000 in
theorem ggX12_complex_X12_fails : GoodIn wsX12_complex wsX12_fails := goodIn_r _ [30, 2, 63, 64, 65, 66, 67, 68, 69, 70, 71, 72, 73, 74, 75, 76, 77, 78, 79, 80, 81, 82, 83, 84, 85, 86, 87, 88, 89, 90, 91, 92, 93] (by decide +kernel) (by decide +kernel)
set_option maxRecDepth 20000 in
theorem gX12_complex_X12_fails : GoodIn wsX12_complex (wsV RX12 116 RX12 yX12_fails wsX12_fails) := goodIn_app (goodIn_of _ (by decide +kernel)) ggX12_complex_X12_fails
set_option maxRecDepth 20000 in
theorem ggX12_complex_X12_numbers : GoodIn wsX12_complex wsX12_numbers := goodIn_r _ [56, 5, 3, 57, 58, 59, 60, 61, 62, 35, 36, 37, 38, 39, 40, 41, 63, 64, 65, 66, 67, 68, 69, 70, 71, 72, 73, 74, 75, 76, 77, 78, 79, 80, 81, 82, 83, 84, 85, 86, 87, 88, 89, 90, 91, 92, 93] (by decide +kernel) (by decide +kernel)
set_option maxRecDepth 20000 in
theorem gX12_complex_X12_numbers : GoodIn wsX12_complex (wsV RX12 136 RX12 yX12_numbers wsX12_numbers) := goodIn_app (goodIn_of _ (by decide +kernel)) ggX12_complex_X12_numbers
def wbX12_complex_0 (rec : Nat → XT → (Nat → Int32) → (Nat → Int64) → (Int32 → XT → Prop) → Prop) (k : Nat) (t : XT) (li : Nat → Int32) (lj : Nat → Int64) (Q : Int32 → XT → Prop) : Prop :=
  (∀ t_1 : XT, t_1 = sI t 1 0 → (∀ t_2 : XT, t_2 = sI t_1 2 (-1) → rec 1 t_2 (uI li 1 0) lj Q))
def wbX12_complex_1 (rec : Nat → XT → (Nat → Int32) → (Nat → Int64) → (Int32 → XT → Prop) → Prop) (k : Nat) (t : XT) (li : Nat → Int32) (lj : Nat → Int64) (Q : Int32 → XT → Prop) : Prop :=
  (((256 : Int32) ≤ (li 1)) → rec 2 t (uI (uI li 1 0) 2 1) lj Q) ∧ (¬ ((256 : Int32) ≤ (li 1)) → (vp_in (li 1) 256 ∧ (∀ t_4 : XT, t_4 = sA t 1 (upd (t.2.2.1 1) (li 1).toNatClampNeg (vp_nar .boolean 0)) → (∀ v_5 : Int32, v_5 = (li 1) + Int32.ofInt 1 → rec 1 t_4 (uI li 1 v_5) lj Q))))
def wbX12_complex_2 (rec : Nat → XT → (Nat → Int32) → (Nat → Int64) → (Int32 → XT → Prop) → Prop) (k : Nat) (t : XT) (li : Nat → Int32) (lj : Nat → Int64) (Q : Int32 → XT → Prop) : Prop :=
  (((li 2) = 0) → (wqX12_isRight k t  (fun r_7 t_7 => ((r_7 = 0) → rec 5 t_7 li lj Q) ∧ (¬ (r_7 = 0) → (wqX12_byteNow k t_7  (fun r_9 t_9 => ((r_9 = (-1)) → rec 5 t_9 li lj Q) ∧ (¬ (r_9 = (-1)) → (wqX12_fails k t_9 1 (t_9.1 1) (fun t_11 => rec 5 t_11 li lj Q))))))))) ∧ (¬ ((li 2) = 0) → (wqX12_readsFacet k t (li 1) (fun t_12 => (∀ v_13 : Int32, v_13 = (li 1) + Int32.ofInt 1 → (wqX12_isRight k t_12  (fun r_14 t_14 => ((r_14 = 0) → rec 3 t_14 (uI li 1 v_13) lj Q) ∧ (¬ (r_14 = 0) → (wqX12_byteNow k t_14  (fun r_16 t_16 => ((¬ r_16 = 44) → rec 3 t_16 (uI li 1 v_13) lj Q) ∧ ((r_16 = 44) → rec 4 t_16 (uI (uI li 1 v_13) 100 1) lj Q))))))))))
def wbX12_complex_3 (rec : Nat → XT → (Nat → Int32) → (Nat → Int64) → (Int32 → XT → Prop) → Prop) (k : Nat) (t : XT) (li : Nat → Int32) (lj : Nat → Int64) (Q : Int32 → XT → Prop) : Prop :=
  rec 4 t (uI li 100 0) lj Q
def wbX12_complex_4 (rec : Nat → XT → (Nat → Int32) → (Nat → Int64) → (Int32 → XT → Prop) → Prop) (k : Nat) (t : XT) (li : Nat → Int32) (lj : Nat → Int64) (Q : Int32 → XT → Prop) : Prop :=
  (wqX12_truth k (li 100) (fun r_18 => (∀ v_19 : Int32, v_19 = ((t.1 1) + r_18) → (∀ t_20 : XT, t_20 = sI t 1 v_19 → rec 2 t_20 (uI li 2 (li 100)) lj Q))))
def wbX12_complex_5 (rec : Nat → XT → (Nat → Int32) → (Nat → Int64) → (Int32 → XT → Prop) → Prop) (k : Nat) (t : XT) (li : Nat → Int32) (lj : Nat → Int64) (Q : Int32 → XT → Prop) : Prop :=
  (∀ t_21 : XT, t_21 = sI t 0 0 → (wqX12_isRight k t_21  (fun r_22 t_22 => ((¬ r_22 = 0) → (wqX12_numbers k t_22  (fun t_24 => Q (t_24.1 3) t_24))) ∧ ((r_22 = 0) → (∀ v_25 : Int32, v_25 = ((-2) - (t_22.1 2)) → Q v_25 t_22)))))
def wpX12_complex : Nat → Nat → XT → (Nat → Int32) → (Nat → Int64) → (Int32 → XT → Prop) → Prop
  | 0, _, _, _, _, _ => False
  | k + 1, 0, t, li, lj, Q => wbX12_complex_0 (wpX12_complex k) k t li lj Q
  | k + 1, 1, t, li, lj, Q => wbX12_complex_1 (wpX12_complex k) k t li lj Q
  | k + 1, 2, t, li, lj, Q => wbX12_complex_2 (wpX12_complex k) k t li lj Q
  | k + 1, 3, t, li, lj, Q => wbX12_complex_3 (wpX12_complex k) k t li lj Q
  | k + 1, 4, t, li, lj, Q => wbX12_complex_4 (wpX12_complex k) k t li lj Q
  | k + 1, 5, t, li, lj, Q => wbX12_complex_5 (wpX12_complex k) k t li lj Q
  | _ + 1, _, _, _, _, _ => False
def wqX12_complex (k : Nat) (t : XT)  (Q : Int32 → XT → Prop) : Prop := wpX12_complex k 0 t (fun _ => 0) (fun _ => 0) Q
set_option maxHeartbeats 8000000 in
set_option maxRecDepth 100000 in
theorem wkX12_complex (l : Launch) (D : va_G) (cI cJ cB cZ : ClassId) (bd : Nat → Nat) (k : Nat) (t : XT)  (Q : Int32 → XT → Prop) (hR : wqX12_complex k t  Q) : MetI l yX12_complex wsX12_complex 3 66 0 0 D (TYS cI cJ cB cZ) (wM cI cJ cB cZ bd t) [.ref (bd 0)] (fun r u => Q r u) (fun u : XT => (wM cI cJ cB cZ bd u)) := by
  refine x_startI (ty := .int) (cc := cX12_complex) (by decide) rfl (Nat.le_of_ble_eq_true rfl) ?_
  intro p e s m args below meth c A ls B hr hnm h hl
  have hx := B.1.1
  have hb := B.1.2.1
  have hml := B.1.2.2.1
  have hts := B.1.2.2.2.2
  have hown : s.vm.findClass RX12 = some m.cls := B.1.2.2.2.1
  have hin12 : ∀ w ∈ u_ws RX12 TX12 31, w ∈ wsX12_complex := by decide +kernel
  have main : ∀ k : Nat, (∀ (t : XT) (li : Nat → Int32) (lj : Nat → Int64) (H : Heap) (locs : List Loc) (ls : Array Slot), wpX12_complex k 0 t li lj Q → lv_has ls 3 [(0, .ref (bd 0))] → Hp D A s.heap (wM cI cJ cB cZ bd t) H locs → W p l e { frames := 3, cells := 0, slots := 0, locals := 66 } s m args below meth c H locs 0 0 (MQ below (va_Qi (fun r u => Q r u) (fun u t => xEnd D ((fun u : XT => (wM cI cJ cB cZ bd u)) u) A t) A) args s 0 0 A) (F0 m 0 ls [])) ∧
      (∀ (t : XT) (li : Nat → Int32) (lj : Nat → Int64) (H : Heap) (locs : List Loc) (ls : Array Slot), wpX12_complex k 1 t li lj Q → lv_has ls 3 [(0, .ref (bd 0)), (1, .int (li 1))] → Hp D A s.heap (wM cI cJ cB cZ bd t) H locs → W p l e { frames := 3, cells := 0, slots := 0, locals := 66 } s m args below meth c H locs 0 0 (MQ below (va_Qi (fun r u => Q r u) (fun u t => xEnd D ((fun u : XT => (wM cI cJ cB cZ bd u)) u) A t) A) args s 0 0 A) (F0 m 12 ls [])) ∧
      (∀ (t : XT) (li : Nat → Int32) (lj : Nat → Int64) (H : Heap) (locs : List Loc) (ls : Array Slot), wpX12_complex k 2 t li lj Q → lv_has ls 3 [(0, .ref (bd 0)), (1, .int (li 1)), (2, .int (li 2))] → Hp D A s.heap (wM cI cJ cB cZ bd t) H locs → W p l e { frames := 3, cells := 0, slots := 0, locals := 66 } s m args below meth c H locs 0 0 (MQ below (va_Qi (fun r u => Q r u) (fun u t => xEnd D ((fun u : XT => (wM cI cJ cB cZ bd u)) u) A t) A) args s 0 0 A) (F0 m 36 ls [])) ∧
      (∀ (t : XT) (li : Nat → Int32) (lj : Nat → Int64) (H : Heap) (locs : List Loc) (ls : Array Slot), wpX12_complex k 3 t li lj Q → lv_has ls 3 [(0, .ref (bd 0)), (1, .int (li 1)), (2, .int (li 2))] → Hp D A s.heap (wM cI cJ cB cZ bd t) H locs → W p l e { frames := 3, cells := 0, slots := 0, locals := 66 } s m args below meth c H locs 0 0 (MQ below (va_Qi (fun r u => Q r u) (fun u t => xEnd D ((fun u : XT => (wM cI cJ cB cZ bd u)) u) A t) A) args s 0 0 A) (F0 m 68 ls [])) ∧
      (∀ (t : XT) (li : Nat → Int32) (lj : Nat → Int64) (H : Heap) (locs : List Loc) (ls : Array Slot), wpX12_complex k 4 t li lj Q → lv_has ls 3 [(0, .ref (bd 0)), (1, .int (li 1)), (2, .int (li 2))] → Hp D A s.heap (wM cI cJ cB cZ bd t) H locs → W p l e { frames := 3, cells := 0, slots := 0, locals := 66 } s m args below meth c H locs 0 0 (MQ below (va_Qi (fun r u => Q r u) (fun u t => xEnd D ((fun u : XT => (wM cI cJ cB cZ bd u)) u) A t) A) args s 0 0 A) (F0 m 69 ls [.int (li 100)])) ∧
      (∀ (t : XT) (li : Nat → Int32) (lj : Nat → Int64) (H : Heap) (locs : List Loc) (ls : Array Slot), wpX12_complex k 5 t li lj Q → lv_has ls 3 [(0, .ref (bd 0)), (1, .int (li 1)), (2, .int (li 2))] → Hp D A s.heap (wM cI cJ cB cZ bd t) H locs → W p l e { frames := 3, cells := 0, slots := 0, locals := 66 } s m args below meth c H locs 0 0 (MQ below (va_Qi (fun r u => Q r u) (fun u t => xEnd D ((fun u : XT => (wM cI cJ cB cZ bd u)) u) A t) A) args s 0 0 A) (F0 m 110 ls [])) := by
    intro k
    induction k with
    | zero => exact ⟨fun _ _ _ _ _ _ hR => False.elim hR, fun _ _ _ _ _ _ hR => False.elim hR, fun _ _ _ _ _ _ hR => False.elim hR, fun _ _ _ _ _ _ hR => False.elim hR, fun _ _ _ _ _ _ hR => False.elim hR, fun _ _ _ _ _ _ hR => False.elim hR⟩
    | succ k ih =>
      refine ⟨?_, ?_, ?_, ?_, ?_, ?_⟩
      · intro t li lj H locs ls hR hl h
        have hR : wbX12_complex_0 (wpX12_complex k) k t li lj Q := hR
        unfold wbX12_complex_0 at hR
        refine lv_aload_n hx hb dX12_complex_0 rfl (lv_at hl 0 rfl) ?_
        refine lv_iconst (v := 0) hx hb dX12_complex_1 (by decide) ?_
        refine x_put (ci := 12) (C := RX12) (T := TX12) (N := 31) (v := .int 0) (ty := .int) B h hin12 tyX12 tyX12_ok nmX12 0 2 rfl rfl (by decide) (by decide +kernel) rfl rfl rfl rfl (Nat.le_of_ble_eq_true rfl) dX12_complex_2 (fun H locs h => ?_)
        obtain ⟨t_1, et_1⟩ : ∃ v : XT, v = sI t 1 0 := ⟨_, rfl⟩
        have hR := hR t_1 et_1
        have h : Hp D A s.heap (wM cI cJ cB cZ bd t_1) H locs := by rw [et_1]; exact h
        refine lv_aload_n hx hb dX12_complex_5 rfl (lv_at hl 0 rfl) ?_
        refine lv_iconst (v := (-1)) hx hb dX12_complex_6 (by decide) ?_
        refine x_put (ci := 12) (C := RX12) (T := TX12) (N := 31) (v := .int (-1)) (ty := .int) B h hin12 tyX12 tyX12_ok nmX12 0 3 rfl rfl (by decide) (by decide +kernel) rfl rfl rfl rfl (Nat.le_of_ble_eq_true rfl) dX12_complex_7 (fun H locs h => ?_)
        obtain ⟨t_2, et_2⟩ : ∃ v : XT, v = sI t_1 2 (-1) := ⟨_, rfl⟩
        have hR := hR t_2 et_2
        have h : Hp D A s.heap (wM cI cJ cB cZ bd t_2) H locs := by rw [et_2]; exact h
        refine lv_iconst (v := 0) hx hb dX12_complex_10 (by decide) ?_
        refine lv_istore_n (lv' := [(1, .int 0), (0, .ref (bd 0))]) hx hb dX12_complex_11 rfl hl (by decide) rfl (fun ls hl => ?_)
        exact ih.2.1 t_2 (uI li 1 0) lj H locs ls hR (lv_sub hl [1, 0] rfl) h
      · intro t li lj H locs ls hR hl h
        have hR : wbX12_complex_1 (wpX12_complex k) k t li lj Q := hR
        unfold wbX12_complex_1 at hR
        refine lv_iload_n hx hb dX12_complex_12 rfl (lv_at hl 1 rfl) ?_
        refine lv_sipush (v := 256) hx hb dX12_complex_13 (by decide) ?_
        refine lv_icmp_ge (tgt := 32) hx hb dX12_complex_16 (by decide) (fun c_3 => ?_) (fun c_3 => ?_)
        · have hR := hR.1 c_3
          refine lv_iconst (v := 0) hx hb dX12_complex_32 (by decide) ?_
          refine lv_istore_n (lv' := [(1, .int 0), (0, .ref (bd 0))]) hx hb dX12_complex_33 rfl hl (by decide) rfl (fun ls hl => ?_)
          refine lv_iconst (v := 1) hx hb dX12_complex_34 (by decide) ?_
          refine lv_istore_n (lv' := [(2, .int 1), (1, .int 0), (0, .ref (bd 0))]) hx hb dX12_complex_35 rfl hl (by decide) rfl (fun ls hl => ?_)
          exact ih.2.2.1 t (uI (uI li 1 0) 2 1) lj H locs ls hR (lv_sub hl [2, 1, 0] rfl) h
        · have hR := hR.2 c_3
          refine lv_aload_n hx hb dX12_complex_19 rfl (lv_at hl 0 rfl) ?_
          refine x_get (ci := 12) (C := RX12) (T := TX12) (N := 31) (v := .ref (bd 2)) B h hin12 0 4 rfl rfl (by decide) (by decide +kernel) rfl dX12_complex_20 ?_
          refine lv_iload_n hx hb dX12_complex_23 rfl (lv_at hl 1 rfl) ?_
          refine lv_iconst (v := 0) hx hb dX12_complex_24 (by decide) ?_
          obtain ⟨hb_4, hR⟩ := hR
          refine z_zast (f := (t.2.2.1 1)) B h 2 3 rfl rfl hb_4 dX12_complex_25 (fun H locs h => ?_)
          obtain ⟨t_4, et_4⟩ : ∃ v : XT, v = sA t 1 (upd (t.2.2.1 1) (li 1).toNatClampNeg (vp_nar .boolean 0)) := ⟨_, rfl⟩
          have hR := hR t_4 et_4
          have h : Hp D A s.heap (wM cI cJ cB cZ bd t_4) H locs := by rw [et_4]; exact h
          obtain ⟨v_5, ev_5⟩ : ∃ v : Int32, v = (li 1) + Int32.ofInt 1 := ⟨_, rfl⟩
          have hR := hR v_5 ev_5
          refine lv_iinc (v := v_5) (lv' := [(1, .int v_5), (0, .ref (bd 0))]) hx hb dX12_complex_26 hl (k := 1) rfl ev_5.symm (by decide) rfl (fun ls hl => ?_)
          refine lv_goto (tgt := 12) hx hb dX12_complex_29 (by decide) ?_
          exact ih.2.1 t_4 (uI li 1 v_5) lj H locs ls hR (lv_sub hl [1, 0] rfl) h
      · intro t li lj H locs ls hR hl h
        have hR : wbX12_complex_2 (wpX12_complex k) k t li lj Q := hR
        unfold wbX12_complex_2 at hR
        refine lv_iload_n hx hb dX12_complex_36 rfl (lv_at hl 2 rfl) ?_
        refine lv_if_eq (tgt := 86) hx hb dX12_complex_37 (by decide) (fun c_6 => ?_) (fun c_6 => ?_)
        · have hR := hR.1 c_6
          refine lv_aload_n hx hb dX12_complex_86 rfl (lv_at hl 0 rfl) ?_
          refine x_cVIF (n := 0) (As := []) (rest := []) B h (wkX12_isRight l D cI cJ cB cZ bd k t  _ hR) ⟨⟨_, rfl⟩, by decide +kernel, Nat.le_of_ble_eq_true rfl, Nat.le_of_ble_eq_true rfl⟩ gX12_complex_X12_isRight (show ((wM cI cJ cB cZ bd t) : va_W)[0]? = some (_, .inr (12, _)) from rfl) rfl rfl hl.1 rfl (Nat.le_of_ble_eq_true rfl) dX12_complex_87 ⟨Nat.le_of_ble_eq_true rfl, Nat.le_of_ble_eq_true rfl⟩ (fun r_7 t_7 H locs hR h => ?_)
          refine lv_if_eq (tgt := 110) hx hb dX12_complex_90 (by decide) (fun c_8 => ?_) (fun c_8 => ?_)
          · have hR := hR.1 c_8
            exact ih.2.2.2.2.2 t_7 li lj H locs ls hR (lv_sub hl [0, 1, 2] rfl) h
          · have hR := hR.2 c_8
            refine lv_aload_n hx hb dX12_complex_93 rfl (lv_at hl 0 rfl) ?_
            refine x_cVIF (n := 0) (As := []) (rest := []) B h (wkX12_byteNow l D cI cJ cB cZ bd k t_7  _ hR) ⟨⟨_, rfl⟩, by decide +kernel, Nat.le_of_ble_eq_true rfl, Nat.le_of_ble_eq_true rfl⟩ gX12_complex_X12_byteNow (show ((wM cI cJ cB cZ bd t_7) : va_W)[0]? = some (_, .inr (12, _)) from rfl) rfl rfl hl.1 rfl (Nat.le_of_ble_eq_true rfl) dX12_complex_94 ⟨Nat.le_of_ble_eq_true rfl, Nat.le_of_ble_eq_true rfl⟩ (fun r_9 t_9 H locs hR h => ?_)
            refine lv_iconst (v := (-1)) hx hb dX12_complex_97 (by decide) ?_
            refine lv_icmp_eq (tgt := 110) hx hb dX12_complex_98 (by decide) (fun c_10 => ?_) (fun c_10 => ?_)
            · have hR := hR.1 c_10
              exact ih.2.2.2.2.2 t_9 li lj H locs ls hR (lv_sub hl [0, 1, 2] rfl) h
            · have hR := hR.2 c_10
              refine lv_aload_n hx hb dX12_complex_101 rfl (lv_at hl 0 rfl) ?_
              refine lv_iconst (v := 1) hx hb dX12_complex_102 (by decide) ?_
              refine lv_aload_n hx hb dX12_complex_103 rfl (lv_at hl 0 rfl) ?_
              refine x_get (ci := 12) (C := RX12) (T := TX12) (N := 31) (v := .int (t_9.1 1)) B h hin12 0 2 rfl rfl (by decide) (by decide +kernel) rfl dX12_complex_104 ?_
              refine x_cVVF (n := 2) (As := [.int 1, .int (t_9.1 1)]) (rest := []) B h (wkX12_fails l D cI cJ cB cZ bd k t_9 1 (t_9.1 1) _ hR) ⟨⟨_, rfl⟩, by decide +kernel, Nat.le_of_ble_eq_true rfl, Nat.le_of_ble_eq_true rfl⟩ gX12_complex_X12_fails (show ((wM cI cJ cB cZ bd t_9) : va_W)[0]? = some (_, .inr (12, _)) from rfl) rfl rfl hl.1 rfl (Nat.le_of_ble_eq_true rfl) dX12_complex_107 ⟨Nat.le_of_ble_eq_true rfl, Nat.le_of_ble_eq_true rfl⟩ (fun t_11 H locs hR h => ?_)
              exact ih.2.2.2.2.2 t_11 li lj H locs ls hR (lv_sub hl [0, 1, 2] rfl) h
        · have hR := hR.2 c_6
          refine lv_aload_n hx hb dX12_complex_40 rfl (lv_at hl 0 rfl) ?_
          refine lv_iload_n hx hb dX12_complex_41 rfl (lv_at hl 1 rfl) ?_
          refine x_cVVF (n := 1) (As := [.int (li 1)]) (rest := []) B h (wkX12_readsFacet l D cI cJ cB cZ bd k t (li 1) _ hR) ⟨⟨_, rfl⟩, by decide +kernel, Nat.le_of_ble_eq_true rfl, Nat.le_of_ble_eq_true rfl⟩ gX12_complex_X12_readsFacet (show ((wM cI cJ cB cZ bd t) : va_W)[0]? = some (_, .inr (12, _)) from rfl) rfl rfl hl.1 rfl (Nat.le_of_ble_eq_true rfl) dX12_complex_42 ⟨Nat.le_of_ble_eq_true rfl, Nat.le_of_ble_eq_true rfl⟩ (fun t_12 H locs hR h => ?_)
          obtain ⟨v_13, ev_13⟩ : ∃ v : Int32, v = (li 1) + Int32.ofInt 1 := ⟨_, rfl⟩
          have hR := hR v_13 ev_13
          refine lv_iinc (v := v_13) (lv' := [(1, .int v_13), (0, .ref (bd 0)), (2, .int (li 2))]) hx hb dX12_complex_45 hl (k := 1) rfl ev_13.symm (by decide) rfl (fun ls hl => ?_)
          refine lv_aload_n hx hb dX12_complex_48 rfl (lv_at hl 1 rfl) ?_
          refine x_cVIF (n := 0) (As := []) (rest := []) B h (wkX12_isRight l D cI cJ cB cZ bd k t_12  _ hR) ⟨⟨_, rfl⟩, by decide +kernel, Nat.le_of_ble_eq_true rfl, Nat.le_of_ble_eq_true rfl⟩ gX12_complex_X12_isRight (show ((wM cI cJ cB cZ bd t_12) : va_W)[0]? = some (_, .inr (12, _)) from rfl) rfl rfl hl.1 rfl (Nat.le_of_ble_eq_true rfl) dX12_complex_49 ⟨Nat.le_of_ble_eq_true rfl, Nat.le_of_ble_eq_true rfl⟩ (fun r_14 t_14 H locs hR h => ?_)
          refine lv_if_eq (tgt := 68) hx hb dX12_complex_52 (by decide) (fun c_15 => ?_) (fun c_15 => ?_)
          · have hR := hR.1 c_15
            exact ih.2.2.2.1 t_14 (uI li 1 v_13) lj H locs ls hR (lv_sub hl [1, 0, 2] rfl) h
          · have hR := hR.2 c_15
            refine lv_aload_n hx hb dX12_complex_55 rfl (lv_at hl 1 rfl) ?_
            refine x_cVIF (n := 0) (As := []) (rest := []) B h (wkX12_byteNow l D cI cJ cB cZ bd k t_14  _ hR) ⟨⟨_, rfl⟩, by decide +kernel, Nat.le_of_ble_eq_true rfl, Nat.le_of_ble_eq_true rfl⟩ gX12_complex_X12_byteNow (show ((wM cI cJ cB cZ bd t_14) : va_W)[0]? = some (_, .inr (12, _)) from rfl) rfl rfl hl.1 rfl (Nat.le_of_ble_eq_true rfl) dX12_complex_56 ⟨Nat.le_of_ble_eq_true rfl, Nat.le_of_ble_eq_true rfl⟩ (fun r_16 t_16 H locs hR h => ?_)
            refine lv_bipush (v := 44) hx hb dX12_complex_59 (by decide) ?_
            refine lv_icmp_ne (tgt := 68) hx hb dX12_complex_61 (by decide) (fun c_17 => ?_) (fun c_17 => ?_)
            · have hR := hR.1 c_17
              exact ih.2.2.2.1 t_16 (uI li 1 v_13) lj H locs ls hR (lv_sub hl [1, 0, 2] rfl) h
            · have hR := hR.2 c_17
              refine lv_iconst (v := 1) hx hb dX12_complex_64 (by decide) ?_
              refine lv_goto (tgt := 69) hx hb dX12_complex_65 (by decide) ?_
              exact ih.2.2.2.2.1 t_16 (uI (uI li 1 v_13) 100 1) lj H locs ls hR (lv_sub hl [1, 0, 2] rfl) h
      · intro t li lj H locs ls hR hl h
        have hR : wbX12_complex_3 (wpX12_complex k) k t li lj Q := hR
        unfold wbX12_complex_3 at hR
        refine lv_iconst (v := 0) hx hb dX12_complex_68 (by decide) ?_
        exact ih.2.2.2.2.1 t (uI li 100 0) lj H locs ls hR (lv_sub hl [0, 1, 2] rfl) h
      · intro t li lj H locs ls hR hl h
        have hR : wbX12_complex_4 (wpX12_complex k) k t li lj Q := hR
        unfold wbX12_complex_4 at hR
        refine lv_istore_n (lv' := [(2, .int (li 100)), (0, .ref (bd 0)), (1, .int (li 1))]) hx hb dX12_complex_69 rfl hl (by decide) rfl (fun ls hl => ?_)
        refine lv_aload_n hx hb dX12_complex_70 rfl (lv_at hl 1 rfl) ?_
        refine lv_dup hx hb dX12_complex_71 rfl ?_
        refine x_get (ci := 12) (C := RX12) (T := TX12) (N := 31) (v := .int (t.1 1)) B h hin12 0 2 rfl rfl (by decide) (by decide +kernel) rfl dX12_complex_72 ?_
        refine lv_iload_n hx hb dX12_complex_75 rfl (lv_at hl 0 rfl) ?_
        refine x_cSIE (n := 1) (As := [.int (li 100)]) (rest := [.int (t.1 1), .ref (bd 0)]) B h (wkX12_truth l D cI cJ cB cZ bd k (li 100) _ hR) ⟨⟨_, rfl⟩, by decide +kernel, Nat.le_of_ble_eq_true rfl, Nat.le_of_ble_eq_true rfl⟩ gX12_complex_X12_truth rfl hl.1 rfl (Nat.le_of_ble_eq_true rfl) dX12_complex_76 ⟨Nat.le_of_ble_eq_true rfl, Nat.le_of_ble_eq_true rfl⟩ (fun r_18 _ H locs hR h => ?_)
        refine lv_iadd hx hb dX12_complex_79 ?_
        refine lv_topi (fun v_19 ev_19 => ?_)
        have hR := hR v_19 ev_19
        refine x_put (ci := 12) (C := RX12) (T := TX12) (N := 31) (v := .int v_19) (ty := .int) B h hin12 tyX12 tyX12_ok nmX12 0 2 rfl rfl (by decide) (by decide +kernel) rfl rfl rfl rfl (Nat.le_of_ble_eq_true rfl) dX12_complex_80 (fun H locs h => ?_)
        obtain ⟨t_20, et_20⟩ : ∃ v : XT, v = sI t 1 v_19 := ⟨_, rfl⟩
        have hR := hR t_20 et_20
        have h : Hp D A s.heap (wM cI cJ cB cZ bd t_20) H locs := by rw [et_20]; exact h
        refine lv_goto (tgt := 36) hx hb dX12_complex_83 (by decide) ?_
        exact ih.2.2.1 t_20 (uI li 2 (li 100)) lj H locs ls hR (lv_sub hl [1, 2, 0] rfl) h
      · intro t li lj H locs ls hR hl h
        have hR : wbX12_complex_5 (wpX12_complex k) k t li lj Q := hR
        unfold wbX12_complex_5 at hR
        refine lv_aload_n hx hb dX12_complex_110 rfl (lv_at hl 0 rfl) ?_
        refine lv_iconst (v := 0) hx hb dX12_complex_111 (by decide) ?_
        refine x_put (ci := 12) (C := RX12) (T := TX12) (N := 31) (v := .int 0) (ty := .int) B h hin12 tyX12 tyX12_ok nmX12 0 1 rfl rfl (by decide) (by decide +kernel) rfl rfl rfl rfl (Nat.le_of_ble_eq_true rfl) dX12_complex_112 (fun H locs h => ?_)
        obtain ⟨t_21, et_21⟩ : ∃ v : XT, v = sI t 0 0 := ⟨_, rfl⟩
        have hR := hR t_21 et_21
        have h : Hp D A s.heap (wM cI cJ cB cZ bd t_21) H locs := by rw [et_21]; exact h
        refine lv_aload_n hx hb dX12_complex_115 rfl (lv_at hl 0 rfl) ?_
        refine x_cVIF (n := 0) (As := []) (rest := []) B h (wkX12_isRight l D cI cJ cB cZ bd k t_21  _ hR) ⟨⟨_, rfl⟩, by decide +kernel, Nat.le_of_ble_eq_true rfl, Nat.le_of_ble_eq_true rfl⟩ gX12_complex_X12_isRight (show ((wM cI cJ cB cZ bd t_21) : va_W)[0]? = some (_, .inr (12, _)) from rfl) rfl rfl hl.1 rfl (Nat.le_of_ble_eq_true rfl) dX12_complex_116 ⟨Nat.le_of_ble_eq_true rfl, Nat.le_of_ble_eq_true rfl⟩ (fun r_22 t_22 H locs hR h => ?_)
        refine lv_if_ne (tgt := 130) hx hb dX12_complex_119 (by decide) (fun c_23 => ?_) (fun c_23 => ?_)
        · have hR := hR.1 c_23
          refine lv_aload_n hx hb dX12_complex_130 rfl (lv_at hl 0 rfl) ?_
          refine x_cVVF (n := 0) (As := []) (rest := []) B h (wkX12_numbers l D cI cJ cB cZ bd k t_22  _ hR) ⟨⟨_, rfl⟩, by decide +kernel, Nat.le_of_ble_eq_true rfl, Nat.le_of_ble_eq_true rfl⟩ gX12_complex_X12_numbers (show ((wM cI cJ cB cZ bd t_22) : va_W)[0]? = some (_, .inr (12, _)) from rfl) rfl rfl hl.1 rfl (Nat.le_of_ble_eq_true rfl) dX12_complex_131 ⟨Nat.le_of_ble_eq_true rfl, Nat.le_of_ble_eq_true rfl⟩ (fun t_24 H locs hR h => ?_)
          refine lv_aload_n hx hb dX12_complex_134 rfl (lv_at hl 0 rfl) ?_
          refine x_get (ci := 12) (C := RX12) (T := TX12) (N := 31) (v := .int (t_24.1 3)) B h hin12 0 5 rfl rfl (by decide) (by decide +kernel) rfl dX12_complex_135 ?_
          exact x_iret (w1 := (fun u : XT => (wM cI cJ cB cZ bd u))) t_24 B h hr rfl hR dX12_complex_138
        · have hR := hR.2 c_23
          refine lv_bipush (v := (-2)) hx hb dX12_complex_122 (by decide) ?_
          refine lv_aload_n hx hb dX12_complex_124 rfl (lv_at hl 0 rfl) ?_
          refine x_get (ci := 12) (C := RX12) (T := TX12) (N := 31) (v := .int (t_22.1 2)) B h hin12 0 3 rfl rfl (by decide) (by decide +kernel) rfl dX12_complex_125 ?_
          refine lv_isub hx hb dX12_complex_128 ?_
          refine lv_topi (fun v_25 ev_25 => ?_)
          have hR := hR v_25 ev_25
          exact x_iret (w1 := (fun u : XT => (wM cI cJ cB cZ bd u))) t_22 B h hr rfl hR dX12_complex_129
  exact (main k).1 t _ _ s.heap [] ls hR hl h
