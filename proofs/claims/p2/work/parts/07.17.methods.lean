set_option maxRecDepth 20000 in
theorem ggX12_laysWays_X12_isThere : GoodIn wsX12_laysWays wsX12_isThere := goodIn_r _ [9, 10, 11, 12, 13, 8, 14, 1, 15, 16, 17, 54, 55, 56, 57, 58, 59, 60, 61, 62, 63, 64, 65, 66, 67, 68, 69, 70, 71, 72, 73, 74, 75, 76, 77, 78, 79, 80, 81, 82, 83, 84] (by decide +kernel) (by decide +kernel)
set_option maxRecDepth 20000 in
theorem gX12_laysWays_X12_isThere : GoodIn wsX12_laysWays (wsV RX12 156 RX12 yX12_isThere wsX12_isThere) := goodIn_app (goodIn_of _ (by decide +kernel)) ggX12_laysWays_X12_isThere
set_option maxRecDepth 20000 in
theorem ggX12_laysWays_X12_isLower : GoodIn wsX12_laysWays wsX12_isLower := goodIn_r _ [21, 22, 54, 55, 56, 57, 58, 59, 60, 61, 62, 63, 64, 65, 66, 67, 68, 69, 70, 71, 72, 73, 74, 75, 76, 77, 78, 79, 80, 81, 82, 83, 84] (by decide +kernel) (by decide +kernel)
set_option maxRecDepth 20000 in
theorem gX12_laysWays_X12_isLower : GoodIn wsX12_laysWays (wsV RX12 170 RX12 yX12_isLower wsX12_isLower) := goodIn_app (goodIn_of _ (by decide +kernel)) ggX12_laysWays_X12_isLower
set_option maxRecDepth 20000 in
theorem ggX12_laysWays_X12_dimOf : GoodIn wsX12_laysWays wsX12_dimOf := goodIn_r _ [26, 27, 28, 29, 30, 31, 32, 33, 34, 54, 55, 56, 57, 58, 59, 60, 61, 62, 63, 64, 65, 66, 67, 68, 69, 70, 71, 72, 73, 74, 75, 76, 77, 78, 79, 80, 81, 82, 83, 84] (by decide +kernel) (by decide +kernel)
set_option maxRecDepth 20000 in
theorem gX12_laysWays_X12_dimOf : GoodIn wsX12_laysWays (wsV RX12 149 RX12 yX12_dimOf wsX12_dimOf) := goodIn_app (goodIn_of _ (by decide +kernel)) ggX12_laysWays_X12_dimOf
set_option maxRecDepth 20000 in
theorem ggX12_laysWays_X12_truth : GoodIn wsX12_laysWays wsX12_truth := goodIn_r _ [37] (by decide +kernel) (by decide +kernel)
set_option maxRecDepth 20000 in
theorem gX12_laysWays_X12_truth : GoodIn wsX12_laysWays (va_wsS RX12 105 yX12_truth wsX12_truth) := goodIn_app (goodIn_of _ (by decide +kernel)) ggX12_laysWays_X12_truth
set_option maxRecDepth 20000 in
theorem ggX12_laysWays_X12_laysWay : GoodIn wsX12_laysWays wsX12_laysWay := goodIn_r _ [41, 22, 1, 2, 3, 4, 42, 43, 44, 8, 45, 10, 46, 47, 48, 49, 27, 23, 24, 25, 26, 28, 29, 30, 31, 32, 33, 34, 50, 51, 52, 53, 54, 55, 56, 57, 58, 59, 60, 61, 62, 63, 64, 65, 66, 67, 68, 69, 70, 71, 72, 73, 74, 75, 76, 77, 78, 79, 80, 81, 82, 83, 84] (by decide +kernel) (by decide +kernel)
set_option maxRecDepth 20000 in
theorem gX12_laysWays_X12_laysWay : GoodIn wsX12_laysWays (wsV RX12 223 RX12 yX12_laysWay wsX12_laysWay) := goodIn_app (goodIn_of _ (by decide +kernel)) ggX12_laysWays_X12_laysWay
def wbX12_laysWays_0 (rec : Nat → XT → (Nat → Int32) → (Nat → Int64) → (XT → Prop) → Prop) (k : Nat) (t : XT) (li : Nat → Int32) (lj : Nat → Int64) (Q : XT → Prop) : Prop :=
  rec 1 t (uI li 2 0) lj Q
def wbX12_laysWays_1 (rec : Nat → XT → (Nat → Int32) → (Nat → Int64) → (XT → Prop) → Prop) (k : Nat) (t : XT) (li : Nat → Int32) (lj : Nat → Int64) (Q : XT → Prop) : Prop :=
  ((((t.1 3) : Int32) ≤ (li 2)) → rec 7 t (uI li 2 1) lj Q) ∧ (¬ (((t.1 3) : Int32) ≤ (li 2)) → (wqX12_isThere k t (li 2) (fun r_2 t_2 => ((r_2 = 0) → rec 2 t_2 li lj Q) ∧ (¬ (r_2 = 0) → (((li 2) = (li 1)) → rec 2 t_2 li lj Q) ∧ (¬ ((li 2) = (li 1)) → (wqX12_isLower k t_2 (li 2) (fun r_5 t_5 => ((r_5 = 0) → rec 2 t_5 li lj Q) ∧ (¬ (r_5 = 0) → (wqX12_dimOf k t_5 (li 2) (fun r_7 t_7 => (wqX12_dimOf k t_7 (li 1) (fun r_8 t_8 => ((¬ r_7 = r_8) → rec 2 t_8 li lj Q) ∧ ((r_7 = r_8) → rec 3 t_8 (uI li 100 1) lj Q)))))))))))))
def wbX12_laysWays_2 (rec : Nat → XT → (Nat → Int32) → (Nat → Int64) → (XT → Prop) → Prop) (k : Nat) (t : XT) (li : Nat → Int32) (lj : Nat → Int64) (Q : XT → Prop) : Prop :=
  rec 3 t (uI li 100 0) lj Q
def wbX12_laysWays_3 (rec : Nat → XT → (Nat → Int32) → (Nat → Int64) → (XT → Prop) → Prop) (k : Nat) (t : XT) (li : Nat → Int32) (lj : Nat → Int64) (Q : XT → Prop) : Prop :=
  (((li 100) = 0) → ((¬ (li 2) = (li 1)) → rec 4 t (uI (uI (uI li 3 (li 100)) 102 0) 101 (li 2)) lj Q) ∧ (((li 2) = (li 1)) → rec 4 t (uI (uI (uI li 3 (li 100)) 102 1) 101 (li 2)) lj Q)) ∧ (¬ ((li 100) = 0) → rec 5 t (uI (uI li 3 (li 100)) 101 (li 2)) (uI lj 102 (-9223372036854775807)) Q)
def wbX12_laysWays_4 (rec : Nat → XT → (Nat → Int32) → (Nat → Int64) → (XT → Prop) → Prop) (k : Nat) (t : XT) (li : Nat → Int32) (lj : Nat → Int64) (Q : XT → Prop) : Prop :=
  (wqX12_truth k (li 102) (fun r_12 => (∀ v_13 : Int64, v_13 = r_12.toInt64 → rec 5 t (uI li 101 (li 101)) (uI lj 102 v_13) Q)))
def wbX12_laysWays_5 (rec : Nat → XT → (Nat → Int32) → (Nat → Int64) → (XT → Prop) → Prop) (k : Nat) (t : XT) (li : Nat → Int32) (lj : Nat → Int64) (Q : XT → Prop) : Prop :=
  (vp_in (li 101) 60 ∧ (∀ t_14 : XT, t_14 = sB t 0 (vp_updL (t.2.2.2 0) (li 101).toNatClampNeg (lj 102)) → ((¬ (li 2) = (li 1)) → rec 6 t_14 (uI (uI li 102 0) 101 (li 2)) lj Q) ∧ (((li 2) = (li 1)) → rec 6 t_14 (uI (uI li 102 1) 101 (li 2)) lj Q)))
def wbX12_laysWays_6 (rec : Nat → XT → (Nat → Int32) → (Nat → Int64) → (XT → Prop) → Prop) (k : Nat) (t : XT) (li : Nat → Int32) (lj : Nat → Int64) (Q : XT → Prop) : Prop :=
  (wqX12_truth k (li 102) (fun r_16 => (∀ v_17 : Int64, v_17 = r_16.toInt64 → (vp_in (li 101) 60 ∧ (∀ t_18 : XT, t_18 = sB t 1 (vp_updL (t.2.2.2 1) (li 101).toNatClampNeg v_17) → (∀ v_19 : Int32, v_19 = (li 2) + Int32.ofInt 1 → rec 1 t_18 (uI li 2 v_19) lj Q))))))
def wbX12_laysWays_7 (rec : Nat → XT → (Nat → Int32) → (Nat → Int64) → (XT → Prop) → Prop) (k : Nat) (t : XT) (li : Nat → Int32) (lj : Nat → Int64) (Q : XT → Prop) : Prop :=
  (((li 2) = 0) → Q t) ∧ (¬ ((li 2) = 0) → rec 8 t (uI (uI li 2 0) 3 0) lj Q)
def wbX12_laysWays_8 (rec : Nat → XT → (Nat → Int32) → (Nat → Int64) → (XT → Prop) → Prop) (k : Nat) (t : XT) (li : Nat → Int32) (lj : Nat → Int64) (Q : XT → Prop) : Prop :=
  ((((t.1 3) : Int32) ≤ (li 3)) → rec 7 t li lj Q) ∧ (¬ (((t.1 3) : Int32) ≤ (li 3)) → (vp_in (li 3) 60 ∧ (∀ v_22 : Int64, v_22 = (t.2.2.2 0) (li 3).toNatClampNeg → (∀ v_23 : Int32, v_23 = (lg_cmp v_22 (-9223372036854775807)) → ((¬ v_23 = 0) → rec 11 t li lj Q) ∧ ((v_23 = 0) → (wqX12_laysWay k t (li 3) (fun r_25 t_25 => ((¬ r_25 = 0) → rec 9 t_25 li lj Q) ∧ ((r_25 = 0) → (((li 2) = 0) → rec 10 t_25 (uI li 100 0) lj Q) ∧ (¬ ((li 2) = 0) → rec 9 t_25 li lj Q)))))))))
def wbX12_laysWays_9 (rec : Nat → XT → (Nat → Int32) → (Nat → Int64) → (XT → Prop) → Prop) (k : Nat) (t : XT) (li : Nat → Int32) (lj : Nat → Int64) (Q : XT → Prop) : Prop :=
  rec 10 t (uI li 100 1) lj Q
def wbX12_laysWays_10 (rec : Nat → XT → (Nat → Int32) → (Nat → Int64) → (XT → Prop) → Prop) (k : Nat) (t : XT) (li : Nat → Int32) (lj : Nat → Int64) (Q : XT → Prop) : Prop :=
  rec 11 t (uI li 2 (li 100)) lj Q
def wbX12_laysWays_11 (rec : Nat → XT → (Nat → Int32) → (Nat → Int64) → (XT → Prop) → Prop) (k : Nat) (t : XT) (li : Nat → Int32) (lj : Nat → Int64) (Q : XT → Prop) : Prop :=
  (∀ v_28 : Int32, v_28 = (li 3) + Int32.ofInt 1 → rec 8 t (uI li 3 v_28) lj Q)
def wpX12_laysWays : Nat → Nat → XT → (Nat → Int32) → (Nat → Int64) → (XT → Prop) → Prop
  | 0, _, _, _, _, _ => False
  | k + 1, 0, t, li, lj, Q => wbX12_laysWays_0 (wpX12_laysWays k) k t li lj Q
  | k + 1, 1, t, li, lj, Q => wbX12_laysWays_1 (wpX12_laysWays k) k t li lj Q
  | k + 1, 2, t, li, lj, Q => wbX12_laysWays_2 (wpX12_laysWays k) k t li lj Q
  | k + 1, 3, t, li, lj, Q => wbX12_laysWays_3 (wpX12_laysWays k) k t li lj Q
  | k + 1, 4, t, li, lj, Q => wbX12_laysWays_4 (wpX12_laysWays k) k t li lj Q
  | k + 1, 5, t, li, lj, Q => wbX12_laysWays_5 (wpX12_laysWays k) k t li lj Q
  | k + 1, 6, t, li, lj, Q => wbX12_laysWays_6 (wpX12_laysWays k) k t li lj Q
  | k + 1, 7, t, li, lj, Q => wbX12_laysWays_7 (wpX12_laysWays k) k t li lj Q
  | k + 1, 8, t, li, lj, Q => wbX12_laysWays_8 (wpX12_laysWays k) k t li lj Q
  | k + 1, 9, t, li, lj, Q => wbX12_laysWays_9 (wpX12_laysWays k) k t li lj Q
  | k + 1, 10, t, li, lj, Q => wbX12_laysWays_10 (wpX12_laysWays k) k t li lj Q
  | k + 1, 11, t, li, lj, Q => wbX12_laysWays_11 (wpX12_laysWays k) k t li lj Q
  | _ + 1, _, _, _, _, _ => False
def wqX12_laysWays (k : Nat) (t : XT) (a1 : Int32) (Q : XT → Prop) : Prop := wpX12_laysWays k 0 t (uI (fun _ => 0) 1 a1) (fun _ => 0) Q
set_option maxHeartbeats 8000000 in
set_option maxRecDepth 100000 in
theorem wkX12_laysWays (l : Launch) (D : va_G) (cI cJ cB cZ : ClassId) (bd : Nat → Nat) (k : Nat) (t : XT) (a1 : Int32) (Q : XT → Prop) (hR : wqX12_laysWays k t a1 Q) : MetV l yX12_laysWays wsX12_laysWays 5 112 0 0 D (TYS cI cJ cB cZ) (wM cI cJ cB cZ bd t) [.ref (bd 0), .int a1] (fun u => Q u) (fun u : XT => (wM cI cJ cB cZ bd u)) := by
  refine x_startV (ty := .int) (cc := cX12_laysWays) (by decide) rfl (Nat.le_of_ble_eq_true rfl) ?_
  intro p e s m args below meth c A ls B hr hnm h hl
  have hx := B.1.1
  have hb := B.1.2.1
  have hml := B.1.2.2.1
  have hts := B.1.2.2.2.2
  have hown : s.vm.findClass RX12 = some m.cls := B.1.2.2.2.1
  have hin12 : ∀ w ∈ u_ws RX12 TX12 31, w ∈ wsX12_laysWays := by decide +kernel
  have main : ∀ k : Nat, (∀ (t : XT) (li : Nat → Int32) (lj : Nat → Int64) (H : Heap) (locs : List Loc) (ls : Array Slot), wpX12_laysWays k 0 t li lj Q → lv_has ls 4 [(0, .ref (bd 0)), (1, .int (li 1))] → Hp D A s.heap (wM cI cJ cB cZ bd t) H locs → W p l e { frames := 5, cells := 0, slots := 0, locals := 112 } s m args below meth c H locs 0 0 (MQ below (va_Qv (fun u => Q u) (fun u t => xEnd D ((fun u : XT => (wM cI cJ cB cZ bd u)) u) A t) A) args s 0 0 A) (F0 m 0 ls [])) ∧
      (∀ (t : XT) (li : Nat → Int32) (lj : Nat → Int64) (H : Heap) (locs : List Loc) (ls : Array Slot), wpX12_laysWays k 1 t li lj Q → lv_has ls 4 [(0, .ref (bd 0)), (1, .int (li 1)), (2, .int (li 2))] → Hp D A s.heap (wM cI cJ cB cZ bd t) H locs → W p l e { frames := 5, cells := 0, slots := 0, locals := 112 } s m args below meth c H locs 0 0 (MQ below (va_Qv (fun u => Q u) (fun u t => xEnd D ((fun u : XT => (wM cI cJ cB cZ bd u)) u) A t) A) args s 0 0 A) (F0 m 2 ls [])) ∧
      (∀ (t : XT) (li : Nat → Int32) (lj : Nat → Int64) (H : Heap) (locs : List Loc) (ls : Array Slot), wpX12_laysWays k 2 t li lj Q → lv_has ls 4 [(0, .ref (bd 0)), (1, .int (li 1)), (2, .int (li 2))] → Hp D A s.heap (wM cI cJ cB cZ bd t) H locs → W p l e { frames := 5, cells := 0, slots := 0, locals := 112 } s m args below meth c H locs 0 0 (MQ below (va_Qv (fun u => Q u) (fun u t => xEnd D ((fun u : XT => (wM cI cJ cB cZ bd u)) u) A t) A) args s 0 0 A) (F0 m 48 ls [])) ∧
      (∀ (t : XT) (li : Nat → Int32) (lj : Nat → Int64) (H : Heap) (locs : List Loc) (ls : Array Slot), wpX12_laysWays k 3 t li lj Q → lv_has ls 4 [(0, .ref (bd 0)), (1, .int (li 1)), (2, .int (li 2))] → Hp D A s.heap (wM cI cJ cB cZ bd t) H locs → W p l e { frames := 5, cells := 0, slots := 0, locals := 112 } s m args below meth c H locs 0 0 (MQ below (va_Qv (fun u => Q u) (fun u t => xEnd D ((fun u : XT => (wM cI cJ cB cZ bd u)) u) A t) A) args s 0 0 A) (F0 m 49 ls [.int (li 100)])) ∧
      (∀ (t : XT) (li : Nat → Int32) (lj : Nat → Int64) (H : Heap) (locs : List Loc) (ls : Array Slot), wpX12_laysWays k 4 t li lj Q → lv_has ls 4 [(0, .ref (bd 0)), (1, .int (li 1)), (2, .int (li 2)), (3, .int (li 3))] → Hp D A s.heap (wM cI cJ cB cZ bd t) H locs → W p l e { frames := 5, cells := 0, slots := 0, locals := 112 } s m args below meth c H locs 0 0 (MQ below (va_Qv (fun u => Q u) (fun u t => xEnd D ((fun u : XT => (wM cI cJ cB cZ bd u)) u) A t) A) args s 0 0 A) (F0 m 75 ls [.int (li 102), .int (li 101), .ref (bd 11)])) ∧
      (∀ (t : XT) (li : Nat → Int32) (lj : Nat → Int64) (H : Heap) (locs : List Loc) (ls : Array Slot), wpX12_laysWays k 5 t li lj Q → lv_has ls 4 [(0, .ref (bd 0)), (1, .int (li 1)), (2, .int (li 2)), (3, .int (li 3))] → Hp D A s.heap (wM cI cJ cB cZ bd t) H locs → W p l e { frames := 5, cells := 0, slots := 0, locals := 112 } s m args below meth c H locs 0 0 (MQ below (va_Qv (fun u => Q u) (fun u t => xEnd D ((fun u : XT => (wM cI cJ cB cZ bd u)) u) A t) A) args s 0 0 A) (F0 m 79 ls [.long (lj 102), .int (li 101), .ref (bd 11)])) ∧
      (∀ (t : XT) (li : Nat → Int32) (lj : Nat → Int64) (H : Heap) (locs : List Loc) (ls : Array Slot), wpX12_laysWays k 6 t li lj Q → lv_has ls 4 [(0, .ref (bd 0)), (1, .int (li 1)), (2, .int (li 2)), (3, .int (li 3))] → Hp D A s.heap (wM cI cJ cB cZ bd t) H locs → W p l e { frames := 5, cells := 0, slots := 0, locals := 112 } s m args below meth c H locs 0 0 (MQ below (va_Qv (fun u => Q u) (fun u t => xEnd D ((fun u : XT => (wM cI cJ cB cZ bd u)) u) A t) A) args s 0 0 A) (F0 m 95 ls [.int (li 102), .int (li 101), .ref (bd 12)])) ∧
      (∀ (t : XT) (li : Nat → Int32) (lj : Nat → Int64) (H : Heap) (locs : List Loc) (ls : Array Slot), wpX12_laysWays k 7 t li lj Q → lv_has ls 4 [(0, .ref (bd 0)), (1, .int (li 1)), (2, .int (li 2))] → Hp D A s.heap (wM cI cJ cB cZ bd t) H locs → W p l e { frames := 5, cells := 0, slots := 0, locals := 112 } s m args below meth c H locs 0 0 (MQ below (va_Qv (fun u => Q u) (fun u t => xEnd D ((fun u : XT => (wM cI cJ cB cZ bd u)) u) A t) A) args s 0 0 A) (F0 m 108 ls [])) ∧
      (∀ (t : XT) (li : Nat → Int32) (lj : Nat → Int64) (H : Heap) (locs : List Loc) (ls : Array Slot), wpX12_laysWays k 8 t li lj Q → lv_has ls 4 [(0, .ref (bd 0)), (1, .int (li 1)), (2, .int (li 2)), (3, .int (li 3))] → Hp D A s.heap (wM cI cJ cB cZ bd t) H locs → W p l e { frames := 5, cells := 0, slots := 0, locals := 112 } s m args below meth c H locs 0 0 (MQ below (va_Qv (fun u => Q u) (fun u t => xEnd D ((fun u : XT => (wM cI cJ cB cZ bd u)) u) A t) A) args s 0 0 A) (F0 m 116 ls [])) ∧
      (∀ (t : XT) (li : Nat → Int32) (lj : Nat → Int64) (H : Heap) (locs : List Loc) (ls : Array Slot), wpX12_laysWays k 9 t li lj Q → lv_has ls 4 [(0, .ref (bd 0)), (1, .int (li 1)), (2, .int (li 2)), (3, .int (li 3))] → Hp D A s.heap (wM cI cJ cB cZ bd t) H locs → W p l e { frames := 5, cells := 0, slots := 0, locals := 112 } s m args below meth c H locs 0 0 (MQ below (va_Qv (fun u => Q u) (fun u t => xEnd D ((fun u : XT => (wM cI cJ cB cZ bd u)) u) A t) A) args s 0 0 A) (F0 m 149 ls [])) ∧
      (∀ (t : XT) (li : Nat → Int32) (lj : Nat → Int64) (H : Heap) (locs : List Loc) (ls : Array Slot), wpX12_laysWays k 10 t li lj Q → lv_has ls 4 [(0, .ref (bd 0)), (1, .int (li 1)), (2, .int (li 2)), (3, .int (li 3))] → Hp D A s.heap (wM cI cJ cB cZ bd t) H locs → W p l e { frames := 5, cells := 0, slots := 0, locals := 112 } s m args below meth c H locs 0 0 (MQ below (va_Qv (fun u => Q u) (fun u t => xEnd D ((fun u : XT => (wM cI cJ cB cZ bd u)) u) A t) A) args s 0 0 A) (F0 m 154 ls [.int (li 100)])) ∧
      (∀ (t : XT) (li : Nat → Int32) (lj : Nat → Int64) (H : Heap) (locs : List Loc) (ls : Array Slot), wpX12_laysWays k 11 t li lj Q → lv_has ls 4 [(0, .ref (bd 0)), (1, .int (li 1)), (2, .int (li 2)), (3, .int (li 3))] → Hp D A s.heap (wM cI cJ cB cZ bd t) H locs → W p l e { frames := 5, cells := 0, slots := 0, locals := 112 } s m args below meth c H locs 0 0 (MQ below (va_Qv (fun u => Q u) (fun u t => xEnd D ((fun u : XT => (wM cI cJ cB cZ bd u)) u) A t) A) args s 0 0 A) (F0 m 155 ls [])) := by
    intro k
    induction k with
    | zero => exact ⟨fun _ _ _ _ _ _ hR => False.elim hR, fun _ _ _ _ _ _ hR => False.elim hR, fun _ _ _ _ _ _ hR => False.elim hR, fun _ _ _ _ _ _ hR => False.elim hR, fun _ _ _ _ _ _ hR => False.elim hR, fun _ _ _ _ _ _ hR => False.elim hR, fun _ _ _ _ _ _ hR => False.elim hR, fun _ _ _ _ _ _ hR => False.elim hR, fun _ _ _ _ _ _ hR => False.elim hR, fun _ _ _ _ _ _ hR => False.elim hR, fun _ _ _ _ _ _ hR => False.elim hR, fun _ _ _ _ _ _ hR => False.elim hR⟩
    | succ k ih =>
      refine ⟨?_, ?_, ?_, ?_, ?_, ?_, ?_, ?_, ?_, ?_, ?_, ?_⟩
      · intro t li lj H locs ls hR hl h
        have hR : wbX12_laysWays_0 (wpX12_laysWays k) k t li lj Q := hR
        unfold wbX12_laysWays_0 at hR
        refine lv_iconst (v := 0) hx hb dX12_laysWays_0 (by decide) ?_
        refine lv_istore_n (lv' := [(2, .int 0), (0, .ref (bd 0)), (1, .int (li 1))]) hx hb dX12_laysWays_1 rfl hl (by decide) rfl (fun ls hl => ?_)
        exact ih.2.1 t (uI li 2 0) lj H locs ls hR (lv_sub hl [1, 2, 0] rfl) h
      · intro t li lj H locs ls hR hl h
        have hR : wbX12_laysWays_1 (wpX12_laysWays k) k t li lj Q := hR
        unfold wbX12_laysWays_1 at hR
        refine lv_iload_n hx hb dX12_laysWays_2 rfl (lv_at hl 2 rfl) ?_
        refine lv_aload_n hx hb dX12_laysWays_3 rfl (lv_at hl 0 rfl) ?_
        refine x_get (ci := 12) (C := RX12) (T := TX12) (N := 31) (v := .int (t.1 3)) B h hin12 0 5 rfl rfl (by decide) (by decide +kernel) rfl dX12_laysWays_4 ?_
        refine lv_icmp_ge (tgt := 106) hx hb dX12_laysWays_7 (by decide) (fun c_1 => ?_) (fun c_1 => ?_)
        · have hR := hR.1 c_1
          refine lv_iconst (v := 1) hx hb dX12_laysWays_106 (by decide) ?_
          refine lv_istore_n (lv' := [(2, .int 1), (0, .ref (bd 0)), (1, .int (li 1))]) hx hb dX12_laysWays_107 rfl hl (by decide) rfl (fun ls hl => ?_)
          exact ih.2.2.2.2.2.2.2.1 t (uI li 2 1) lj H locs ls hR (lv_sub hl [1, 2, 0] rfl) h
        · have hR := hR.2 c_1
          refine lv_aload_n hx hb dX12_laysWays_10 rfl (lv_at hl 0 rfl) ?_
          refine lv_iload_n hx hb dX12_laysWays_11 rfl (lv_at hl 2 rfl) ?_
          refine x_cVIF (n := 1) (As := [.int (li 2)]) (rest := []) B h (wkX12_isThere l D cI cJ cB cZ bd k t (li 2) _ hR) ⟨⟨_, rfl⟩, by decide +kernel, Nat.le_of_ble_eq_true rfl, Nat.le_of_ble_eq_true rfl⟩ gX12_laysWays_X12_isThere (show ((wM cI cJ cB cZ bd t) : va_W)[0]? = some (_, .inr (12, _)) from rfl) rfl rfl hl.1 rfl (Nat.le_of_ble_eq_true rfl) dX12_laysWays_12 ⟨Nat.le_of_ble_eq_true rfl, Nat.le_of_ble_eq_true rfl⟩ (fun r_2 t_2 H locs hR h => ?_)
          refine lv_if_eq (tgt := 48) hx hb dX12_laysWays_15 (by decide) (fun c_3 => ?_) (fun c_3 => ?_)
          · have hR := hR.1 c_3
            exact ih.2.2.1 t_2 li lj H locs ls hR (lv_sub hl [0, 1, 2] rfl) h
          · have hR := hR.2 c_3
            refine lv_iload_n hx hb dX12_laysWays_18 rfl (lv_at hl 2 rfl) ?_
            refine lv_iload_n hx hb dX12_laysWays_19 rfl (lv_at hl 1 rfl) ?_
            refine lv_icmp_eq (tgt := 48) hx hb dX12_laysWays_20 (by decide) (fun c_4 => ?_) (fun c_4 => ?_)
            · have hR := hR.1 c_4
              exact ih.2.2.1 t_2 li lj H locs ls hR (lv_sub hl [0, 1, 2] rfl) h
            · have hR := hR.2 c_4
              refine lv_aload_n hx hb dX12_laysWays_23 rfl (lv_at hl 0 rfl) ?_
              refine lv_iload_n hx hb dX12_laysWays_24 rfl (lv_at hl 2 rfl) ?_
              refine x_cVIF (n := 1) (As := [.int (li 2)]) (rest := []) B h (wkX12_isLower l D cI cJ cB cZ bd k t_2 (li 2) _ hR) ⟨⟨_, rfl⟩, by decide +kernel, Nat.le_of_ble_eq_true rfl, Nat.le_of_ble_eq_true rfl⟩ gX12_laysWays_X12_isLower (show ((wM cI cJ cB cZ bd t_2) : va_W)[0]? = some (_, .inr (12, _)) from rfl) rfl rfl hl.1 rfl (Nat.le_of_ble_eq_true rfl) dX12_laysWays_25 ⟨Nat.le_of_ble_eq_true rfl, Nat.le_of_ble_eq_true rfl⟩ (fun r_5 t_5 H locs hR h => ?_)
              refine lv_if_eq (tgt := 48) hx hb dX12_laysWays_28 (by decide) (fun c_6 => ?_) (fun c_6 => ?_)
              · have hR := hR.1 c_6
                exact ih.2.2.1 t_5 li lj H locs ls hR (lv_sub hl [0, 1, 2] rfl) h
              · have hR := hR.2 c_6
                refine lv_aload_n hx hb dX12_laysWays_31 rfl (lv_at hl 0 rfl) ?_
                refine lv_iload_n hx hb dX12_laysWays_32 rfl (lv_at hl 2 rfl) ?_
                refine x_cVIF (n := 1) (As := [.int (li 2)]) (rest := []) B h (wkX12_dimOf l D cI cJ cB cZ bd k t_5 (li 2) _ hR) ⟨⟨_, rfl⟩, by decide +kernel, Nat.le_of_ble_eq_true rfl, Nat.le_of_ble_eq_true rfl⟩ gX12_laysWays_X12_dimOf (show ((wM cI cJ cB cZ bd t_5) : va_W)[0]? = some (_, .inr (12, _)) from rfl) rfl rfl hl.1 rfl (Nat.le_of_ble_eq_true rfl) dX12_laysWays_33 ⟨Nat.le_of_ble_eq_true rfl, Nat.le_of_ble_eq_true rfl⟩ (fun r_7 t_7 H locs hR h => ?_)
                refine lv_aload_n hx hb dX12_laysWays_36 rfl (lv_at hl 0 rfl) ?_
                refine lv_iload_n hx hb dX12_laysWays_37 rfl (lv_at hl 1 rfl) ?_
                refine x_cVIF (n := 1) (As := [.int (li 1)]) (rest := [.int r_7]) B h (wkX12_dimOf l D cI cJ cB cZ bd k t_7 (li 1) _ hR) ⟨⟨_, rfl⟩, by decide +kernel, Nat.le_of_ble_eq_true rfl, Nat.le_of_ble_eq_true rfl⟩ gX12_laysWays_X12_dimOf (show ((wM cI cJ cB cZ bd t_7) : va_W)[0]? = some (_, .inr (12, _)) from rfl) rfl rfl hl.1 rfl (Nat.le_of_ble_eq_true rfl) dX12_laysWays_38 ⟨Nat.le_of_ble_eq_true rfl, Nat.le_of_ble_eq_true rfl⟩ (fun r_8 t_8 H locs hR h => ?_)
                refine lv_icmp_ne (tgt := 48) hx hb dX12_laysWays_41 (by decide) (fun c_9 => ?_) (fun c_9 => ?_)
                · have hR := hR.1 c_9
                  exact ih.2.2.1 t_8 li lj H locs ls hR (lv_sub hl [0, 1, 2] rfl) h
                · have hR := hR.2 c_9
                  refine lv_iconst (v := 1) hx hb dX12_laysWays_44 (by decide) ?_
                  refine lv_goto (tgt := 49) hx hb dX12_laysWays_45 (by decide) ?_
                  exact ih.2.2.2.1 t_8 (uI li 100 1) lj H locs ls hR (lv_sub hl [0, 1, 2] rfl) h
      · intro t li lj H locs ls hR hl h
        have hR : wbX12_laysWays_2 (wpX12_laysWays k) k t li lj Q := hR
        unfold wbX12_laysWays_2 at hR
        refine lv_iconst (v := 0) hx hb dX12_laysWays_48 (by decide) ?_
        exact ih.2.2.2.1 t (uI li 100 0) lj H locs ls hR (lv_sub hl [0, 1, 2] rfl) h
      · intro t li lj H locs ls hR hl h
        have hR : wbX12_laysWays_3 (wpX12_laysWays k) k t li lj Q := hR
        unfold wbX12_laysWays_3 at hR
        refine lv_istore_n (lv' := [(3, .int (li 100)), (0, .ref (bd 0)), (1, .int (li 1)), (2, .int (li 2))]) hx hb dX12_laysWays_49 rfl hl (by decide) rfl (fun ls hl => ?_)
        refine lv_aload_n hx hb dX12_laysWays_50 rfl (lv_at hl 1 rfl) ?_
        refine x_get (ci := 12) (C := RX12) (T := TX12) (N := 31) (v := .ref (bd 11)) B h hin12 0 15 rfl rfl (by decide) (by decide +kernel) rfl dX12_laysWays_51 ?_
        refine lv_iload_n hx hb dX12_laysWays_54 rfl (lv_at hl 3 rfl) ?_
        refine lv_iload_n hx hb dX12_laysWays_55 rfl (lv_at hl 0 rfl) ?_
        refine lv_if_eq (tgt := 65) hx hb dX12_laysWays_56 (by decide) (fun c_10 => ?_) (fun c_10 => ?_)
        · have hR := hR.1 c_10
          refine lv_iload_n hx hb dX12_laysWays_65 rfl (lv_at hl 3 rfl) ?_
          refine lv_iload_n hx hb dX12_laysWays_66 rfl (lv_at hl 2 rfl) ?_
          refine lv_icmp_ne (tgt := 74) hx hb dX12_laysWays_67 (by decide) (fun c_11 => ?_) (fun c_11 => ?_)
          · have hR := hR.1 c_11
            refine lv_iconst (v := 0) hx hb dX12_laysWays_74 (by decide) ?_
            exact ih.2.2.2.2.1 t (uI (uI (uI li 3 (li 100)) 102 0) 101 (li 2)) lj H locs ls hR (lv_sub hl [1, 2, 3, 0] rfl) h
          · have hR := hR.2 c_11
            refine lv_iconst (v := 1) hx hb dX12_laysWays_70 (by decide) ?_
            refine lv_goto (tgt := 75) hx hb dX12_laysWays_71 (by decide) ?_
            exact ih.2.2.2.2.1 t (uI (uI (uI li 3 (li 100)) 102 1) 101 (li 2)) lj H locs ls hR (lv_sub hl [1, 2, 3, 0] rfl) h
        · have hR := hR.2 c_10
          refine lv_ldc2 (v := (-9223372036854775807)) hx hb hown (hts (.constantLong RX12 221 (-9223372036854775807)) (by decide +kernel)) dX12_laysWays_59 ?_
          refine lv_goto (tgt := 79) hx hb dX12_laysWays_62 (by decide) ?_
          exact ih.2.2.2.2.2.1 t (uI (uI li 3 (li 100)) 101 (li 2)) (uI lj 102 (-9223372036854775807)) H locs ls hR (lv_sub hl [1, 2, 3, 0] rfl) h
      · intro t li lj H locs ls hR hl h
        have hR : wbX12_laysWays_4 (wpX12_laysWays k) k t li lj Q := hR
        unfold wbX12_laysWays_4 at hR
        refine x_cSIE (n := 1) (As := [.int (li 102)]) (rest := [.int (li 101), .ref (bd 11)]) B h (wkX12_truth l D cI cJ cB cZ bd k (li 102) _ hR) ⟨⟨_, rfl⟩, by decide +kernel, Nat.le_of_ble_eq_true rfl, Nat.le_of_ble_eq_true rfl⟩ gX12_laysWays_X12_truth rfl hl.1 rfl (Nat.le_of_ble_eq_true rfl) dX12_laysWays_75 ⟨Nat.le_of_ble_eq_true rfl, Nat.le_of_ble_eq_true rfl⟩ (fun r_12 _ H locs hR h => ?_)
        obtain ⟨v_13, ev_13⟩ : ∃ v : Int64, v = r_12.toInt64 := ⟨_, rfl⟩
        have hR := hR v_13 ev_13
        refine lv_i2l (v := v_13) hx hb dX12_laysWays_78 ev_13.symm ?_
        exact ih.2.2.2.2.2.1 t (uI li 101 (li 101)) (uI lj 102 v_13) H locs ls hR (lv_sub hl [0, 1, 2, 3] rfl) h
      · intro t li lj H locs ls hR hl h
        have hR : wbX12_laysWays_5 (wpX12_laysWays k) k t li lj Q := hR
        unfold wbX12_laysWays_5 at hR
        obtain ⟨hb_14, hR⟩ := hR
        refine z_last (f := (t.2.2.2 0)) B h 11 1 rfl rfl hb_14 dX12_laysWays_79 (fun H locs h => ?_)
        obtain ⟨t_14, et_14⟩ : ∃ v : XT, v = sB t 0 (vp_updL (t.2.2.2 0) (li 101).toNatClampNeg (lj 102)) := ⟨_, rfl⟩
        have hR := hR t_14 et_14
        have h : Hp D A s.heap (wM cI cJ cB cZ bd t_14) H locs := by rw [et_14]; exact h
        refine lv_aload_n hx hb dX12_laysWays_80 rfl (lv_at hl 0 rfl) ?_
        refine x_get (ci := 12) (C := RX12) (T := TX12) (N := 31) (v := .ref (bd 12)) B h hin12 0 16 rfl rfl (by decide) (by decide +kernel) rfl dX12_laysWays_81 ?_
        refine lv_iload_n hx hb dX12_laysWays_84 rfl (lv_at hl 2 rfl) ?_
        refine lv_iload_n hx hb dX12_laysWays_85 rfl (lv_at hl 2 rfl) ?_
        refine lv_iload_n hx hb dX12_laysWays_86 rfl (lv_at hl 1 rfl) ?_
        refine lv_icmp_ne (tgt := 94) hx hb dX12_laysWays_87 (by decide) (fun c_15 => ?_) (fun c_15 => ?_)
        · have hR := hR.1 c_15
          refine lv_iconst (v := 0) hx hb dX12_laysWays_94 (by decide) ?_
          exact ih.2.2.2.2.2.2.1 t_14 (uI (uI li 102 0) 101 (li 2)) lj H locs ls hR (lv_sub hl [0, 1, 2, 3] rfl) h
        · have hR := hR.2 c_15
          refine lv_iconst (v := 1) hx hb dX12_laysWays_90 (by decide) ?_
          refine lv_goto (tgt := 95) hx hb dX12_laysWays_91 (by decide) ?_
          exact ih.2.2.2.2.2.2.1 t_14 (uI (uI li 102 1) 101 (li 2)) lj H locs ls hR (lv_sub hl [0, 1, 2, 3] rfl) h
      · intro t li lj H locs ls hR hl h
        have hR : wbX12_laysWays_6 (wpX12_laysWays k) k t li lj Q := hR
        unfold wbX12_laysWays_6 at hR
        refine x_cSIE (n := 1) (As := [.int (li 102)]) (rest := [.int (li 101), .ref (bd 12)]) B h (wkX12_truth l D cI cJ cB cZ bd k (li 102) _ hR) ⟨⟨_, rfl⟩, by decide +kernel, Nat.le_of_ble_eq_true rfl, Nat.le_of_ble_eq_true rfl⟩ gX12_laysWays_X12_truth rfl hl.1 rfl (Nat.le_of_ble_eq_true rfl) dX12_laysWays_95 ⟨Nat.le_of_ble_eq_true rfl, Nat.le_of_ble_eq_true rfl⟩ (fun r_16 _ H locs hR h => ?_)
        obtain ⟨v_17, ev_17⟩ : ∃ v : Int64, v = r_16.toInt64 := ⟨_, rfl⟩
        have hR := hR v_17 ev_17
        refine lv_i2l (v := v_17) hx hb dX12_laysWays_98 ev_17.symm ?_
        obtain ⟨hb_18, hR⟩ := hR
        refine z_last (f := (t.2.2.2 1)) B h 12 1 rfl rfl hb_18 dX12_laysWays_99 (fun H locs h => ?_)
        obtain ⟨t_18, et_18⟩ : ∃ v : XT, v = sB t 1 (vp_updL (t.2.2.2 1) (li 101).toNatClampNeg v_17) := ⟨_, rfl⟩
        have hR := hR t_18 et_18
        have h : Hp D A s.heap (wM cI cJ cB cZ bd t_18) H locs := by rw [et_18]; exact h
        obtain ⟨v_19, ev_19⟩ : ∃ v : Int32, v = (li 2) + Int32.ofInt 1 := ⟨_, rfl⟩
        have hR := hR v_19 ev_19
        refine lv_iinc (v := v_19) (lv' := [(2, .int v_19), (0, .ref (bd 0)), (1, .int (li 1)), (3, .int (li 3))]) hx hb dX12_laysWays_100 hl (k := 2) rfl ev_19.symm (by decide) rfl (fun ls hl => ?_)
        refine lv_goto (tgt := 2) hx hb dX12_laysWays_103 (by decide) ?_
        exact ih.2.1 t_18 (uI li 2 v_19) lj H locs ls hR (lv_sub hl [1, 2, 0] rfl) h
      · intro t li lj H locs ls hR hl h
        have hR : wbX12_laysWays_7 (wpX12_laysWays k) k t li lj Q := hR
        unfold wbX12_laysWays_7 at hR
        refine lv_iload_n hx hb dX12_laysWays_108 rfl (lv_at hl 2 rfl) ?_
        refine lv_if_eq (tgt := 164) hx hb dX12_laysWays_109 (by decide) (fun c_20 => ?_) (fun c_20 => ?_)
        · have hR := hR.1 c_20
          exact x_vret (w1 := (fun u : XT => (wM cI cJ cB cZ bd u))) t B h hr hR dX12_laysWays_164
        · have hR := hR.2 c_20
          refine lv_iconst (v := 0) hx hb dX12_laysWays_112 (by decide) ?_
          refine lv_istore_n (lv' := [(2, .int 0), (0, .ref (bd 0)), (1, .int (li 1))]) hx hb dX12_laysWays_113 rfl hl (by decide) rfl (fun ls hl => ?_)
          refine lv_iconst (v := 0) hx hb dX12_laysWays_114 (by decide) ?_
          refine lv_istore_n (lv' := [(3, .int 0), (2, .int 0), (0, .ref (bd 0)), (1, .int (li 1))]) hx hb dX12_laysWays_115 rfl hl (by decide) rfl (fun ls hl => ?_)
          exact ih.2.2.2.2.2.2.2.2.1 t (uI (uI li 2 0) 3 0) lj H locs ls hR (lv_sub hl [2, 3, 1, 0] rfl) h
      · intro t li lj H locs ls hR hl h
        have hR : wbX12_laysWays_8 (wpX12_laysWays k) k t li lj Q := hR
        unfold wbX12_laysWays_8 at hR
        refine lv_iload_n hx hb dX12_laysWays_116 rfl (lv_at hl 3 rfl) ?_
        refine lv_aload_n hx hb dX12_laysWays_117 rfl (lv_at hl 0 rfl) ?_
        refine x_get (ci := 12) (C := RX12) (T := TX12) (N := 31) (v := .int (t.1 3)) B h hin12 0 5 rfl rfl (by decide) (by decide +kernel) rfl dX12_laysWays_118 ?_
        refine lv_icmp_ge (tgt := 161) hx hb dX12_laysWays_121 (by decide) (fun c_21 => ?_) (fun c_21 => ?_)
        · have hR := hR.1 c_21
          refine lv_goto (tgt := 108) hx hb dX12_laysWays_161 (by decide) ?_
          exact ih.2.2.2.2.2.2.2.1 t li lj H locs ls hR (lv_sub hl [0, 1, 2] rfl) h
        · have hR := hR.2 c_21
          refine lv_aload_n hx hb dX12_laysWays_124 rfl (lv_at hl 0 rfl) ?_
          refine x_get (ci := 12) (C := RX12) (T := TX12) (N := 31) (v := .ref (bd 11)) B h hin12 0 15 rfl rfl (by decide) (by decide +kernel) rfl dX12_laysWays_125 ?_
          refine lv_iload_n hx hb dX12_laysWays_128 rfl (lv_at hl 3 rfl) ?_
          obtain ⟨hb_22, hR⟩ := hR
          refine va_lald (f := (t.2.2.2 0)) hx hb B.2.1 h.1 11 1 rfl rfl hb_22 dX12_laysWays_129 ?_
          refine lv_topl (fun v_22 ev_22 => ?_)
          have hR := hR v_22 ev_22
          refine lv_ldc2 (v := (-9223372036854775807)) hx hb hown (hts (.constantLong RX12 221 (-9223372036854775807)) (by decide +kernel)) dX12_laysWays_130 ?_
          refine W.lcmp hx hb dX12_laysWays_133 ?_
          refine lv_topi (fun v_23 ev_23 => ?_)
          have hR := hR v_23 ev_23
          refine lv_if_ne (tgt := 155) hx hb dX12_laysWays_134 (by decide) (fun c_24 => ?_) (fun c_24 => ?_)
          · have hR := hR.1 c_24
            exact ih.2.2.2.2.2.2.2.2.2.2.2 t li lj H locs ls hR (lv_sub hl [0, 1, 2, 3] rfl) h
          · have hR := hR.2 c_24
            refine lv_aload_n hx hb dX12_laysWays_137 rfl (lv_at hl 0 rfl) ?_
            refine lv_iload_n hx hb dX12_laysWays_138 rfl (lv_at hl 3 rfl) ?_
            refine x_cVIF (n := 1) (As := [.int (li 3)]) (rest := []) B h (wkX12_laysWay l D cI cJ cB cZ bd k t (li 3) _ hR) ⟨⟨_, rfl⟩, by decide +kernel, Nat.le_of_ble_eq_true rfl, Nat.le_of_ble_eq_true rfl⟩ gX12_laysWays_X12_laysWay (show ((wM cI cJ cB cZ bd t) : va_W)[0]? = some (_, .inr (12, _)) from rfl) rfl rfl hl.1 rfl (Nat.le_of_ble_eq_true rfl) dX12_laysWays_139 ⟨Nat.le_of_ble_eq_true rfl, Nat.le_of_ble_eq_true rfl⟩ (fun r_25 t_25 H locs hR h => ?_)
            refine lv_if_ne (tgt := 149) hx hb dX12_laysWays_142 (by decide) (fun c_26 => ?_) (fun c_26 => ?_)
            · have hR := hR.1 c_26
              exact ih.2.2.2.2.2.2.2.2.2.1 t_25 li lj H locs ls hR (lv_sub hl [0, 1, 2, 3] rfl) h
            · have hR := hR.2 c_26
              refine lv_iload_n hx hb dX12_laysWays_145 rfl (lv_at hl 2 rfl) ?_
              refine lv_if_eq (tgt := 153) hx hb dX12_laysWays_146 (by decide) (fun c_27 => ?_) (fun c_27 => ?_)
              · have hR := hR.1 c_27
                refine lv_iconst (v := 0) hx hb dX12_laysWays_153 (by decide) ?_
                exact ih.2.2.2.2.2.2.2.2.2.2.1 t_25 (uI li 100 0) lj H locs ls hR (lv_sub hl [0, 1, 2, 3] rfl) h
              · have hR := hR.2 c_27
                exact ih.2.2.2.2.2.2.2.2.2.1 t_25 li lj H locs ls hR (lv_sub hl [0, 1, 2, 3] rfl) h
      · intro t li lj H locs ls hR hl h
        have hR : wbX12_laysWays_9 (wpX12_laysWays k) k t li lj Q := hR
        unfold wbX12_laysWays_9 at hR
        refine lv_iconst (v := 1) hx hb dX12_laysWays_149 (by decide) ?_
        refine lv_goto (tgt := 154) hx hb dX12_laysWays_150 (by decide) ?_
        exact ih.2.2.2.2.2.2.2.2.2.2.1 t (uI li 100 1) lj H locs ls hR (lv_sub hl [0, 1, 2, 3] rfl) h
      · intro t li lj H locs ls hR hl h
        have hR : wbX12_laysWays_10 (wpX12_laysWays k) k t li lj Q := hR
        unfold wbX12_laysWays_10 at hR
        refine lv_istore_n (lv' := [(2, .int (li 100)), (0, .ref (bd 0)), (1, .int (li 1)), (3, .int (li 3))]) hx hb dX12_laysWays_154 rfl hl (by decide) rfl (fun ls hl => ?_)
        exact ih.2.2.2.2.2.2.2.2.2.2.2 t (uI li 2 (li 100)) lj H locs ls hR (lv_sub hl [1, 2, 0, 3] rfl) h
      · intro t li lj H locs ls hR hl h
        have hR : wbX12_laysWays_11 (wpX12_laysWays k) k t li lj Q := hR
        unfold wbX12_laysWays_11 at hR
        obtain ⟨v_28, ev_28⟩ : ∃ v : Int32, v = (li 3) + Int32.ofInt 1 := ⟨_, rfl⟩
        have hR := hR v_28 ev_28
        refine lv_iinc (v := v_28) (lv' := [(3, .int v_28), (0, .ref (bd 0)), (1, .int (li 1)), (2, .int (li 2))]) hx hb dX12_laysWays_155 hl (k := 3) rfl ev_28.symm (by decide) rfl (fun ls hl => ?_)
        refine lv_goto (tgt := 116) hx hb dX12_laysWays_158 (by decide) ?_
        exact ih.2.2.2.2.2.2.2.2.1 t (uI li 3 v_28) lj H locs ls hR (lv_sub hl [1, 2, 3, 0] rfl) h
  exact (main k).1 t _ _ s.heap [] ls hR hl h
set_option maxRecDepth 20000 in
theorem ggX12_waysFrom_X12_laysWays : GoodIn wsX12_waysFrom wsX12_laysWays := goodIn_r _ [7, 1, 2, 8, 9, 10, 11, 12, 6, 13, 14, 15, 16, 17, 18, 19, 20, 21, 22, 23, 24, 25, 26, 27, 28, 29, 30, 31, 32, 33, 34, 35, 36, 37, 38, 39, 40, 41, 42, 43, 44, 45, 46, 47, 48, 49, 50, 51, 52, 53, 54, 55, 56, 57, 58, 59, 60, 61, 62, 63, 64, 65, 66, 67, 68, 69, 70, 71, 72, 73, 74, 75, 76, 77, 78, 79, 80, 81, 82, 83, 84, 85, 86, 87, 88] (by decide +kernel) (by decide +kernel)
set_option maxRecDepth 20000 in
theorem gX12_waysFrom_X12_laysWays : GoodIn wsX12_waysFrom (wsV RX12 226 RX12 yX12_laysWays wsX12_laysWays) := goodIn_app (goodIn_of _ (by decide +kernel)) ggX12_waysFrom_X12_laysWays
set_option maxRecDepth 20000 in
theorem ggX12_waysFrom_X12_isFaceThere : GoodIn wsX12_waysFrom wsX12_isFaceThere := goodIn_r _ [49, 14, 50, 51, 52, 6, 53, 31, 27, 28, 29, 30, 32, 33, 34, 35, 36, 37, 38, 58, 59, 60, 61, 62, 63, 64, 65, 66, 67, 68, 69, 70, 71, 72, 73, 74, 75, 76, 77, 78, 79, 80, 81, 82, 83, 84, 85, 86, 87, 88] (by decide +kernel) (by decide +kernel)
set_option maxRecDepth 20000 in
theorem gX12_waysFrom_X12_isFaceThere : GoodIn wsX12_waysFrom (wsV RX12 162 RX12 yX12_isFaceThere wsX12_isFaceThere) := goodIn_app (goodIn_of _ (by decide +kernel)) ggX12_waysFrom_X12_isFaceThere
def wbX12_waysFrom_0 (rec : Nat → XT → (Nat → Int32) → (Nat → Int64) → (Int64 → XT → Prop) → Prop) (k : Nat) (t : XT) (li : Nat → Int32) (lj : Nat → Int64) (Q : Int64 → XT → Prop) : Prop :=
  (wqX12_laysWays k t (li 2) (fun t_1 => rec 1 t_1 (uI li 5 0) (uI lj 3 0) Q))
def wbX12_waysFrom_1 (rec : Nat → XT → (Nat → Int32) → (Nat → Int64) → (Int64 → XT → Prop) → Prop) (k : Nat) (t : XT) (li : Nat → Int32) (lj : Nat → Int64) (Q : Int64 → XT → Prop) : Prop :=
  ((((t.1 3) : Int32) ≤ (li 5)) → Q (lj 3) t) ∧ (¬ (((t.1 3) : Int32) ≤ (li 5)) → (wqX12_isFaceThere k t (li 5) (li 1) (fun r_3 t_3 => ((r_3 = 0) → rec 2 t_3 li (uI (uI lj 101 0) 100 (lj 3)) Q) ∧ (¬ (r_3 = 0) → (vp_in (li 5) 60 ∧ (∀ v_5 : Int64, v_5 = (t_3.2.2.2 0) (li 5).toNatClampNeg → rec 2 t_3 li (uI (uI lj 101 v_5) 100 (lj 3)) Q))))))
def wbX12_waysFrom_2 (rec : Nat → XT → (Nat → Int32) → (Nat → Int64) → (Int64 → XT → Prop) → Prop) (k : Nat) (t : XT) (li : Nat → Int32) (lj : Nat → Int64) (Q : Int64 → XT → Prop) : Prop :=
  (∀ v_6 : Int64, v_6 = ((lj 100) + (lj 101)) → (∀ v_7 : Int32, v_7 = (li 5) + Int32.ofInt 1 → rec 1 t (uI li 5 v_7) (uI lj 3 v_6) Q))
def wpX12_waysFrom : Nat → Nat → XT → (Nat → Int32) → (Nat → Int64) → (Int64 → XT → Prop) → Prop
  | 0, _, _, _, _, _ => False
  | k + 1, 0, t, li, lj, Q => wbX12_waysFrom_0 (wpX12_waysFrom k) k t li lj Q
  | k + 1, 1, t, li, lj, Q => wbX12_waysFrom_1 (wpX12_waysFrom k) k t li lj Q
  | k + 1, 2, t, li, lj, Q => wbX12_waysFrom_2 (wpX12_waysFrom k) k t li lj Q
  | _ + 1, _, _, _, _, _ => False
def wqX12_waysFrom (k : Nat) (t : XT) (a1 : Int32) (a2 : Int32) (Q : Int64 → XT → Prop) : Prop := wpX12_waysFrom k 0 t (uI (uI (fun _ => 0) 1 a1) 2 a2) (fun _ => 0) Q
set_option maxHeartbeats 8000000 in
set_option maxRecDepth 100000 in
theorem wkX12_waysFrom (l : Launch) (D : va_G) (cI cJ cB cZ : ClassId) (bd : Nat → Nat) (k : Nat) (t : XT) (a1 : Int32) (a2 : Int32) (Q : Int64 → XT → Prop) (hR : wqX12_waysFrom k t a1 a2 Q) : MetL l yX12_waysFrom wsX12_waysFrom 6 135 0 0 D (TYS cI cJ cB cZ) (wM cI cJ cB cZ bd t) [.ref (bd 0), .int a1, .int a2] (fun r u => Q r u) (fun u : XT => (wM cI cJ cB cZ bd u)) := by
  refine x_startL (ty := .long) (cc := cX12_waysFrom) (by decide) rfl (Nat.le_of_ble_eq_true rfl) ?_
  intro p e s m args below meth c A ls B hr hnm h hl
  have hx := B.1.1
  have hb := B.1.2.1
  have hml := B.1.2.2.1
  have hts := B.1.2.2.2.2
  have hown : s.vm.findClass RX12 = some m.cls := B.1.2.2.2.1
  have hin12 : ∀ w ∈ u_ws RX12 TX12 31, w ∈ wsX12_waysFrom := by decide +kernel
  have main : ∀ k : Nat, (∀ (t : XT) (li : Nat → Int32) (lj : Nat → Int64) (H : Heap) (locs : List Loc) (ls : Array Slot), wpX12_waysFrom k 0 t li lj Q → lv_has ls 6 [(0, .ref (bd 0)), (1, .int (li 1)), (2, .int (li 2))] → Hp D A s.heap (wM cI cJ cB cZ bd t) H locs → W p l e { frames := 6, cells := 0, slots := 0, locals := 135 } s m args below meth c H locs 0 0 (MQ below (va_Ql (fun r u => Q r u) (fun u t => xEnd D ((fun u : XT => (wM cI cJ cB cZ bd u)) u) A t) A) args s 0 0 A) (F0 m 0 ls [])) ∧
      (∀ (t : XT) (li : Nat → Int32) (lj : Nat → Int64) (H : Heap) (locs : List Loc) (ls : Array Slot), wpX12_waysFrom k 1 t li lj Q → lv_has ls 6 [(0, .ref (bd 0)), (1, .int (li 1)), (2, .int (li 2)), (3, .long (lj 3)), (5, .int (li 5))] → Hp D A s.heap (wM cI cJ cB cZ bd t) H locs → W p l e { frames := 6, cells := 0, slots := 0, locals := 135 } s m args below meth c H locs 0 0 (MQ below (va_Ql (fun r u => Q r u) (fun u t => xEnd D ((fun u : XT => (wM cI cJ cB cZ bd u)) u) A t) A) args s 0 0 A) (F0 m 10 ls [])) ∧
      (∀ (t : XT) (li : Nat → Int32) (lj : Nat → Int64) (H : Heap) (locs : List Loc) (ls : Array Slot), wpX12_waysFrom k 2 t li lj Q → lv_has ls 6 [(0, .ref (bd 0)), (1, .int (li 1)), (2, .int (li 2)), (3, .long (lj 3)), (5, .int (li 5))] → Hp D A s.heap (wM cI cJ cB cZ bd t) H locs → W p l e { frames := 6, cells := 0, slots := 0, locals := 135 } s m args below meth c H locs 0 0 (MQ below (va_Ql (fun r u => Q r u) (fun u t => xEnd D ((fun u : XT => (wM cI cJ cB cZ bd u)) u) A t) A) args s 0 0 A) (F0 m 41 ls [.long (lj 101), .long (lj 100)])) := by
    intro k
    induction k with
    | zero => exact ⟨fun _ _ _ _ _ _ hR => False.elim hR, fun _ _ _ _ _ _ hR => False.elim hR, fun _ _ _ _ _ _ hR => False.elim hR⟩
    | succ k ih =>
      refine ⟨?_, ?_, ?_⟩
      · intro t li lj H locs ls hR hl h
        have hR : wbX12_waysFrom_0 (wpX12_waysFrom k) k t li lj Q := hR
        unfold wbX12_waysFrom_0 at hR
        refine lv_aload_n hx hb dX12_waysFrom_0 rfl (lv_at hl 0 rfl) ?_
        refine lv_iload_n hx hb dX12_waysFrom_1 rfl (lv_at hl 2 rfl) ?_
        refine x_cVVF (n := 1) (As := [.int (li 2)]) (rest := []) B h (wkX12_laysWays l D cI cJ cB cZ bd k t (li 2) _ hR) ⟨⟨_, rfl⟩, by decide +kernel, Nat.le_of_ble_eq_true rfl, Nat.le_of_ble_eq_true rfl⟩ gX12_waysFrom_X12_laysWays (show ((wM cI cJ cB cZ bd t) : va_W)[0]? = some (_, .inr (12, _)) from rfl) rfl rfl hl.1 rfl (Nat.le_of_ble_eq_true rfl) dX12_waysFrom_2 ⟨Nat.le_of_ble_eq_true rfl, Nat.le_of_ble_eq_true rfl⟩ (fun t_1 H locs hR h => ?_)
        refine lv_lconst (v := 0) hx hb dX12_waysFrom_5 (by decide) ?_
        refine lv_lstore_n (lv' := [(3, .long 0), (0, .ref (bd 0)), (1, .int (li 1)), (2, .int (li 2))]) hx hb dX12_waysFrom_6 rfl hl (by decide) rfl (fun ls hl => ?_)
        refine lv_iconst (v := 0) hx hb dX12_waysFrom_7 (by decide) ?_
        refine lv_istore (lv' := [(5, .int 0), (3, .long 0), (0, .ref (bd 0)), (1, .int (li 1)), (2, .int (li 2))]) hx hb dX12_waysFrom_8 hl (by decide) rfl (fun ls hl => ?_)
        exact ih.2.1 t_1 (uI li 5 0) (uI lj 3 0) H locs ls hR (lv_sub hl [2, 3, 4, 1, 0] rfl) h
      · intro t li lj H locs ls hR hl h
        have hR : wbX12_waysFrom_1 (wpX12_waysFrom k) k t li lj Q := hR
        unfold wbX12_waysFrom_1 at hR
        refine lv_iload hx hb dX12_waysFrom_10 (lv_at hl 4 rfl) ?_
        refine lv_aload_n hx hb dX12_waysFrom_12 rfl (lv_at hl 0 rfl) ?_
        refine x_get (ci := 12) (C := RX12) (T := TX12) (N := 31) (v := .int (t.1 3)) B h hin12 0 5 rfl rfl (by decide) (by decide +kernel) rfl dX12_waysFrom_13 ?_
        refine lv_icmp_ge (tgt := 49) hx hb dX12_waysFrom_16 (by decide) (fun c_2 => ?_) (fun c_2 => ?_)
        · have hR := hR.1 c_2
          refine lv_lload_n hx hb dX12_waysFrom_49 rfl (lv_at hl 3 rfl) ?_
          exact x_lret (w1 := (fun u : XT => (wM cI cJ cB cZ bd u))) t B h hr hR dX12_waysFrom_50
        · have hR := hR.2 c_2
          refine lv_lload_n hx hb dX12_waysFrom_19 rfl (lv_at hl 3 rfl) ?_
          refine lv_aload_n hx hb dX12_waysFrom_20 rfl (lv_at hl 0 rfl) ?_
          refine lv_iload hx hb dX12_waysFrom_21 (lv_at hl 4 rfl) ?_
          refine lv_iload_n hx hb dX12_waysFrom_23 rfl (lv_at hl 1 rfl) ?_
          refine x_cVIF (n := 2) (As := [.int (li 5), .int (li 1)]) (rest := [.long (lj 3)]) B h (wkX12_isFaceThere l D cI cJ cB cZ bd k t (li 5) (li 1) _ hR) ⟨⟨_, rfl⟩, by decide +kernel, Nat.le_of_ble_eq_true rfl, Nat.le_of_ble_eq_true rfl⟩ gX12_waysFrom_X12_isFaceThere (show ((wM cI cJ cB cZ bd t) : va_W)[0]? = some (_, .inr (12, _)) from rfl) rfl rfl hl.1 rfl (Nat.le_of_ble_eq_true rfl) dX12_waysFrom_24 ⟨Nat.le_of_ble_eq_true rfl, Nat.le_of_ble_eq_true rfl⟩ (fun r_3 t_3 H locs hR h => ?_)
          refine lv_if_eq (tgt := 40) hx hb dX12_waysFrom_27 (by decide) (fun c_4 => ?_) (fun c_4 => ?_)
          · have hR := hR.1 c_4
            refine lv_lconst (v := 0) hx hb dX12_waysFrom_40 (by decide) ?_
            exact ih.2.2 t_3 li (uI (uI lj 101 0) 100 (lj 3)) H locs ls hR (lv_sub hl [0, 1, 2, 3, 4] rfl) h
          · have hR := hR.2 c_4
            refine lv_aload_n hx hb dX12_waysFrom_30 rfl (lv_at hl 0 rfl) ?_
            refine x_get (ci := 12) (C := RX12) (T := TX12) (N := 31) (v := .ref (bd 11)) B h hin12 0 15 rfl rfl (by decide) (by decide +kernel) rfl dX12_waysFrom_31 ?_
            refine lv_iload hx hb dX12_waysFrom_34 (lv_at hl 4 rfl) ?_
            obtain ⟨hb_5, hR⟩ := hR
            refine va_lald (f := (t_3.2.2.2 0)) hx hb B.2.1 h.1 11 1 rfl rfl hb_5 dX12_waysFrom_36 ?_
            refine lv_topl (fun v_5 ev_5 => ?_)
            have hR := hR v_5 ev_5
            refine lv_goto (tgt := 41) hx hb dX12_waysFrom_37 (by decide) ?_
            exact ih.2.2 t_3 li (uI (uI lj 101 v_5) 100 (lj 3)) H locs ls hR (lv_sub hl [0, 1, 2, 3, 4] rfl) h
      · intro t li lj H locs ls hR hl h
        have hR : wbX12_waysFrom_2 (wpX12_waysFrom k) k t li lj Q := hR
        unfold wbX12_waysFrom_2 at hR
        refine lv_ladd hx hb dX12_waysFrom_41 ?_
        refine lv_topl (fun v_6 ev_6 => ?_)
        have hR := hR v_6 ev_6
        refine lv_lstore_n (lv' := [(3, .long v_6), (0, .ref (bd 0)), (1, .int (li 1)), (2, .int (li 2)), (5, .int (li 5))]) hx hb dX12_waysFrom_42 rfl hl (by decide) rfl (fun ls hl => ?_)
        obtain ⟨v_7, ev_7⟩ : ∃ v : Int32, v = (li 5) + Int32.ofInt 1 := ⟨_, rfl⟩
        have hR := hR v_7 ev_7
        refine lv_iinc (v := v_7) (lv' := [(5, .int v_7), (3, .long v_6), (0, .ref (bd 0)), (1, .int (li 1)), (2, .int (li 2))]) hx hb dX12_waysFrom_43 hl (k := 4) rfl ev_7.symm (by decide) rfl (fun ls hl => ?_)
        refine lv_goto (tgt := 10) hx hb dX12_waysFrom_46 (by decide) ?_
        exact ih.2.1 t (uI li 5 v_7) (uI lj 3 v_6) H locs ls hR (lv_sub hl [2, 3, 4, 1, 0] rfl) h
  exact (main k).1 t _ _ s.heap [] ls hR hl h
def wbX12_rows_0 (rec : Nat → XT → (Nat → Int32) → (Nat → Int64) → (XT → Prop) → Prop) (k : Nat) (t : XT) (li : Nat → Int32) (lj : Nat → Int64) (Q : XT → Prop) : Prop :=
  (vp_in (t.1 5) 122 ∧ (∀ t_1 : XT, t_1 = sA t 10 (upd (t.2.2.1 10) (t.1 5).toNatClampNeg (li 1)) → (∀ v_2 : Int32, v_2 = ((t_1.1 5) + 1) → (∀ t_3 : XT, t_3 = sI t_1 5 v_2 → Q t_3))))
def wpX12_rows : Nat → Nat → XT → (Nat → Int32) → (Nat → Int64) → (XT → Prop) → Prop
  | 0, _, _, _, _, _ => False
  | k + 1, 0, t, li, lj, Q => wbX12_rows_0 (wpX12_rows k) k t li lj Q
  | _ + 1, _, _, _, _, _ => False
def wqX12_rows (k : Nat) (t : XT) (a1 : Int32) (Q : XT → Prop) : Prop := wpX12_rows k 0 t (uI (fun _ => 0) 1 a1) (fun _ => 0) Q
set_option maxHeartbeats 8000000 in
set_option maxRecDepth 100000 in
theorem wkX12_rows (l : Launch) (D : va_G) (cI cJ cB cZ : ClassId) (bd : Nat → Nat) (k : Nat) (t : XT) (a1 : Int32) (Q : XT → Prop) (hR : wqX12_rows k t a1 Q) : MetV l yX12_rows wsX12_rows 0 0 0 0 D (TYS cI cJ cB cZ) (wM cI cJ cB cZ bd t) [.ref (bd 0), .int a1] (fun u => Q u) (fun u : XT => (wM cI cJ cB cZ bd u)) := by
  refine x_startV (ty := .int) (cc := cX12_rows) (by decide) rfl (Nat.le_of_ble_eq_true rfl) ?_
  intro p e s m args below meth c A ls B hr hnm h hl
  have hx := B.1.1
  have hb := B.1.2.1
  have hml := B.1.2.2.1
  have hts := B.1.2.2.2.2
  have hown : s.vm.findClass RX12 = some m.cls := B.1.2.2.2.1
  have hin12 : ∀ w ∈ u_ws RX12 TX12 31, w ∈ wsX12_rows := by decide +kernel
  have main : ∀ k : Nat, (∀ (t : XT) (li : Nat → Int32) (lj : Nat → Int64) (H : Heap) (locs : List Loc) (ls : Array Slot), wpX12_rows k 0 t li lj Q → lv_has ls 2 [(0, .ref (bd 0)), (1, .int (li 1))] → Hp D A s.heap (wM cI cJ cB cZ bd t) H locs → W p l e { frames := 0, cells := 0, slots := 0, locals := 0 } s m args below meth c H locs 0 0 (MQ below (va_Qv (fun u => Q u) (fun u t => xEnd D ((fun u : XT => (wM cI cJ cB cZ bd u)) u) A t) A) args s 0 0 A) (F0 m 0 ls [])) := by
    intro k
    induction k with
    | zero => exact fun _ _ _ _ _ _ hR => False.elim hR
    | succ k ih =>
      intro t li lj H locs ls hR hl h
      have hR : wbX12_rows_0 (wpX12_rows k) k t li lj Q := hR
      unfold wbX12_rows_0 at hR
      refine lv_aload_n hx hb dX12_rows_0 rfl (lv_at hl 0 rfl) ?_
      refine x_get (ci := 12) (C := RX12) (T := TX12) (N := 31) (v := .ref (bd 13)) B h hin12 0 17 rfl rfl (by decide) (by decide +kernel) rfl dX12_rows_1 ?_
      refine lv_aload_n hx hb dX12_rows_4 rfl (lv_at hl 0 rfl) ?_
      refine x_get (ci := 12) (C := RX12) (T := TX12) (N := 31) (v := .int (t.1 5)) B h hin12 0 18 rfl rfl (by decide) (by decide +kernel) rfl dX12_rows_5 ?_
      refine lv_iload_n hx hb dX12_rows_8 rfl (lv_at hl 1 rfl) ?_
      obtain ⟨hb_1, hR⟩ := hR
      refine z_iast (f := (t.2.2.1 10)) B h 13 0 rfl rfl hb_1 dX12_rows_9 (fun H locs h => ?_)
      obtain ⟨t_1, et_1⟩ : ∃ v : XT, v = sA t 10 (upd (t.2.2.1 10) (t.1 5).toNatClampNeg (li 1)) := ⟨_, rfl⟩
      have hR := hR t_1 et_1
      have h : Hp D A s.heap (wM cI cJ cB cZ bd t_1) H locs := by rw [et_1]; exact h
      refine lv_aload_n hx hb dX12_rows_10 rfl (lv_at hl 0 rfl) ?_
      refine lv_dup hx hb dX12_rows_11 rfl ?_
      refine x_get (ci := 12) (C := RX12) (T := TX12) (N := 31) (v := .int (t_1.1 5)) B h hin12 0 18 rfl rfl (by decide) (by decide +kernel) rfl dX12_rows_12 ?_
      refine lv_iconst (v := 1) hx hb dX12_rows_15 (by decide) ?_
      refine lv_iadd hx hb dX12_rows_16 ?_
      refine lv_topi (fun v_2 ev_2 => ?_)
      have hR := hR v_2 ev_2
      refine x_put (ci := 12) (C := RX12) (T := TX12) (N := 31) (v := .int v_2) (ty := .int) B h hin12 tyX12 tyX12_ok nmX12 0 18 rfl rfl (by decide) (by decide +kernel) rfl rfl rfl rfl (Nat.le_of_ble_eq_true rfl) dX12_rows_17 (fun H locs h => ?_)
      obtain ⟨t_3, et_3⟩ : ∃ v : XT, v = sI t_1 5 v_2 := ⟨_, rfl⟩
      have hR := hR t_3 et_3
      have h : Hp D A s.heap (wM cI cJ cB cZ bd t_3) H locs := by rw [et_3]; exact h
      exact x_vret (w1 := (fun u : XT => (wM cI cJ cB cZ bd u))) t_3 B h hr hR dX12_rows_20
  exact (main k) t _ _ s.heap [] ls hR hl h
set_option maxRecDepth 20000 in
theorem ggX12_laysPath_X12_waysFrom : GoodIn wsX12_laysPath wsX12_waysFrom := goodIn_r _ [8, 9, 2, 10, 11, 12, 7, 13, 14, 15, 16, 17, 18, 19, 20, 21, 22, 23, 24, 25, 26, 27, 28, 29, 30, 31, 3, 32, 33, 34, 35, 36, 37, 38, 39, 40, 41, 42, 43, 44, 45, 46, 47, 48, 49, 50, 51, 52, 53, 54, 55, 56, 57, 58, 59, 60, 61, 62, 68, 69, 70, 71, 72, 73, 74, 75, 76, 77, 78, 79, 80, 81, 82, 83, 84, 85, 86, 87, 88, 89, 90, 91, 92, 93, 94, 95, 96, 97, 98] (by decide +kernel) (by decide +kernel)
set_option maxRecDepth 20000 in
theorem gX12_laysPath_X12_waysFrom : GoodIn wsX12_laysPath (wsV RX12 232 RX12 yX12_waysFrom wsX12_waysFrom) := goodIn_app (goodIn_of _ (by decide +kernel)) ggX12_laysPath_X12_waysFrom
set_option maxRecDepth 20000 in
theorem ggX12_laysPath_X12_rows : GoodIn wsX12_laysPath wsX12_rows := goodIn_r _ [66, 67, 1, 68, 69, 70, 71, 72, 73, 74, 75, 76, 77, 78, 79, 80, 81, 82, 83, 84, 85, 86, 87, 88, 89, 90, 91, 92, 93, 94, 95, 96, 97, 98] (by decide +kernel) (by decide +kernel)
set_option maxRecDepth 20000 in
theorem gX12_laysPath_X12_rows : GoodIn wsX12_laysPath (wsV RX12 246 RX12 yX12_rows wsX12_rows) := goodIn_app (goodIn_of _ (by decide +kernel)) ggX12_laysPath_X12_rows
set_option maxRecDepth 20000 in
theorem ggX12_laysPath_X12_isFaceThere : GoodIn wsX12_laysPath wsX12_isFaceThere := goodIn_r _ [54, 20, 55, 56, 57, 7, 58, 36, 32, 33, 34, 35, 37, 38, 39, 40, 41, 42, 43, 68, 69, 70, 71, 72, 73, 74, 75, 76, 77, 78, 79, 80, 81, 82, 83, 84, 85, 86, 87, 88, 89, 90, 91, 92, 93, 94, 95, 96, 97, 98] (by decide +kernel) (by decide +kernel)
set_option maxRecDepth 20000 in
theorem gX12_laysPath_X12_isFaceThere : GoodIn wsX12_laysPath (wsV RX12 162 RX12 yX12_isFaceThere wsX12_isFaceThere) := goodIn_app (goodIn_of _ (by decide +kernel)) ggX12_laysPath_X12_isFaceThere
def wbX12_laysPath_0 (rec : Nat → XT → (Nat → Int32) → (Nat → Int64) → (Int32 → XT → Prop) → Prop) (k : Nat) (t : XT) (li : Nat → Int32) (lj : Nat → Int64) (Q : Int32 → XT → Prop) : Prop :=
  (wqX12_waysFrom k t (li 1) (li 2) (fun r_1 t_1 => (∀ v_2 : Int32, v_2 = (lg_cmp (lj 3) r_1) → ((v_2 < 0) → (∀ t_4 : XT, t_4 = sI t_1 5 0 → (wqX12_rows k t_4 (li 1) (fun t_5 => rec 1 t_5 (uI (uI li 5 (li 1)) 6 (-1)) (uI lj 7 (lj 3)) Q)))) ∧ (¬ (v_2 < 0) → Q 0 t_1))))
def wbX12_laysPath_1 (rec : Nat → XT → (Nat → Int32) → (Nat → Int64) → (Int32 → XT → Prop) → Prop) (k : Nat) (t : XT) (li : Nat → Int32) (lj : Nat → Int64) (Q : Int32 → XT → Prop) : Prop :=
  (((li 6) = (li 2)) → Q 1 t) ∧ (¬ ((li 6) = (li 2)) → rec 2 t (uI li 9 0) lj Q)
def wbX12_laysPath_2 (rec : Nat → XT → (Nat → Int32) → (Nat → Int64) → (Int32 → XT → Prop) → Prop) (k : Nat) (t : XT) (li : Nat → Int32) (lj : Nat → Int64) (Q : Int32 → XT → Prop) : Prop :=
  (((li 9) = (li 6)) → rec 3 t li lj Q) ∧ (¬ ((li 9) = (li 6)) → (wqX12_isFaceThere k t (li 9) (li 5) (fun r_8 t_8 => ((r_8 = 0) → rec 3 t_8 li lj Q) ∧ (¬ (r_8 = 0) → (vp_in (li 9) 60 ∧ (∀ v_10 : Int64, v_10 = (t_8.2.2.2 0) (li 9).toNatClampNeg → (∀ v_11 : Int32, v_11 = (lg_cmp v_10 (lj 7)) → (((0 : Int32) < v_11) → (wqX12_rows k t_8 (li 9) (fun t_13 => (((li 9) = (li 2)) → rec 6 t_13 (uI li 6 (li 9)) lj Q) ∧ (¬ ((li 9) = (li 2)) → (vp_in (li 9) 60 ∧ (∀ v_15 : Int32, v_15 = (t_13.2.2.1 4) (li 9).toNatClampNeg → (wqX12_rows k t_13 v_15 (fun t_16 => rec 6 t_16 (uI (uI li 5 v_15) 6 (li 9)) lj Q)))))))) ∧ (¬ ((0 : Int32) < v_11) → rec 3 t_8 li lj Q))))))))
def wbX12_laysPath_3 (rec : Nat → XT → (Nat → Int32) → (Nat → Int64) → (Int32 → XT → Prop) → Prop) (k : Nat) (t : XT) (li : Nat → Int32) (lj : Nat → Int64) (Q : Int32 → XT → Prop) : Prop :=
  (((li 9) = (li 6)) → rec 4 t li (uI lj 100 (lj 7)) Q) ∧ (¬ ((li 9) = (li 6)) → (wqX12_isFaceThere k t (li 9) (li 5) (fun r_18 t_18 => ((r_18 = 0) → rec 4 t_18 li (uI lj 100 (lj 7)) Q) ∧ (¬ (r_18 = 0) → (vp_in (li 9) 60 ∧ (∀ v_20 : Int64, v_20 = (t_18.2.2.2 0) (li 9).toNatClampNeg → rec 5 t_18 li (uI (uI lj 101 v_20) 100 (lj 7)) Q))))))
def wbX12_laysPath_4 (rec : Nat → XT → (Nat → Int32) → (Nat → Int64) → (Int32 → XT → Prop) → Prop) (k : Nat) (t : XT) (li : Nat → Int32) (lj : Nat → Int64) (Q : Int32 → XT → Prop) : Prop :=
  rec 5 t li (uI (uI lj 101 0) 100 (lj 100)) Q
def wbX12_laysPath_5 (rec : Nat → XT → (Nat → Int32) → (Nat → Int64) → (Int32 → XT → Prop) → Prop) (k : Nat) (t : XT) (li : Nat → Int32) (lj : Nat → Int64) (Q : Int32 → XT → Prop) : Prop :=
  (∀ v_21 : Int64, v_21 = ((lj 100) - (lj 101)) → (∀ v_22 : Int32, v_22 = (li 9) + Int32.ofInt 1 → rec 2 t (uI li 9 v_22) (uI lj 7 v_21) Q))
def wbX12_laysPath_6 (rec : Nat → XT → (Nat → Int32) → (Nat → Int64) → (Int32 → XT → Prop) → Prop) (k : Nat) (t : XT) (li : Nat → Int32) (lj : Nat → Int64) (Q : Int32 → XT → Prop) : Prop :=
  rec 1 t li lj Q
def wpX12_laysPath : Nat → Nat → XT → (Nat → Int32) → (Nat → Int64) → (Int32 → XT → Prop) → Prop
  | 0, _, _, _, _, _ => False
  | k + 1, 0, t, li, lj, Q => wbX12_laysPath_0 (wpX12_laysPath k) k t li lj Q
  | k + 1, 1, t, li, lj, Q => wbX12_laysPath_1 (wpX12_laysPath k) k t li lj Q
  | k + 1, 2, t, li, lj, Q => wbX12_laysPath_2 (wpX12_laysPath k) k t li lj Q
  | k + 1, 3, t, li, lj, Q => wbX12_laysPath_3 (wpX12_laysPath k) k t li lj Q
  | k + 1, 4, t, li, lj, Q => wbX12_laysPath_4 (wpX12_laysPath k) k t li lj Q
  | k + 1, 5, t, li, lj, Q => wbX12_laysPath_5 (wpX12_laysPath k) k t li lj Q
  | k + 1, 6, t, li, lj, Q => wbX12_laysPath_6 (wpX12_laysPath k) k t li lj Q
  | _ + 1, _, _, _, _, _ => False
def wqX12_laysPath (k : Nat) (t : XT) (a1 : Int32) (a2 : Int32) (a3 : Int64) (Q : Int32 → XT → Prop) : Prop := wpX12_laysPath k 0 t (uI (uI (fun _ => 0) 1 a1) 2 a2) (uI (fun _ => 0) 3 a3) Q
set_option maxHeartbeats 8000000 in
set_option maxRecDepth 100000 in
theorem wkX12_laysPath (l : Launch) (D : va_G) (cI cJ cB cZ : ClassId) (bd : Nat → Nat) (k : Nat) (t : XT) (a1 : Int32) (a2 : Int32) (a3 : Int64) (Q : Int32 → XT → Prop) (hR : wqX12_laysPath k t a1 a2 a3 Q) : MetI l yX12_laysPath wsX12_laysPath 7 160 0 0 D (TYS cI cJ cB cZ) (wM cI cJ cB cZ bd t) [.ref (bd 0), .int a1, .int a2, .long a3] (fun r u => Q r u) (fun u : XT => (wM cI cJ cB cZ bd u)) := by
  refine x_startI (ty := .boolean) (cc := cX12_laysPath) (by decide) rfl (Nat.le_of_ble_eq_true rfl) ?_
  intro p e s m args below meth c A ls B hr hnm h hl
  have hx := B.1.1
  have hb := B.1.2.1
  have hml := B.1.2.2.1
  have hts := B.1.2.2.2.2
  have hown : s.vm.findClass RX12 = some m.cls := B.1.2.2.2.1
  have hin12 : ∀ w ∈ u_ws RX12 TX12 31, w ∈ wsX12_laysPath := by decide +kernel
  have main : ∀ k : Nat, (∀ (t : XT) (li : Nat → Int32) (lj : Nat → Int64) (H : Heap) (locs : List Loc) (ls : Array Slot), wpX12_laysPath k 0 t li lj Q → lv_has ls 10 [(0, .ref (bd 0)), (1, .int (li 1)), (2, .int (li 2)), (3, .long (lj 3))] → Hp D A s.heap (wM cI cJ cB cZ bd t) H locs → W p l e { frames := 7, cells := 0, slots := 0, locals := 160 } s m args below meth c H locs 0 0 (MQ below (va_Qi (fun r u => Q r u) (fun u t => xEnd D ((fun u : XT => (wM cI cJ cB cZ bd u)) u) A t) A) args s 0 0 A) (F0 m 0 ls [])) ∧
      (∀ (t : XT) (li : Nat → Int32) (lj : Nat → Int64) (H : Heap) (locs : List Loc) (ls : Array Slot), wpX12_laysPath k 1 t li lj Q → lv_has ls 10 [(0, .ref (bd 0)), (1, .int (li 1)), (2, .int (li 2)), (3, .long (lj 3)), (5, .int (li 5)), (6, .int (li 6)), (7, .long (lj 7))] → Hp D A s.heap (wM cI cJ cB cZ bd t) H locs → W p l e { frames := 7, cells := 0, slots := 0, locals := 160 } s m args below meth c H locs 0 0 (MQ below (va_Qi (fun r u => Q r u) (fun u t => xEnd D ((fun u : XT => (wM cI cJ cB cZ bd u)) u) A t) A) args s 0 0 A) (F0 m 32 ls [])) ∧
      (∀ (t : XT) (li : Nat → Int32) (lj : Nat → Int64) (H : Heap) (locs : List Loc) (ls : Array Slot), wpX12_laysPath k 2 t li lj Q → lv_has ls 10 [(0, .ref (bd 0)), (1, .int (li 1)), (2, .int (li 2)), (3, .long (lj 3)), (5, .int (li 5)), (6, .int (li 6)), (7, .long (lj 7)), (9, .int (li 9))] → Hp D A s.heap (wM cI cJ cB cZ bd t) H locs → W p l e { frames := 7, cells := 0, slots := 0, locals := 160 } s m args below meth c H locs 0 0 (MQ below (va_Qi (fun r u => Q r u) (fun u t => xEnd D ((fun u : XT => (wM cI cJ cB cZ bd u)) u) A t) A) args s 0 0 A) (F0 m 41 ls [])) ∧
      (∀ (t : XT) (li : Nat → Int32) (lj : Nat → Int64) (H : Heap) (locs : List Loc) (ls : Array Slot), wpX12_laysPath k 3 t li lj Q → lv_has ls 10 [(0, .ref (bd 0)), (1, .int (li 1)), (2, .int (li 2)), (3, .long (lj 3)), (5, .int (li 5)), (6, .int (li 6)), (7, .long (lj 7)), (9, .int (li 9))] → Hp D A s.heap (wM cI cJ cB cZ bd t) H locs → W p l e { frames := 7, cells := 0, slots := 0, locals := 160 } s m args below meth c H locs 0 0 (MQ below (va_Qi (fun r u => Q r u) (fun u t => xEnd D ((fun u : XT => (wM cI cJ cB cZ bd u)) u) A t) A) args s 0 0 A) (F0 m 72 ls [])) ∧
      (∀ (t : XT) (li : Nat → Int32) (lj : Nat → Int64) (H : Heap) (locs : List Loc) (ls : Array Slot), wpX12_laysPath k 4 t li lj Q → lv_has ls 10 [(0, .ref (bd 0)), (1, .int (li 1)), (2, .int (li 2)), (3, .long (lj 3)), (5, .int (li 5)), (6, .int (li 6)), (7, .long (lj 7)), (9, .int (li 9))] → Hp D A s.heap (wM cI cJ cB cZ bd t) H locs → W p l e { frames := 7, cells := 0, slots := 0, locals := 160 } s m args below meth c H locs 0 0 (MQ below (va_Qi (fun r u => Q r u) (fun u t => xEnd D ((fun u : XT => (wM cI cJ cB cZ bd u)) u) A t) A) args s 0 0 A) (F0 m 102 ls [.long (lj 100)])) ∧
      (∀ (t : XT) (li : Nat → Int32) (lj : Nat → Int64) (H : Heap) (locs : List Loc) (ls : Array Slot), wpX12_laysPath k 5 t li lj Q → lv_has ls 10 [(0, .ref (bd 0)), (1, .int (li 1)), (2, .int (li 2)), (3, .long (lj 3)), (5, .int (li 5)), (6, .int (li 6)), (7, .long (lj 7)), (9, .int (li 9))] → Hp D A s.heap (wM cI cJ cB cZ bd t) H locs → W p l e { frames := 7, cells := 0, slots := 0, locals := 160 } s m args below meth c H locs 0 0 (MQ below (va_Qi (fun r u => Q r u) (fun u t => xEnd D ((fun u : XT => (wM cI cJ cB cZ bd u)) u) A t) A) args s 0 0 A) (F0 m 103 ls [.long (lj 101), .long (lj 100)])) ∧
      (∀ (t : XT) (li : Nat → Int32) (lj : Nat → Int64) (H : Heap) (locs : List Loc) (ls : Array Slot), wpX12_laysPath k 6 t li lj Q → lv_has ls 10 [(0, .ref (bd 0)), (1, .int (li 1)), (2, .int (li 2)), (3, .long (lj 3)), (5, .int (li 5)), (6, .int (li 6)), (7, .long (lj 7)), (9, .int (li 9))] → Hp D A s.heap (wM cI cJ cB cZ bd t) H locs → W p l e { frames := 7, cells := 0, slots := 0, locals := 160 } s m args below meth c H locs 0 0 (MQ below (va_Qi (fun r u => Q r u) (fun u t => xEnd D ((fun u : XT => (wM cI cJ cB cZ bd u)) u) A t) A) args s 0 0 A) (F0 m 143 ls [])) := by
    intro k
    induction k with
    | zero => exact ⟨fun _ _ _ _ _ _ hR => False.elim hR, fun _ _ _ _ _ _ hR => False.elim hR, fun _ _ _ _ _ _ hR => False.elim hR, fun _ _ _ _ _ _ hR => False.elim hR, fun _ _ _ _ _ _ hR => False.elim hR, fun _ _ _ _ _ _ hR => False.elim hR, fun _ _ _ _ _ _ hR => False.elim hR⟩
    | succ k ih =>
      refine ⟨?_, ?_, ?_, ?_, ?_, ?_, ?_⟩
      · intro t li lj H locs ls hR hl h
        have hR : wbX12_laysPath_0 (wpX12_laysPath k) k t li lj Q := hR
        unfold wbX12_laysPath_0 at hR
        refine lv_lload_n hx hb dX12_laysPath_0 rfl (lv_at hl 3 rfl) ?_
        refine lv_aload_n hx hb dX12_laysPath_1 rfl (lv_at hl 0 rfl) ?_
        refine lv_iload_n hx hb dX12_laysPath_2 rfl (lv_at hl 1 rfl) ?_
        refine lv_iload_n hx hb dX12_laysPath_3 rfl (lv_at hl 2 rfl) ?_
        refine x_cVLF (n := 2) (As := [.int (li 1), .int (li 2)]) (rest := [.long (lj 3)]) B h (wkX12_waysFrom l D cI cJ cB cZ bd k t (li 1) (li 2) _ hR) ⟨⟨_, rfl⟩, by decide +kernel, Nat.le_of_ble_eq_true rfl, Nat.le_of_ble_eq_true rfl⟩ gX12_laysPath_X12_waysFrom (show ((wM cI cJ cB cZ bd t) : va_W)[0]? = some (_, .inr (12, _)) from rfl) rfl rfl hl.1 rfl (Nat.le_of_ble_eq_true rfl) dX12_laysPath_4 ⟨Nat.le_of_ble_eq_true rfl, Nat.le_of_ble_eq_true rfl⟩ (fun r_1 t_1 H locs hR h => ?_)
        refine W.lcmp hx hb dX12_laysPath_7 ?_
        refine lv_topi (fun v_2 ev_2 => ?_)
        have hR := hR v_2 ev_2
        refine lv_if_lt (tgt := 13) hx hb dX12_laysPath_8 (by decide) (fun c_3 => ?_) (fun c_3 => ?_)
        · have hR := hR.1 c_3
          refine lv_aload_n hx hb dX12_laysPath_13 rfl (lv_at hl 0 rfl) ?_
          refine lv_iconst (v := 0) hx hb dX12_laysPath_14 (by decide) ?_
          refine x_put (ci := 12) (C := RX12) (T := TX12) (N := 31) (v := .int 0) (ty := .int) B h hin12 tyX12 tyX12_ok nmX12 0 18 rfl rfl (by decide) (by decide +kernel) rfl rfl rfl rfl (Nat.le_of_ble_eq_true rfl) dX12_laysPath_15 (fun H locs h => ?_)
          obtain ⟨t_4, et_4⟩ : ∃ v : XT, v = sI t_1 5 0 := ⟨_, rfl⟩
          have hR := hR t_4 et_4
          have h : Hp D A s.heap (wM cI cJ cB cZ bd t_4) H locs := by rw [et_4]; exact h
          refine lv_aload_n hx hb dX12_laysPath_18 rfl (lv_at hl 0 rfl) ?_
          refine lv_iload_n hx hb dX12_laysPath_19 rfl (lv_at hl 1 rfl) ?_
          refine x_cVVF (n := 1) (As := [.int (li 1)]) (rest := []) B h (wkX12_rows l D cI cJ cB cZ bd k t_4 (li 1) _ hR) ⟨⟨_, rfl⟩, by decide +kernel, Nat.le_of_ble_eq_true rfl, Nat.le_of_ble_eq_true rfl⟩ gX12_laysPath_X12_rows (show ((wM cI cJ cB cZ bd t_4) : va_W)[0]? = some (_, .inr (12, _)) from rfl) rfl rfl hl.1 rfl (Nat.le_of_ble_eq_true rfl) dX12_laysPath_20 ⟨Nat.le_of_ble_eq_true rfl, Nat.le_of_ble_eq_true rfl⟩ (fun t_5 H locs hR h => ?_)
          refine lv_iload_n hx hb dX12_laysPath_23 rfl (lv_at hl 1 rfl) ?_
          refine lv_istore (lv' := [(5, .int (li 1)), (0, .ref (bd 0)), (1, .int (li 1)), (2, .int (li 2)), (3, .long (lj 3))]) hx hb dX12_laysPath_24 hl (by decide) rfl (fun ls hl => ?_)
          refine lv_iconst (v := (-1)) hx hb dX12_laysPath_26 (by decide) ?_
          refine lv_istore (lv' := [(6, .int (-1)), (5, .int (li 1)), (0, .ref (bd 0)), (1, .int (li 1)), (2, .int (li 2)), (3, .long (lj 3))]) hx hb dX12_laysPath_27 hl (by decide) rfl (fun ls hl => ?_)
          refine lv_lload_n hx hb dX12_laysPath_29 rfl (lv_at hl 5 rfl) ?_
          refine lv_lstore (lv' := [(7, .long (lj 3)), (6, .int (-1)), (5, .int (li 1)), (0, .ref (bd 0)), (1, .int (li 1)), (2, .int (li 2)), (3, .long (lj 3))]) hx hb dX12_laysPath_30 hl (by decide) rfl (fun ls hl => ?_)
          exact ih.2.1 t_5 (uI (uI li 5 (li 1)) 6 (-1)) (uI lj 7 (lj 3)) H locs ls hR (lv_sub hl [3, 4, 5, 6, 2, 1, 0] rfl) h
        · have hR := hR.2 c_3
          refine lv_iconst (v := 0) hx hb dX12_laysPath_11 (by decide) ?_
          exact x_iret (w1 := (fun u : XT => (wM cI cJ cB cZ bd u))) t_1 B h hr rfl hR dX12_laysPath_12
      · intro t li lj H locs ls hR hl h
        have hR : wbX12_laysPath_1 (wpX12_laysPath k) k t li lj Q := hR
        unfold wbX12_laysPath_1 at hR
        refine lv_iload hx hb dX12_laysPath_32 (lv_at hl 5 rfl) ?_
        refine lv_iload_n hx hb dX12_laysPath_34 rfl (lv_at hl 2 rfl) ?_
        refine lv_icmp_eq (tgt := 146) hx hb dX12_laysPath_35 (by decide) (fun c_6 => ?_) (fun c_6 => ?_)
        · have hR := hR.1 c_6
          refine lv_iconst (v := 1) hx hb dX12_laysPath_146 (by decide) ?_
          exact x_iret (w1 := (fun u : XT => (wM cI cJ cB cZ bd u))) t B h hr rfl hR dX12_laysPath_147
        · have hR := hR.2 c_6
          refine lv_iconst (v := 0) hx hb dX12_laysPath_38 (by decide) ?_
          refine lv_istore (lv' := [(9, .int 0), (0, .ref (bd 0)), (1, .int (li 1)), (2, .int (li 2)), (3, .long (lj 3)), (5, .int (li 5)), (6, .int (li 6)), (7, .long (lj 7))]) hx hb dX12_laysPath_39 hl (by decide) rfl (fun ls hl => ?_)
          exact ih.2.2.1 t (uI li 9 0) lj H locs ls hR (lv_sub hl [1, 2, 3, 4, 5, 6, 7, 0] rfl) h
      · intro t li lj H locs ls hR hl h
        have hR : wbX12_laysPath_2 (wpX12_laysPath k) k t li lj Q := hR
        unfold wbX12_laysPath_2 at hR
        refine lv_iload hx hb dX12_laysPath_41 (lv_at hl 7 rfl) ?_
        refine lv_iload hx hb dX12_laysPath_43 (lv_at hl 5 rfl) ?_
        refine lv_icmp_eq (tgt := 72) hx hb dX12_laysPath_45 (by decide) (fun c_7 => ?_) (fun c_7 => ?_)
        · have hR := hR.1 c_7
          exact ih.2.2.2.1 t li lj H locs ls hR (lv_sub hl [0, 1, 2, 3, 4, 5, 6, 7] rfl) h
        · have hR := hR.2 c_7
          refine lv_aload_n hx hb dX12_laysPath_48 rfl (lv_at hl 0 rfl) ?_
          refine lv_iload hx hb dX12_laysPath_49 (lv_at hl 7 rfl) ?_
          refine lv_iload hx hb dX12_laysPath_51 (lv_at hl 4 rfl) ?_
          refine x_cVIF (n := 2) (As := [.int (li 9), .int (li 5)]) (rest := []) B h (wkX12_isFaceThere l D cI cJ cB cZ bd k t (li 9) (li 5) _ hR) ⟨⟨_, rfl⟩, by decide +kernel, Nat.le_of_ble_eq_true rfl, Nat.le_of_ble_eq_true rfl⟩ gX12_laysPath_X12_isFaceThere (show ((wM cI cJ cB cZ bd t) : va_W)[0]? = some (_, .inr (12, _)) from rfl) rfl rfl hl.1 rfl (Nat.le_of_ble_eq_true rfl) dX12_laysPath_53 ⟨Nat.le_of_ble_eq_true rfl, Nat.le_of_ble_eq_true rfl⟩ (fun r_8 t_8 H locs hR h => ?_)
          refine lv_if_eq (tgt := 72) hx hb dX12_laysPath_56 (by decide) (fun c_9 => ?_) (fun c_9 => ?_)
          · have hR := hR.1 c_9
            exact ih.2.2.2.1 t_8 li lj H locs ls hR (lv_sub hl [0, 1, 2, 3, 4, 5, 6, 7] rfl) h
          · have hR := hR.2 c_9
            refine lv_aload_n hx hb dX12_laysPath_59 rfl (lv_at hl 0 rfl) ?_
            refine x_get (ci := 12) (C := RX12) (T := TX12) (N := 31) (v := .ref (bd 11)) B h hin12 0 15 rfl rfl (by decide) (by decide +kernel) rfl dX12_laysPath_60 ?_
            refine lv_iload hx hb dX12_laysPath_63 (lv_at hl 7 rfl) ?_
            obtain ⟨hb_10, hR⟩ := hR
            refine va_lald (f := (t_8.2.2.2 0)) hx hb B.2.1 h.1 11 1 rfl rfl hb_10 dX12_laysPath_65 ?_
            refine lv_topl (fun v_10 ev_10 => ?_)
            have hR := hR v_10 ev_10
            refine lv_lload hx hb dX12_laysPath_66 (lv_at hl 6 rfl) ?_
            refine W.lcmp hx hb dX12_laysPath_68 ?_
            refine lv_topi (fun v_11 ev_11 => ?_)
            have hR := hR v_11 ev_11
            refine lv_if_gt (tgt := 112) hx hb dX12_laysPath_69 (by decide) (fun c_12 => ?_) (fun c_12 => ?_)
            · have hR := hR.1 c_12
              refine lv_aload_n hx hb dX12_laysPath_112 rfl (lv_at hl 0 rfl) ?_
              refine lv_iload hx hb dX12_laysPath_113 (lv_at hl 7 rfl) ?_
              refine x_cVVF (n := 1) (As := [.int (li 9)]) (rest := []) B h (wkX12_rows l D cI cJ cB cZ bd k t_8 (li 9) _ hR) ⟨⟨_, rfl⟩, by decide +kernel, Nat.le_of_ble_eq_true rfl, Nat.le_of_ble_eq_true rfl⟩ gX12_laysPath_X12_rows (show ((wM cI cJ cB cZ bd t_8) : va_W)[0]? = some (_, .inr (12, _)) from rfl) rfl rfl hl.1 rfl (Nat.le_of_ble_eq_true rfl) dX12_laysPath_115 ⟨Nat.le_of_ble_eq_true rfl, Nat.le_of_ble_eq_true rfl⟩ (fun t_13 H locs hR h => ?_)
              refine lv_iload hx hb dX12_laysPath_118 (lv_at hl 7 rfl) ?_
              refine lv_istore (lv' := [(6, .int (li 9)), (0, .ref (bd 0)), (1, .int (li 1)), (2, .int (li 2)), (3, .long (lj 3)), (5, .int (li 5)), (7, .long (lj 7)), (9, .int (li 9))]) hx hb dX12_laysPath_120 hl (by decide) rfl (fun ls hl => ?_)
              refine lv_iload hx hb dX12_laysPath_122 (lv_at hl 7 rfl) ?_
              refine lv_iload_n hx hb dX12_laysPath_124 rfl (lv_at hl 3 rfl) ?_
              refine lv_icmp_eq (tgt := 143) hx hb dX12_laysPath_125 (by decide) (fun c_14 => ?_) (fun c_14 => ?_)
              · have hR := hR.1 c_14
                exact ih.2.2.2.2.2.2 t_13 (uI li 6 (li 9)) lj H locs ls hR (lv_sub hl [1, 2, 3, 4, 5, 0, 6, 7] rfl) h
              · have hR := hR.2 c_14
                refine lv_aload_n hx hb dX12_laysPath_128 rfl (lv_at hl 1 rfl) ?_
                refine x_get (ci := 12) (C := RX12) (T := TX12) (N := 31) (v := .ref (bd 5)) B h hin12 0 8 rfl rfl (by decide) (by decide +kernel) rfl dX12_laysPath_129 ?_
                refine lv_iload hx hb dX12_laysPath_132 (lv_at hl 7 rfl) ?_
                obtain ⟨hb_15, hR⟩ := hR
                refine va_iald (f := (t_13.2.2.1 4)) hx hb B.2.1 h.1 5 0 rfl rfl hb_15 dX12_laysPath_134 ?_
                refine lv_topi (fun v_15 ev_15 => ?_)
                have hR := hR v_15 ev_15
                refine lv_istore (lv' := [(5, .int v_15), (6, .int (li 9)), (0, .ref (bd 0)), (1, .int (li 1)), (2, .int (li 2)), (3, .long (lj 3)), (7, .long (lj 7)), (9, .int (li 9))]) hx hb dX12_laysPath_135 hl (by decide) rfl (fun ls hl => ?_)
                refine lv_aload_n hx hb dX12_laysPath_137 rfl (lv_at hl 2 rfl) ?_
                refine lv_iload hx hb dX12_laysPath_138 (lv_at hl 0 rfl) ?_
                refine x_cVVF (n := 1) (As := [.int v_15]) (rest := []) B h (wkX12_rows l D cI cJ cB cZ bd k t_13 v_15 _ hR) ⟨⟨_, rfl⟩, by decide +kernel, Nat.le_of_ble_eq_true rfl, Nat.le_of_ble_eq_true rfl⟩ gX12_laysPath_X12_rows (show ((wM cI cJ cB cZ bd t_13) : va_W)[0]? = some (_, .inr (12, _)) from rfl) rfl rfl hl.1 rfl (Nat.le_of_ble_eq_true rfl) dX12_laysPath_140 ⟨Nat.le_of_ble_eq_true rfl, Nat.le_of_ble_eq_true rfl⟩ (fun t_16 H locs hR h => ?_)
                exact ih.2.2.2.2.2.2 t_16 (uI (uI li 5 v_15) 6 (li 9)) lj H locs ls hR (lv_sub hl [2, 3, 4, 5, 0, 1, 6, 7] rfl) h
            · have hR := hR.2 c_12
              exact ih.2.2.2.1 t_8 li lj H locs ls hR (lv_sub hl [0, 1, 2, 3, 4, 5, 6, 7] rfl) h
      · intro t li lj H locs ls hR hl h
        have hR : wbX12_laysPath_3 (wpX12_laysPath k) k t li lj Q := hR
        unfold wbX12_laysPath_3 at hR
        refine lv_lload hx hb dX12_laysPath_72 (lv_at hl 6 rfl) ?_
        refine lv_iload hx hb dX12_laysPath_74 (lv_at hl 7 rfl) ?_
        refine lv_iload hx hb dX12_laysPath_76 (lv_at hl 5 rfl) ?_
        refine lv_icmp_eq (tgt := 102) hx hb dX12_laysPath_78 (by decide) (fun c_17 => ?_) (fun c_17 => ?_)
        · have hR := hR.1 c_17
          exact ih.2.2.2.2.1 t li (uI lj 100 (lj 7)) H locs ls hR (lv_sub hl [0, 1, 2, 3, 4, 5, 6, 7] rfl) h
        · have hR := hR.2 c_17
          refine lv_aload_n hx hb dX12_laysPath_81 rfl (lv_at hl 0 rfl) ?_
          refine lv_iload hx hb dX12_laysPath_82 (lv_at hl 7 rfl) ?_
          refine lv_iload hx hb dX12_laysPath_84 (lv_at hl 4 rfl) ?_
          refine x_cVIF (n := 2) (As := [.int (li 9), .int (li 5)]) (rest := [.long (lj 7)]) B h (wkX12_isFaceThere l D cI cJ cB cZ bd k t (li 9) (li 5) _ hR) ⟨⟨_, rfl⟩, by decide +kernel, Nat.le_of_ble_eq_true rfl, Nat.le_of_ble_eq_true rfl⟩ gX12_laysPath_X12_isFaceThere (show ((wM cI cJ cB cZ bd t) : va_W)[0]? = some (_, .inr (12, _)) from rfl) rfl rfl hl.1 rfl (Nat.le_of_ble_eq_true rfl) dX12_laysPath_86 ⟨Nat.le_of_ble_eq_true rfl, Nat.le_of_ble_eq_true rfl⟩ (fun r_18 t_18 H locs hR h => ?_)
          refine lv_if_eq (tgt := 102) hx hb dX12_laysPath_89 (by decide) (fun c_19 => ?_) (fun c_19 => ?_)
          · have hR := hR.1 c_19
            exact ih.2.2.2.2.1 t_18 li (uI lj 100 (lj 7)) H locs ls hR (lv_sub hl [0, 1, 2, 3, 4, 5, 6, 7] rfl) h
          · have hR := hR.2 c_19
            refine lv_aload_n hx hb dX12_laysPath_92 rfl (lv_at hl 0 rfl) ?_
            refine x_get (ci := 12) (C := RX12) (T := TX12) (N := 31) (v := .ref (bd 11)) B h hin12 0 15 rfl rfl (by decide) (by decide +kernel) rfl dX12_laysPath_93 ?_
            refine lv_iload hx hb dX12_laysPath_96 (lv_at hl 7 rfl) ?_
            obtain ⟨hb_20, hR⟩ := hR
            refine va_lald (f := (t_18.2.2.2 0)) hx hb B.2.1 h.1 11 1 rfl rfl hb_20 dX12_laysPath_98 ?_
            refine lv_topl (fun v_20 ev_20 => ?_)
            have hR := hR v_20 ev_20
            refine lv_goto (tgt := 103) hx hb dX12_laysPath_99 (by decide) ?_
            exact ih.2.2.2.2.2.1 t_18 li (uI (uI lj 101 v_20) 100 (lj 7)) H locs ls hR (lv_sub hl [0, 1, 2, 3, 4, 5, 6, 7] rfl) h
      · intro t li lj H locs ls hR hl h
        have hR : wbX12_laysPath_4 (wpX12_laysPath k) k t li lj Q := hR
        unfold wbX12_laysPath_4 at hR
        refine lv_lconst (v := 0) hx hb dX12_laysPath_102 (by decide) ?_
        exact ih.2.2.2.2.2.1 t li (uI (uI lj 101 0) 100 (lj 100)) H locs ls hR (lv_sub hl [0, 1, 2, 3, 4, 5, 6, 7] rfl) h
      · intro t li lj H locs ls hR hl h
        have hR : wbX12_laysPath_5 (wpX12_laysPath k) k t li lj Q := hR
        unfold wbX12_laysPath_5 at hR
        refine lv_lsub hx hb dX12_laysPath_103 ?_
        refine lv_topl (fun v_21 ev_21 => ?_)
        have hR := hR v_21 ev_21
        refine lv_lstore (lv' := [(7, .long v_21), (0, .ref (bd 0)), (1, .int (li 1)), (2, .int (li 2)), (3, .long (lj 3)), (5, .int (li 5)), (6, .int (li 6)), (9, .int (li 9))]) hx hb dX12_laysPath_104 hl (by decide) rfl (fun ls hl => ?_)
        obtain ⟨v_22, ev_22⟩ : ∃ v : Int32, v = (li 9) + Int32.ofInt 1 := ⟨_, rfl⟩
        have hR := hR v_22 ev_22
        refine lv_iinc (v := v_22) (lv' := [(9, .int v_22), (7, .long v_21), (0, .ref (bd 0)), (1, .int (li 1)), (2, .int (li 2)), (3, .long (lj 3)), (5, .int (li 5)), (6, .int (li 6))]) hx hb dX12_laysPath_106 hl (k := 7) rfl ev_22.symm (by decide) rfl (fun ls hl => ?_)
        refine lv_goto (tgt := 41) hx hb dX12_laysPath_109 (by decide) ?_
        exact ih.2.2.1 t (uI li 9 v_22) (uI lj 7 v_21) H locs ls hR (lv_sub hl [2, 3, 4, 5, 6, 7, 1, 0] rfl) h
      · intro t li lj H locs ls hR hl h
        have hR : wbX12_laysPath_6 (wpX12_laysPath k) k t li lj Q := hR
        unfold wbX12_laysPath_6 at hR
        refine lv_goto (tgt := 32) hx hb dX12_laysPath_143 (by decide) ?_
        exact ih.2.1 t li lj H locs ls hR (lv_sub hl [0, 1, 2, 3, 4, 5, 6] rfl) h
  exact (main k).1 t _ _ s.heap [] ls hR hl h
