set_option maxRecDepth 20000 in
theorem ggX12_chain_X12_isCritical : GoodIn wsX12_chain wsX12_isCritical := goodIn_r _ [10, 3, 11, 12, 13, 9, 14, 15, 16, 17, 18, 19, 2, 20, 21, 22, 58, 59, 60, 61, 62, 63, 64, 65, 66, 67, 68, 69, 70, 71, 72, 73, 74, 75, 76, 77, 78, 79, 80, 81, 82, 83, 84, 85, 86, 87, 88] (by decide +kernel) (by decide +kernel)
set_option maxRecDepth 20000 in
theorem gX12_chain_X12_isCritical : GoodIn wsX12_chain (wsV RX12 159 RX12 yX12_isCritical wsX12_isCritical) := goodIn_app (goodIn_of _ (by decide +kernel)) ggX12_chain_X12_isCritical
set_option maxRecDepth 20000 in
theorem ggX12_chain_X12_isThere : GoodIn wsX12_chain wsX12_isThere := goodIn_r _ [14, 15, 16, 17, 18, 9, 19, 2, 20, 21, 22, 58, 59, 60, 61, 62, 63, 64, 65, 66, 67, 68, 69, 70, 71, 72, 73, 74, 75, 76, 77, 78, 79, 80, 81, 82, 83, 84, 85, 86, 87, 88] (by decide +kernel) (by decide +kernel)
set_option maxRecDepth 20000 in
theorem gX12_chain_X12_isThere : GoodIn wsX12_chain (wsV RX12 156 RX12 yX12_isThere wsX12_isThere) := goodIn_app (goodIn_of _ (by decide +kernel)) ggX12_chain_X12_isThere
set_option maxRecDepth 20000 in
theorem ggX12_chain_X12_dimOf : GoodIn wsX12_chain wsX12_dimOf := goodIn_r _ [26, 27, 28, 29, 30, 31, 32, 33, 34, 58, 59, 60, 61, 62, 63, 64, 65, 66, 67, 68, 69, 70, 71, 72, 73, 74, 75, 76, 77, 78, 79, 80, 81, 82, 83, 84, 85, 86, 87, 88] (by decide +kernel) (by decide +kernel)
set_option maxRecDepth 20000 in
theorem gX12_chain_X12_dimOf : GoodIn wsX12_chain (wsV RX12 149 RX12 yX12_dimOf wsX12_dimOf) := goodIn_app (goodIn_of _ (by decide +kernel)) ggX12_chain_X12_dimOf
set_option maxRecDepth 20000 in
theorem ggX12_chain_X12_isLower : GoodIn wsX12_chain wsX12_isLower := goodIn_r _ [38, 3, 58, 59, 60, 61, 62, 63, 64, 65, 66, 67, 68, 69, 70, 71, 72, 73, 74, 75, 76, 77, 78, 79, 80, 81, 82, 83, 84, 85, 86, 87, 88] (by decide +kernel) (by decide +kernel)
set_option maxRecDepth 20000 in
theorem gX12_chain_X12_isLower : GoodIn wsX12_chain (wsV RX12 170 RX12 yX12_isLower wsX12_isLower) := goodIn_app (goodIn_of _ (by decide +kernel)) ggX12_chain_X12_isLower
set_option maxRecDepth 20000 in
theorem ggX12_chain_X12_truth : GoodIn wsX12_chain wsX12_truth := goodIn_r _ [41] (by decide +kernel) (by decide +kernel)
set_option maxRecDepth 20000 in
theorem gX12_chain_X12_truth : GoodIn wsX12_chain (va_wsS RX12 105 yX12_truth wsX12_truth) := goodIn_app (goodIn_of _ (by decide +kernel)) ggX12_chain_X12_truth
set_option maxRecDepth 20000 in
theorem ggX12_chain_X12_laysLink : GoodIn wsX12_chain wsX12_laysLink := goodIn_r _ [45, 3, 2, 4, 5, 46, 47, 48, 9, 49, 15, 50, 51, 52, 53, 27, 23, 24, 25, 26, 28, 29, 30, 31, 32, 33, 34, 54, 55, 56, 57, 58, 59, 60, 61, 62, 63, 64, 65, 66, 67, 68, 69, 70, 71, 72, 73, 74, 75, 76, 77, 78, 79, 80, 81, 82, 83, 84, 85, 86, 87, 88] (by decide +kernel) (by decide +kernel)
set_option maxRecDepth 20000 in
theorem gX12_chain_X12_laysLink : GoodIn wsX12_chain (wsV RX12 259 RX12 yX12_laysLink wsX12_laysLink) := goodIn_app (goodIn_of _ (by decide +kernel)) ggX12_chain_X12_laysLink
def wbX12_chain_0 (rec : Nat → XT → (Nat → Int32) → (Nat → Int64) → (Int64 → XT → Prop) → Prop) (k : Nat) (t : XT) (li : Nat → Int32) (lj : Nat → Int64) (Q : Int64 → XT → Prop) : Prop :=
  (wqX12_isCritical k t (li 1) (fun r_1 t_1 => ((r_1 = 0) → rec 1 t_1 li lj Q) ∧ (¬ (r_1 = 0) → (wqX12_isThere k t_1 (li 2) (fun r_3 t_3 => ((r_3 = 0) → rec 1 t_3 li lj Q) ∧ (¬ (r_3 = 0) → (wqX12_dimOf k t_3 (li 2) (fun r_5 t_5 => (wqX12_dimOf k t_5 (li 1) (fun r_6 t_6 => ((r_5 = r_6) → rec 2 t_6 (uI li 3 0) lj Q) ∧ (¬ (r_5 = r_6) → rec 1 t_6 li lj Q)))))))))))
def wbX12_chain_1 (rec : Nat → XT → (Nat → Int32) → (Nat → Int64) → (Int64 → XT → Prop) → Prop) (k : Nat) (t : XT) (li : Nat → Int32) (lj : Nat → Int64) (Q : Int64 → XT → Prop) : Prop :=
  Q (-9223372036854775808) t
def wbX12_chain_2 (rec : Nat → XT → (Nat → Int32) → (Nat → Int64) → (Int64 → XT → Prop) → Prop) (k : Nat) (t : XT) (li : Nat → Int32) (lj : Nat → Int64) (Q : Int64 → XT → Prop) : Prop :=
  ((((t.1 3) : Int32) ≤ (li 3)) → rec 7 t (uI li 3 1) lj Q) ∧ (¬ (((t.1 3) : Int32) ≤ (li 3)) → (wqX12_isThere k t (li 3) (fun r_9 t_9 => ((r_9 = 0) → rec 3 t_9 li lj Q) ∧ (¬ (r_9 = 0) → (vp_in (li 3) 60 ∧ (∀ v_11 : Int32, v_11 = (t_9.2.2.1 4) (li 3).toNatClampNeg → ((v_11 = (-1)) → rec 3 t_9 li lj Q) ∧ (¬ (v_11 = (-1)) → (wqX12_isLower k t_9 (li 3) (fun r_13 t_13 => ((¬ r_13 = 0) → rec 3 t_13 li lj Q) ∧ ((r_13 = 0) → (wqX12_dimOf k t_13 (li 3) (fun r_15 t_15 => (wqX12_dimOf k t_15 (li 2) (fun r_16 t_16 => ((¬ r_15 = r_16) → rec 3 t_16 li lj Q) ∧ ((r_15 = r_16) → rec 4 t_16 (uI li 100 1) lj Q)))))))))))))))
def wbX12_chain_3 (rec : Nat → XT → (Nat → Int32) → (Nat → Int64) → (Int64 → XT → Prop) → Prop) (k : Nat) (t : XT) (li : Nat → Int32) (lj : Nat → Int64) (Q : Int64 → XT → Prop) : Prop :=
  rec 4 t (uI li 100 0) lj Q
def wbX12_chain_4 (rec : Nat → XT → (Nat → Int32) → (Nat → Int64) → (Int64 → XT → Prop) → Prop) (k : Nat) (t : XT) (li : Nat → Int32) (lj : Nat → Int64) (Q : Int64 → XT → Prop) : Prop :=
  (((li 100) = 0) → ((¬ (li 3) = (li 1)) → rec 5 t (uI (uI (uI li 4 (li 100)) 102 0) 101 (li 3)) lj Q) ∧ (((li 3) = (li 1)) → rec 5 t (uI (uI (uI li 4 (li 100)) 102 1) 101 (li 3)) lj Q)) ∧ (¬ ((li 100) = 0) → rec 6 t (uI (uI li 4 (li 100)) 101 (li 3)) (uI lj 102 (-9223372036854775807)) Q)
def wbX12_chain_5 (rec : Nat → XT → (Nat → Int32) → (Nat → Int64) → (Int64 → XT → Prop) → Prop) (k : Nat) (t : XT) (li : Nat → Int32) (lj : Nat → Int64) (Q : Int64 → XT → Prop) : Prop :=
  (wqX12_truth k (li 102) (fun r_20 => (∀ v_21 : Int64, v_21 = r_20.toInt64 → rec 6 t (uI li 101 (li 101)) (uI lj 102 v_21) Q)))
def wbX12_chain_6 (rec : Nat → XT → (Nat → Int32) → (Nat → Int64) → (Int64 → XT → Prop) → Prop) (k : Nat) (t : XT) (li : Nat → Int32) (lj : Nat → Int64) (Q : Int64 → XT → Prop) : Prop :=
  (vp_in (li 101) 60 ∧ (∀ t_22 : XT, t_22 = sB t 3 (vp_updL (t.2.2.2 3) (li 101).toNatClampNeg (lj 102)) → (∀ v_23 : Int32, v_23 = (li 3) + Int32.ofInt 1 → rec 2 t_22 (uI li 3 v_23) lj Q)))
def wbX12_chain_7 (rec : Nat → XT → (Nat → Int32) → (Nat → Int64) → (Int64 → XT → Prop) → Prop) (k : Nat) (t : XT) (li : Nat → Int32) (lj : Nat → Int64) (Q : Int64 → XT → Prop) : Prop :=
  (((li 3) = 0) → (vp_in (li 2) 60 ∧ (∀ v_25 : Int64, v_25 = (t.2.2.2 3) (li 2).toNatClampNeg → Q v_25 t))) ∧ (¬ ((li 3) = 0) → rec 8 t (uI (uI li 3 0) 4 0) lj Q)
def wbX12_chain_8 (rec : Nat → XT → (Nat → Int32) → (Nat → Int64) → (Int64 → XT → Prop) → Prop) (k : Nat) (t : XT) (li : Nat → Int32) (lj : Nat → Int64) (Q : Int64 → XT → Prop) : Prop :=
  ((((t.1 3) : Int32) ≤ (li 4)) → rec 7 t li lj Q) ∧ (¬ (((t.1 3) : Int32) ≤ (li 4)) → (vp_in (li 4) 60 ∧ (∀ v_27 : Int64, v_27 = (t.2.2.2 3) (li 4).toNatClampNeg → (∀ v_28 : Int32, v_28 = (lg_cmp v_27 (-9223372036854775807)) → ((¬ v_28 = 0) → rec 11 t li lj Q) ∧ ((v_28 = 0) → (wqX12_laysLink k t (li 4) (fun r_30 t_30 => ((¬ r_30 = 0) → rec 9 t_30 li lj Q) ∧ ((r_30 = 0) → (((li 3) = 0) → rec 10 t_30 (uI li 100 0) lj Q) ∧ (¬ ((li 3) = 0) → rec 9 t_30 li lj Q)))))))))
def wbX12_chain_9 (rec : Nat → XT → (Nat → Int32) → (Nat → Int64) → (Int64 → XT → Prop) → Prop) (k : Nat) (t : XT) (li : Nat → Int32) (lj : Nat → Int64) (Q : Int64 → XT → Prop) : Prop :=
  rec 10 t (uI li 100 1) lj Q
def wbX12_chain_10 (rec : Nat → XT → (Nat → Int32) → (Nat → Int64) → (Int64 → XT → Prop) → Prop) (k : Nat) (t : XT) (li : Nat → Int32) (lj : Nat → Int64) (Q : Int64 → XT → Prop) : Prop :=
  rec 11 t (uI li 3 (li 100)) lj Q
def wbX12_chain_11 (rec : Nat → XT → (Nat → Int32) → (Nat → Int64) → (Int64 → XT → Prop) → Prop) (k : Nat) (t : XT) (li : Nat → Int32) (lj : Nat → Int64) (Q : Int64 → XT → Prop) : Prop :=
  (∀ v_33 : Int32, v_33 = (li 4) + Int32.ofInt 1 → rec 8 t (uI li 4 v_33) lj Q)
def wpX12_chain : Nat → Nat → XT → (Nat → Int32) → (Nat → Int64) → (Int64 → XT → Prop) → Prop
  | 0, _, _, _, _, _ => False
  | k + 1, 0, t, li, lj, Q => wbX12_chain_0 (wpX12_chain k) k t li lj Q
  | k + 1, 1, t, li, lj, Q => wbX12_chain_1 (wpX12_chain k) k t li lj Q
  | k + 1, 2, t, li, lj, Q => wbX12_chain_2 (wpX12_chain k) k t li lj Q
  | k + 1, 3, t, li, lj, Q => wbX12_chain_3 (wpX12_chain k) k t li lj Q
  | k + 1, 4, t, li, lj, Q => wbX12_chain_4 (wpX12_chain k) k t li lj Q
  | k + 1, 5, t, li, lj, Q => wbX12_chain_5 (wpX12_chain k) k t li lj Q
  | k + 1, 6, t, li, lj, Q => wbX12_chain_6 (wpX12_chain k) k t li lj Q
  | k + 1, 7, t, li, lj, Q => wbX12_chain_7 (wpX12_chain k) k t li lj Q
  | k + 1, 8, t, li, lj, Q => wbX12_chain_8 (wpX12_chain k) k t li lj Q
  | k + 1, 9, t, li, lj, Q => wbX12_chain_9 (wpX12_chain k) k t li lj Q
  | k + 1, 10, t, li, lj, Q => wbX12_chain_10 (wpX12_chain k) k t li lj Q
  | k + 1, 11, t, li, lj, Q => wbX12_chain_11 (wpX12_chain k) k t li lj Q
  | _ + 1, _, _, _, _, _ => False
def wqX12_chain (k : Nat) (t : XT) (a1 : Int32) (a2 : Int32) (Q : Int64 → XT → Prop) : Prop := wpX12_chain k 0 t (uI (uI (fun _ => 0) 1 a1) 2 a2) (fun _ => 0) Q
set_option maxHeartbeats 8000000 in
set_option maxRecDepth 100000 in
theorem wkX12_chain (l : Launch) (D : va_G) (cI cJ cB cZ : ClassId) (bd : Nat → Nat) (k : Nat) (t : XT) (a1 : Int32) (a2 : Int32) (Q : Int64 → XT → Prop) (hR : wqX12_chain k t a1 a2 Q) : MetL l yX12_chain wsX12_chain 5 110 0 0 D (TYS cI cJ cB cZ) (wM cI cJ cB cZ bd t) [.ref (bd 0), .int a1, .int a2] (fun r u => Q r u) (fun u : XT => (wM cI cJ cB cZ bd u)) := by
  refine x_startL (ty := .long) (cc := cX12_chain) (by decide) rfl (Nat.le_of_ble_eq_true rfl) ?_
  intro p e s m args below meth c A ls B hr hnm h hl
  have hx := B.1.1
  have hb := B.1.2.1
  have hml := B.1.2.2.1
  have hts := B.1.2.2.2.2
  have hown : s.vm.findClass RX12 = some m.cls := B.1.2.2.2.1
  have hin12 : ∀ w ∈ u_ws RX12 TX12 31, w ∈ wsX12_chain := by decide +kernel
  have main : ∀ k : Nat, (∀ (t : XT) (li : Nat → Int32) (lj : Nat → Int64) (H : Heap) (locs : List Loc) (ls : Array Slot), wpX12_chain k 0 t li lj Q → lv_has ls 5 [(0, .ref (bd 0)), (1, .int (li 1)), (2, .int (li 2))] → Hp D A s.heap (wM cI cJ cB cZ bd t) H locs → W p l e { frames := 5, cells := 0, slots := 0, locals := 110 } s m args below meth c H locs 0 0 (MQ below (va_Ql (fun r u => Q r u) (fun u t => xEnd D ((fun u : XT => (wM cI cJ cB cZ bd u)) u) A t) A) args s 0 0 A) (F0 m 0 ls [])) ∧
      (∀ (t : XT) (li : Nat → Int32) (lj : Nat → Int64) (H : Heap) (locs : List Loc) (ls : Array Slot), wpX12_chain k 1 t li lj Q → lv_has ls 5 [(0, .ref (bd 0)), (1, .int (li 1)), (2, .int (li 2))] → Hp D A s.heap (wM cI cJ cB cZ bd t) H locs → W p l e { frames := 5, cells := 0, slots := 0, locals := 110 } s m args below meth c H locs 0 0 (MQ below (va_Ql (fun r u => Q r u) (fun u t => xEnd D ((fun u : XT => (wM cI cJ cB cZ bd u)) u) A t) A) args s 0 0 A) (F0 m 29 ls [])) ∧
      (∀ (t : XT) (li : Nat → Int32) (lj : Nat → Int64) (H : Heap) (locs : List Loc) (ls : Array Slot), wpX12_chain k 2 t li lj Q → lv_has ls 5 [(0, .ref (bd 0)), (1, .int (li 1)), (2, .int (li 2)), (3, .int (li 3))] → Hp D A s.heap (wM cI cJ cB cZ bd t) H locs → W p l e { frames := 5, cells := 0, slots := 0, locals := 110 } s m args below meth c H locs 0 0 (MQ below (va_Ql (fun r u => Q r u) (fun u t => xEnd D ((fun u : XT => (wM cI cJ cB cZ bd u)) u) A t) A) args s 0 0 A) (F0 m 35 ls [])) ∧
      (∀ (t : XT) (li : Nat → Int32) (lj : Nat → Int64) (H : Heap) (locs : List Loc) (ls : Array Slot), wpX12_chain k 3 t li lj Q → lv_has ls 5 [(0, .ref (bd 0)), (1, .int (li 1)), (2, .int (li 2)), (3, .int (li 3))] → Hp D A s.heap (wM cI cJ cB cZ bd t) H locs → W p l e { frames := 5, cells := 0, slots := 0, locals := 110 } s m args below meth c H locs 0 0 (MQ below (va_Ql (fun r u => Q r u) (fun u t => xEnd D ((fun u : XT => (wM cI cJ cB cZ bd u)) u) A t) A) args s 0 0 A) (F0 m 86 ls [])) ∧
      (∀ (t : XT) (li : Nat → Int32) (lj : Nat → Int64) (H : Heap) (locs : List Loc) (ls : Array Slot), wpX12_chain k 4 t li lj Q → lv_has ls 5 [(0, .ref (bd 0)), (1, .int (li 1)), (2, .int (li 2)), (3, .int (li 3))] → Hp D A s.heap (wM cI cJ cB cZ bd t) H locs → W p l e { frames := 5, cells := 0, slots := 0, locals := 110 } s m args below meth c H locs 0 0 (MQ below (va_Ql (fun r u => Q r u) (fun u t => xEnd D ((fun u : XT => (wM cI cJ cB cZ bd u)) u) A t) A) args s 0 0 A) (F0 m 87 ls [.int (li 100)])) ∧
      (∀ (t : XT) (li : Nat → Int32) (lj : Nat → Int64) (H : Heap) (locs : List Loc) (ls : Array Slot), wpX12_chain k 5 t li lj Q → lv_has ls 5 [(0, .ref (bd 0)), (1, .int (li 1)), (2, .int (li 2)), (3, .int (li 3)), (4, .int (li 4))] → Hp D A s.heap (wM cI cJ cB cZ bd t) H locs → W p l e { frames := 5, cells := 0, slots := 0, locals := 110 } s m args below meth c H locs 0 0 (MQ below (va_Ql (fun r u => Q r u) (fun u t => xEnd D ((fun u : XT => (wM cI cJ cB cZ bd u)) u) A t) A) args s 0 0 A) (F0 m 115 ls [.int (li 102), .int (li 101), .ref (bd 15)])) ∧
      (∀ (t : XT) (li : Nat → Int32) (lj : Nat → Int64) (H : Heap) (locs : List Loc) (ls : Array Slot), wpX12_chain k 6 t li lj Q → lv_has ls 5 [(0, .ref (bd 0)), (1, .int (li 1)), (2, .int (li 2)), (3, .int (li 3)), (4, .int (li 4))] → Hp D A s.heap (wM cI cJ cB cZ bd t) H locs → W p l e { frames := 5, cells := 0, slots := 0, locals := 110 } s m args below meth c H locs 0 0 (MQ below (va_Ql (fun r u => Q r u) (fun u t => xEnd D ((fun u : XT => (wM cI cJ cB cZ bd u)) u) A t) A) args s 0 0 A) (F0 m 119 ls [.long (lj 102), .int (li 101), .ref (bd 15)])) ∧
      (∀ (t : XT) (li : Nat → Int32) (lj : Nat → Int64) (H : Heap) (locs : List Loc) (ls : Array Slot), wpX12_chain k 7 t li lj Q → lv_has ls 5 [(0, .ref (bd 0)), (1, .int (li 1)), (2, .int (li 2)), (3, .int (li 3))] → Hp D A s.heap (wM cI cJ cB cZ bd t) H locs → W p l e { frames := 5, cells := 0, slots := 0, locals := 110 } s m args below meth c H locs 0 0 (MQ below (va_Ql (fun r u => Q r u) (fun u t => xEnd D ((fun u : XT => (wM cI cJ cB cZ bd u)) u) A t) A) args s 0 0 A) (F0 m 128 ls [])) ∧
      (∀ (t : XT) (li : Nat → Int32) (lj : Nat → Int64) (H : Heap) (locs : List Loc) (ls : Array Slot), wpX12_chain k 8 t li lj Q → lv_has ls 5 [(0, .ref (bd 0)), (1, .int (li 1)), (2, .int (li 2)), (3, .int (li 3)), (4, .int (li 4))] → Hp D A s.heap (wM cI cJ cB cZ bd t) H locs → W p l e { frames := 5, cells := 0, slots := 0, locals := 110 } s m args below meth c H locs 0 0 (MQ below (va_Ql (fun r u => Q r u) (fun u t => xEnd D ((fun u : XT => (wM cI cJ cB cZ bd u)) u) A t) A) args s 0 0 A) (F0 m 137 ls [])) ∧
      (∀ (t : XT) (li : Nat → Int32) (lj : Nat → Int64) (H : Heap) (locs : List Loc) (ls : Array Slot), wpX12_chain k 9 t li lj Q → lv_has ls 5 [(0, .ref (bd 0)), (1, .int (li 1)), (2, .int (li 2)), (3, .int (li 3)), (4, .int (li 4))] → Hp D A s.heap (wM cI cJ cB cZ bd t) H locs → W p l e { frames := 5, cells := 0, slots := 0, locals := 110 } s m args below meth c H locs 0 0 (MQ below (va_Ql (fun r u => Q r u) (fun u t => xEnd D ((fun u : XT => (wM cI cJ cB cZ bd u)) u) A t) A) args s 0 0 A) (F0 m 173 ls [])) ∧
      (∀ (t : XT) (li : Nat → Int32) (lj : Nat → Int64) (H : Heap) (locs : List Loc) (ls : Array Slot), wpX12_chain k 10 t li lj Q → lv_has ls 5 [(0, .ref (bd 0)), (1, .int (li 1)), (2, .int (li 2)), (3, .int (li 3)), (4, .int (li 4))] → Hp D A s.heap (wM cI cJ cB cZ bd t) H locs → W p l e { frames := 5, cells := 0, slots := 0, locals := 110 } s m args below meth c H locs 0 0 (MQ below (va_Ql (fun r u => Q r u) (fun u t => xEnd D ((fun u : XT => (wM cI cJ cB cZ bd u)) u) A t) A) args s 0 0 A) (F0 m 178 ls [.int (li 100)])) ∧
      (∀ (t : XT) (li : Nat → Int32) (lj : Nat → Int64) (H : Heap) (locs : List Loc) (ls : Array Slot), wpX12_chain k 11 t li lj Q → lv_has ls 5 [(0, .ref (bd 0)), (1, .int (li 1)), (2, .int (li 2)), (3, .int (li 3)), (4, .int (li 4))] → Hp D A s.heap (wM cI cJ cB cZ bd t) H locs → W p l e { frames := 5, cells := 0, slots := 0, locals := 110 } s m args below meth c H locs 0 0 (MQ below (va_Ql (fun r u => Q r u) (fun u t => xEnd D ((fun u : XT => (wM cI cJ cB cZ bd u)) u) A t) A) args s 0 0 A) (F0 m 179 ls [])) := by
    intro k
    induction k with
    | zero => exact ⟨fun _ _ _ _ _ _ hR => False.elim hR, fun _ _ _ _ _ _ hR => False.elim hR, fun _ _ _ _ _ _ hR => False.elim hR, fun _ _ _ _ _ _ hR => False.elim hR, fun _ _ _ _ _ _ hR => False.elim hR, fun _ _ _ _ _ _ hR => False.elim hR, fun _ _ _ _ _ _ hR => False.elim hR, fun _ _ _ _ _ _ hR => False.elim hR, fun _ _ _ _ _ _ hR => False.elim hR, fun _ _ _ _ _ _ hR => False.elim hR, fun _ _ _ _ _ _ hR => False.elim hR, fun _ _ _ _ _ _ hR => False.elim hR⟩
    | succ k ih =>
      refine ⟨?_, ?_, ?_, ?_, ?_, ?_, ?_, ?_, ?_, ?_, ?_, ?_⟩
      · intro t li lj H locs ls hR hl h
        have hR : wbX12_chain_0 (wpX12_chain k) k t li lj Q := hR
        unfold wbX12_chain_0 at hR
        refine lv_aload_n hx hb dX12_chain_0 rfl (lv_at hl 0 rfl) ?_
        refine lv_iload_n hx hb dX12_chain_1 rfl (lv_at hl 1 rfl) ?_
        refine x_cVIF (n := 1) (As := [.int (li 1)]) (rest := []) B h (wkX12_isCritical l D cI cJ cB cZ bd k t (li 1) _ hR) ⟨⟨_, rfl⟩, by decide +kernel, Nat.le_of_ble_eq_true rfl, Nat.le_of_ble_eq_true rfl⟩ gX12_chain_X12_isCritical (show ((wM cI cJ cB cZ bd t) : va_W)[0]? = some (_, .inr (12, _)) from rfl) rfl rfl hl.1 rfl (Nat.le_of_ble_eq_true rfl) dX12_chain_2 ⟨Nat.le_of_ble_eq_true rfl, Nat.le_of_ble_eq_true rfl⟩ (fun r_1 t_1 H locs hR h => ?_)
        refine lv_if_eq (tgt := 29) hx hb dX12_chain_5 (by decide) (fun c_2 => ?_) (fun c_2 => ?_)
        · have hR := hR.1 c_2
          exact ih.2.1 t_1 li lj H locs ls hR (lv_sub hl [0, 1, 2] rfl) h
        · have hR := hR.2 c_2
          refine lv_aload_n hx hb dX12_chain_8 rfl (lv_at hl 0 rfl) ?_
          refine lv_iload_n hx hb dX12_chain_9 rfl (lv_at hl 2 rfl) ?_
          refine x_cVIF (n := 1) (As := [.int (li 2)]) (rest := []) B h (wkX12_isThere l D cI cJ cB cZ bd k t_1 (li 2) _ hR) ⟨⟨_, rfl⟩, by decide +kernel, Nat.le_of_ble_eq_true rfl, Nat.le_of_ble_eq_true rfl⟩ gX12_chain_X12_isThere (show ((wM cI cJ cB cZ bd t_1) : va_W)[0]? = some (_, .inr (12, _)) from rfl) rfl rfl hl.1 rfl (Nat.le_of_ble_eq_true rfl) dX12_chain_10 ⟨Nat.le_of_ble_eq_true rfl, Nat.le_of_ble_eq_true rfl⟩ (fun r_3 t_3 H locs hR h => ?_)
          refine lv_if_eq (tgt := 29) hx hb dX12_chain_13 (by decide) (fun c_4 => ?_) (fun c_4 => ?_)
          · have hR := hR.1 c_4
            exact ih.2.1 t_3 li lj H locs ls hR (lv_sub hl [0, 1, 2] rfl) h
          · have hR := hR.2 c_4
            refine lv_aload_n hx hb dX12_chain_16 rfl (lv_at hl 0 rfl) ?_
            refine lv_iload_n hx hb dX12_chain_17 rfl (lv_at hl 2 rfl) ?_
            refine x_cVIF (n := 1) (As := [.int (li 2)]) (rest := []) B h (wkX12_dimOf l D cI cJ cB cZ bd k t_3 (li 2) _ hR) ⟨⟨_, rfl⟩, by decide +kernel, Nat.le_of_ble_eq_true rfl, Nat.le_of_ble_eq_true rfl⟩ gX12_chain_X12_dimOf (show ((wM cI cJ cB cZ bd t_3) : va_W)[0]? = some (_, .inr (12, _)) from rfl) rfl rfl hl.1 rfl (Nat.le_of_ble_eq_true rfl) dX12_chain_18 ⟨Nat.le_of_ble_eq_true rfl, Nat.le_of_ble_eq_true rfl⟩ (fun r_5 t_5 H locs hR h => ?_)
            refine lv_aload_n hx hb dX12_chain_21 rfl (lv_at hl 0 rfl) ?_
            refine lv_iload_n hx hb dX12_chain_22 rfl (lv_at hl 1 rfl) ?_
            refine x_cVIF (n := 1) (As := [.int (li 1)]) (rest := [.int r_5]) B h (wkX12_dimOf l D cI cJ cB cZ bd k t_5 (li 1) _ hR) ⟨⟨_, rfl⟩, by decide +kernel, Nat.le_of_ble_eq_true rfl, Nat.le_of_ble_eq_true rfl⟩ gX12_chain_X12_dimOf (show ((wM cI cJ cB cZ bd t_5) : va_W)[0]? = some (_, .inr (12, _)) from rfl) rfl rfl hl.1 rfl (Nat.le_of_ble_eq_true rfl) dX12_chain_23 ⟨Nat.le_of_ble_eq_true rfl, Nat.le_of_ble_eq_true rfl⟩ (fun r_6 t_6 H locs hR h => ?_)
            refine lv_icmp_eq (tgt := 33) hx hb dX12_chain_26 (by decide) (fun c_7 => ?_) (fun c_7 => ?_)
            · have hR := hR.1 c_7
              refine lv_iconst (v := 0) hx hb dX12_chain_33 (by decide) ?_
              refine lv_istore_n (lv' := [(3, .int 0), (0, .ref (bd 0)), (1, .int (li 1)), (2, .int (li 2))]) hx hb dX12_chain_34 rfl hl (by decide) rfl (fun ls hl => ?_)
              exact ih.2.2.1 t_6 (uI li 3 0) lj H locs ls hR (lv_sub hl [1, 2, 3, 0] rfl) h
            · have hR := hR.2 c_7
              exact ih.2.1 t_6 li lj H locs ls hR (lv_sub hl [0, 1, 2] rfl) h
      · intro t li lj H locs ls hR hl h
        have hR : wbX12_chain_1 (wpX12_chain k) k t li lj Q := hR
        unfold wbX12_chain_1 at hR
        refine lv_ldc2 (v := (-9223372036854775808)) hx hb hown (hts (.constantLong RX12 241 (-9223372036854775808)) (by decide +kernel)) dX12_chain_29 ?_
        exact x_lret (w1 := (fun u : XT => (wM cI cJ cB cZ bd u))) t B h hr hR dX12_chain_32
      · intro t li lj H locs ls hR hl h
        have hR : wbX12_chain_2 (wpX12_chain k) k t li lj Q := hR
        unfold wbX12_chain_2 at hR
        refine lv_iload_n hx hb dX12_chain_35 rfl (lv_at hl 3 rfl) ?_
        refine lv_aload_n hx hb dX12_chain_36 rfl (lv_at hl 0 rfl) ?_
        refine x_get (ci := 12) (C := RX12) (T := TX12) (N := 31) (v := .int (t.1 3)) B h hin12 0 5 rfl rfl (by decide) (by decide +kernel) rfl dX12_chain_37 ?_
        refine lv_icmp_ge (tgt := 126) hx hb dX12_chain_40 (by decide) (fun c_8 => ?_) (fun c_8 => ?_)
        · have hR := hR.1 c_8
          refine lv_iconst (v := 1) hx hb dX12_chain_126 (by decide) ?_
          refine lv_istore_n (lv' := [(3, .int 1), (0, .ref (bd 0)), (1, .int (li 1)), (2, .int (li 2))]) hx hb dX12_chain_127 rfl hl (by decide) rfl (fun ls hl => ?_)
          exact ih.2.2.2.2.2.2.2.1 t (uI li 3 1) lj H locs ls hR (lv_sub hl [1, 2, 3, 0] rfl) h
        · have hR := hR.2 c_8
          refine lv_aload_n hx hb dX12_chain_43 rfl (lv_at hl 0 rfl) ?_
          refine lv_iload_n hx hb dX12_chain_44 rfl (lv_at hl 3 rfl) ?_
          refine x_cVIF (n := 1) (As := [.int (li 3)]) (rest := []) B h (wkX12_isThere l D cI cJ cB cZ bd k t (li 3) _ hR) ⟨⟨_, rfl⟩, by decide +kernel, Nat.le_of_ble_eq_true rfl, Nat.le_of_ble_eq_true rfl⟩ gX12_chain_X12_isThere (show ((wM cI cJ cB cZ bd t) : va_W)[0]? = some (_, .inr (12, _)) from rfl) rfl rfl hl.1 rfl (Nat.le_of_ble_eq_true rfl) dX12_chain_45 ⟨Nat.le_of_ble_eq_true rfl, Nat.le_of_ble_eq_true rfl⟩ (fun r_9 t_9 H locs hR h => ?_)
          refine lv_if_eq (tgt := 86) hx hb dX12_chain_48 (by decide) (fun c_10 => ?_) (fun c_10 => ?_)
          · have hR := hR.1 c_10
            exact ih.2.2.2.1 t_9 li lj H locs ls hR (lv_sub hl [0, 1, 2, 3] rfl) h
          · have hR := hR.2 c_10
            refine lv_aload_n hx hb dX12_chain_51 rfl (lv_at hl 0 rfl) ?_
            refine x_get (ci := 12) (C := RX12) (T := TX12) (N := 31) (v := .ref (bd 5)) B h hin12 0 8 rfl rfl (by decide) (by decide +kernel) rfl dX12_chain_52 ?_
            refine lv_iload_n hx hb dX12_chain_55 rfl (lv_at hl 3 rfl) ?_
            obtain ⟨hb_11, hR⟩ := hR
            refine va_iald (f := (t_9.2.2.1 4)) hx hb B.2.1 h.1 5 0 rfl rfl hb_11 dX12_chain_56 ?_
            refine lv_topi (fun v_11 ev_11 => ?_)
            have hR := hR v_11 ev_11
            refine lv_iconst (v := (-1)) hx hb dX12_chain_57 (by decide) ?_
            refine lv_icmp_eq (tgt := 86) hx hb dX12_chain_58 (by decide) (fun c_12 => ?_) (fun c_12 => ?_)
            · have hR := hR.1 c_12
              exact ih.2.2.2.1 t_9 li lj H locs ls hR (lv_sub hl [0, 1, 2, 3] rfl) h
            · have hR := hR.2 c_12
              refine lv_aload_n hx hb dX12_chain_61 rfl (lv_at hl 0 rfl) ?_
              refine lv_iload_n hx hb dX12_chain_62 rfl (lv_at hl 3 rfl) ?_
              refine x_cVIF (n := 1) (As := [.int (li 3)]) (rest := []) B h (wkX12_isLower l D cI cJ cB cZ bd k t_9 (li 3) _ hR) ⟨⟨_, rfl⟩, by decide +kernel, Nat.le_of_ble_eq_true rfl, Nat.le_of_ble_eq_true rfl⟩ gX12_chain_X12_isLower (show ((wM cI cJ cB cZ bd t_9) : va_W)[0]? = some (_, .inr (12, _)) from rfl) rfl rfl hl.1 rfl (Nat.le_of_ble_eq_true rfl) dX12_chain_63 ⟨Nat.le_of_ble_eq_true rfl, Nat.le_of_ble_eq_true rfl⟩ (fun r_13 t_13 H locs hR h => ?_)
              refine lv_if_ne (tgt := 86) hx hb dX12_chain_66 (by decide) (fun c_14 => ?_) (fun c_14 => ?_)
              · have hR := hR.1 c_14
                exact ih.2.2.2.1 t_13 li lj H locs ls hR (lv_sub hl [0, 1, 2, 3] rfl) h
              · have hR := hR.2 c_14
                refine lv_aload_n hx hb dX12_chain_69 rfl (lv_at hl 0 rfl) ?_
                refine lv_iload_n hx hb dX12_chain_70 rfl (lv_at hl 3 rfl) ?_
                refine x_cVIF (n := 1) (As := [.int (li 3)]) (rest := []) B h (wkX12_dimOf l D cI cJ cB cZ bd k t_13 (li 3) _ hR) ⟨⟨_, rfl⟩, by decide +kernel, Nat.le_of_ble_eq_true rfl, Nat.le_of_ble_eq_true rfl⟩ gX12_chain_X12_dimOf (show ((wM cI cJ cB cZ bd t_13) : va_W)[0]? = some (_, .inr (12, _)) from rfl) rfl rfl hl.1 rfl (Nat.le_of_ble_eq_true rfl) dX12_chain_71 ⟨Nat.le_of_ble_eq_true rfl, Nat.le_of_ble_eq_true rfl⟩ (fun r_15 t_15 H locs hR h => ?_)
                refine lv_aload_n hx hb dX12_chain_74 rfl (lv_at hl 0 rfl) ?_
                refine lv_iload_n hx hb dX12_chain_75 rfl (lv_at hl 2 rfl) ?_
                refine x_cVIF (n := 1) (As := [.int (li 2)]) (rest := [.int r_15]) B h (wkX12_dimOf l D cI cJ cB cZ bd k t_15 (li 2) _ hR) ⟨⟨_, rfl⟩, by decide +kernel, Nat.le_of_ble_eq_true rfl, Nat.le_of_ble_eq_true rfl⟩ gX12_chain_X12_dimOf (show ((wM cI cJ cB cZ bd t_15) : va_W)[0]? = some (_, .inr (12, _)) from rfl) rfl rfl hl.1 rfl (Nat.le_of_ble_eq_true rfl) dX12_chain_76 ⟨Nat.le_of_ble_eq_true rfl, Nat.le_of_ble_eq_true rfl⟩ (fun r_16 t_16 H locs hR h => ?_)
                refine lv_icmp_ne (tgt := 86) hx hb dX12_chain_79 (by decide) (fun c_17 => ?_) (fun c_17 => ?_)
                · have hR := hR.1 c_17
                  exact ih.2.2.2.1 t_16 li lj H locs ls hR (lv_sub hl [0, 1, 2, 3] rfl) h
                · have hR := hR.2 c_17
                  refine lv_iconst (v := 1) hx hb dX12_chain_82 (by decide) ?_
                  refine lv_goto (tgt := 87) hx hb dX12_chain_83 (by decide) ?_
                  exact ih.2.2.2.2.1 t_16 (uI li 100 1) lj H locs ls hR (lv_sub hl [0, 1, 2, 3] rfl) h
      · intro t li lj H locs ls hR hl h
        have hR : wbX12_chain_3 (wpX12_chain k) k t li lj Q := hR
        unfold wbX12_chain_3 at hR
        refine lv_iconst (v := 0) hx hb dX12_chain_86 (by decide) ?_
        exact ih.2.2.2.2.1 t (uI li 100 0) lj H locs ls hR (lv_sub hl [0, 1, 2, 3] rfl) h
      · intro t li lj H locs ls hR hl h
        have hR : wbX12_chain_4 (wpX12_chain k) k t li lj Q := hR
        unfold wbX12_chain_4 at hR
        refine lv_istore (lv' := [(4, .int (li 100)), (0, .ref (bd 0)), (1, .int (li 1)), (2, .int (li 2)), (3, .int (li 3))]) hx hb dX12_chain_87 hl (by decide) rfl (fun ls hl => ?_)
        refine lv_aload_n hx hb dX12_chain_89 rfl (lv_at hl 1 rfl) ?_
        refine x_get (ci := 12) (C := RX12) (T := TX12) (N := 31) (v := .ref (bd 15)) B h hin12 0 20 rfl rfl (by decide) (by decide +kernel) rfl dX12_chain_90 ?_
        refine lv_iload_n hx hb dX12_chain_93 rfl (lv_at hl 4 rfl) ?_
        refine lv_iload hx hb dX12_chain_94 (lv_at hl 0 rfl) ?_
        refine lv_if_eq (tgt := 105) hx hb dX12_chain_96 (by decide) (fun c_18 => ?_) (fun c_18 => ?_)
        · have hR := hR.1 c_18
          refine lv_iload_n hx hb dX12_chain_105 rfl (lv_at hl 4 rfl) ?_
          refine lv_iload_n hx hb dX12_chain_106 rfl (lv_at hl 2 rfl) ?_
          refine lv_icmp_ne (tgt := 114) hx hb dX12_chain_107 (by decide) (fun c_19 => ?_) (fun c_19 => ?_)
          · have hR := hR.1 c_19
            refine lv_iconst (v := 0) hx hb dX12_chain_114 (by decide) ?_
            exact ih.2.2.2.2.2.1 t (uI (uI (uI li 4 (li 100)) 102 0) 101 (li 3)) lj H locs ls hR (lv_sub hl [1, 2, 3, 4, 0] rfl) h
          · have hR := hR.2 c_19
            refine lv_iconst (v := 1) hx hb dX12_chain_110 (by decide) ?_
            refine lv_goto (tgt := 115) hx hb dX12_chain_111 (by decide) ?_
            exact ih.2.2.2.2.2.1 t (uI (uI (uI li 4 (li 100)) 102 1) 101 (li 3)) lj H locs ls hR (lv_sub hl [1, 2, 3, 4, 0] rfl) h
        · have hR := hR.2 c_18
          refine lv_ldc2 (v := (-9223372036854775807)) hx hb hown (hts (.constantLong RX12 221 (-9223372036854775807)) (by decide +kernel)) dX12_chain_99 ?_
          refine lv_goto (tgt := 119) hx hb dX12_chain_102 (by decide) ?_
          exact ih.2.2.2.2.2.2.1 t (uI (uI li 4 (li 100)) 101 (li 3)) (uI lj 102 (-9223372036854775807)) H locs ls hR (lv_sub hl [1, 2, 3, 4, 0] rfl) h
      · intro t li lj H locs ls hR hl h
        have hR : wbX12_chain_5 (wpX12_chain k) k t li lj Q := hR
        unfold wbX12_chain_5 at hR
        refine x_cSIE (n := 1) (As := [.int (li 102)]) (rest := [.int (li 101), .ref (bd 15)]) B h (wkX12_truth l D cI cJ cB cZ bd k (li 102) _ hR) ⟨⟨_, rfl⟩, by decide +kernel, Nat.le_of_ble_eq_true rfl, Nat.le_of_ble_eq_true rfl⟩ gX12_chain_X12_truth rfl hl.1 rfl (Nat.le_of_ble_eq_true rfl) dX12_chain_115 ⟨Nat.le_of_ble_eq_true rfl, Nat.le_of_ble_eq_true rfl⟩ (fun r_20 _ H locs hR h => ?_)
        obtain ⟨v_21, ev_21⟩ : ∃ v : Int64, v = r_20.toInt64 := ⟨_, rfl⟩
        have hR := hR v_21 ev_21
        refine lv_i2l (v := v_21) hx hb dX12_chain_118 ev_21.symm ?_
        exact ih.2.2.2.2.2.2.1 t (uI li 101 (li 101)) (uI lj 102 v_21) H locs ls hR (lv_sub hl [0, 1, 2, 3, 4] rfl) h
      · intro t li lj H locs ls hR hl h
        have hR : wbX12_chain_6 (wpX12_chain k) k t li lj Q := hR
        unfold wbX12_chain_6 at hR
        obtain ⟨hb_22, hR⟩ := hR
        refine z_last (f := (t.2.2.2 3)) B h 15 1 rfl rfl hb_22 dX12_chain_119 (fun H locs h => ?_)
        obtain ⟨t_22, et_22⟩ : ∃ v : XT, v = sB t 3 (vp_updL (t.2.2.2 3) (li 101).toNatClampNeg (lj 102)) := ⟨_, rfl⟩
        have hR := hR t_22 et_22
        have h : Hp D A s.heap (wM cI cJ cB cZ bd t_22) H locs := by rw [et_22]; exact h
        obtain ⟨v_23, ev_23⟩ : ∃ v : Int32, v = (li 3) + Int32.ofInt 1 := ⟨_, rfl⟩
        have hR := hR v_23 ev_23
        refine lv_iinc (v := v_23) (lv' := [(3, .int v_23), (0, .ref (bd 0)), (1, .int (li 1)), (2, .int (li 2)), (4, .int (li 4))]) hx hb dX12_chain_120 hl (k := 3) rfl ev_23.symm (by decide) rfl (fun ls hl => ?_)
        refine lv_goto (tgt := 35) hx hb dX12_chain_123 (by decide) ?_
        exact ih.2.2.1 t_22 (uI li 3 v_23) lj H locs ls hR (lv_sub hl [1, 2, 3, 0] rfl) h
      · intro t li lj H locs ls hR hl h
        have hR : wbX12_chain_7 (wpX12_chain k) k t li lj Q := hR
        unfold wbX12_chain_7 at hR
        refine lv_iload_n hx hb dX12_chain_128 rfl (lv_at hl 3 rfl) ?_
        refine lv_if_eq (tgt := 188) hx hb dX12_chain_129 (by decide) (fun c_24 => ?_) (fun c_24 => ?_)
        · have hR := hR.1 c_24
          refine lv_aload_n hx hb dX12_chain_188 rfl (lv_at hl 0 rfl) ?_
          refine x_get (ci := 12) (C := RX12) (T := TX12) (N := 31) (v := .ref (bd 15)) B h hin12 0 20 rfl rfl (by decide) (by decide +kernel) rfl dX12_chain_189 ?_
          refine lv_iload_n hx hb dX12_chain_192 rfl (lv_at hl 2 rfl) ?_
          obtain ⟨hb_25, hR⟩ := hR
          refine va_lald (f := (t.2.2.2 3)) hx hb B.2.1 h.1 15 1 rfl rfl hb_25 dX12_chain_193 ?_
          refine lv_topl (fun v_25 ev_25 => ?_)
          have hR := hR v_25 ev_25
          exact x_lret (w1 := (fun u : XT => (wM cI cJ cB cZ bd u))) t B h hr hR dX12_chain_194
        · have hR := hR.2 c_24
          refine lv_iconst (v := 0) hx hb dX12_chain_132 (by decide) ?_
          refine lv_istore_n (lv' := [(3, .int 0), (0, .ref (bd 0)), (1, .int (li 1)), (2, .int (li 2))]) hx hb dX12_chain_133 rfl hl (by decide) rfl (fun ls hl => ?_)
          refine lv_iconst (v := 0) hx hb dX12_chain_134 (by decide) ?_
          refine lv_istore (lv' := [(4, .int 0), (3, .int 0), (0, .ref (bd 0)), (1, .int (li 1)), (2, .int (li 2))]) hx hb dX12_chain_135 hl (by decide) rfl (fun ls hl => ?_)
          exact ih.2.2.2.2.2.2.2.2.1 t (uI (uI li 3 0) 4 0) lj H locs ls hR (lv_sub hl [2, 3, 4, 1, 0] rfl) h
      · intro t li lj H locs ls hR hl h
        have hR : wbX12_chain_8 (wpX12_chain k) k t li lj Q := hR
        unfold wbX12_chain_8 at hR
        refine lv_iload hx hb dX12_chain_137 (lv_at hl 4 rfl) ?_
        refine lv_aload_n hx hb dX12_chain_139 rfl (lv_at hl 0 rfl) ?_
        refine x_get (ci := 12) (C := RX12) (T := TX12) (N := 31) (v := .int (t.1 3)) B h hin12 0 5 rfl rfl (by decide) (by decide +kernel) rfl dX12_chain_140 ?_
        refine lv_icmp_ge (tgt := 185) hx hb dX12_chain_143 (by decide) (fun c_26 => ?_) (fun c_26 => ?_)
        · have hR := hR.1 c_26
          refine lv_goto (tgt := 128) hx hb dX12_chain_185 (by decide) ?_
          exact ih.2.2.2.2.2.2.2.1 t li lj H locs ls hR (lv_sub hl [0, 1, 2, 3] rfl) h
        · have hR := hR.2 c_26
          refine lv_aload_n hx hb dX12_chain_146 rfl (lv_at hl 0 rfl) ?_
          refine x_get (ci := 12) (C := RX12) (T := TX12) (N := 31) (v := .ref (bd 15)) B h hin12 0 20 rfl rfl (by decide) (by decide +kernel) rfl dX12_chain_147 ?_
          refine lv_iload hx hb dX12_chain_150 (lv_at hl 4 rfl) ?_
          obtain ⟨hb_27, hR⟩ := hR
          refine va_lald (f := (t.2.2.2 3)) hx hb B.2.1 h.1 15 1 rfl rfl hb_27 dX12_chain_152 ?_
          refine lv_topl (fun v_27 ev_27 => ?_)
          have hR := hR v_27 ev_27
          refine lv_ldc2 (v := (-9223372036854775807)) hx hb hown (hts (.constantLong RX12 221 (-9223372036854775807)) (by decide +kernel)) dX12_chain_153 ?_
          refine W.lcmp hx hb dX12_chain_156 ?_
          refine lv_topi (fun v_28 ev_28 => ?_)
          have hR := hR v_28 ev_28
          refine lv_if_ne (tgt := 179) hx hb dX12_chain_157 (by decide) (fun c_29 => ?_) (fun c_29 => ?_)
          · have hR := hR.1 c_29
            exact ih.2.2.2.2.2.2.2.2.2.2.2 t li lj H locs ls hR (lv_sub hl [0, 1, 2, 3, 4] rfl) h
          · have hR := hR.2 c_29
            refine lv_aload_n hx hb dX12_chain_160 rfl (lv_at hl 0 rfl) ?_
            refine lv_iload hx hb dX12_chain_161 (lv_at hl 4 rfl) ?_
            refine x_cVIF (n := 1) (As := [.int (li 4)]) (rest := []) B h (wkX12_laysLink l D cI cJ cB cZ bd k t (li 4) _ hR) ⟨⟨_, rfl⟩, by decide +kernel, Nat.le_of_ble_eq_true rfl, Nat.le_of_ble_eq_true rfl⟩ gX12_chain_X12_laysLink (show ((wM cI cJ cB cZ bd t) : va_W)[0]? = some (_, .inr (12, _)) from rfl) rfl rfl hl.1 rfl (Nat.le_of_ble_eq_true rfl) dX12_chain_163 ⟨Nat.le_of_ble_eq_true rfl, Nat.le_of_ble_eq_true rfl⟩ (fun r_30 t_30 H locs hR h => ?_)
            refine lv_if_ne (tgt := 173) hx hb dX12_chain_166 (by decide) (fun c_31 => ?_) (fun c_31 => ?_)
            · have hR := hR.1 c_31
              exact ih.2.2.2.2.2.2.2.2.2.1 t_30 li lj H locs ls hR (lv_sub hl [0, 1, 2, 3, 4] rfl) h
            · have hR := hR.2 c_31
              refine lv_iload_n hx hb dX12_chain_169 rfl (lv_at hl 3 rfl) ?_
              refine lv_if_eq (tgt := 177) hx hb dX12_chain_170 (by decide) (fun c_32 => ?_) (fun c_32 => ?_)
              · have hR := hR.1 c_32
                refine lv_iconst (v := 0) hx hb dX12_chain_177 (by decide) ?_
                exact ih.2.2.2.2.2.2.2.2.2.2.1 t_30 (uI li 100 0) lj H locs ls hR (lv_sub hl [0, 1, 2, 3, 4] rfl) h
              · have hR := hR.2 c_32
                exact ih.2.2.2.2.2.2.2.2.2.1 t_30 li lj H locs ls hR (lv_sub hl [0, 1, 2, 3, 4] rfl) h
      · intro t li lj H locs ls hR hl h
        have hR : wbX12_chain_9 (wpX12_chain k) k t li lj Q := hR
        unfold wbX12_chain_9 at hR
        refine lv_iconst (v := 1) hx hb dX12_chain_173 (by decide) ?_
        refine lv_goto (tgt := 178) hx hb dX12_chain_174 (by decide) ?_
        exact ih.2.2.2.2.2.2.2.2.2.2.1 t (uI li 100 1) lj H locs ls hR (lv_sub hl [0, 1, 2, 3, 4] rfl) h
      · intro t li lj H locs ls hR hl h
        have hR : wbX12_chain_10 (wpX12_chain k) k t li lj Q := hR
        unfold wbX12_chain_10 at hR
        refine lv_istore_n (lv' := [(3, .int (li 100)), (0, .ref (bd 0)), (1, .int (li 1)), (2, .int (li 2)), (4, .int (li 4))]) hx hb dX12_chain_178 rfl hl (by decide) rfl (fun ls hl => ?_)
        exact ih.2.2.2.2.2.2.2.2.2.2.2 t (uI li 3 (li 100)) lj H locs ls hR (lv_sub hl [1, 2, 3, 0, 4] rfl) h
      · intro t li lj H locs ls hR hl h
        have hR : wbX12_chain_11 (wpX12_chain k) k t li lj Q := hR
        unfold wbX12_chain_11 at hR
        obtain ⟨v_33, ev_33⟩ : ∃ v : Int32, v = (li 4) + Int32.ofInt 1 := ⟨_, rfl⟩
        have hR := hR v_33 ev_33
        refine lv_iinc (v := v_33) (lv' := [(4, .int v_33), (0, .ref (bd 0)), (1, .int (li 1)), (2, .int (li 2)), (3, .int (li 3))]) hx hb dX12_chain_179 hl (k := 4) rfl ev_33.symm (by decide) rfl (fun ls hl => ?_)
        refine lv_goto (tgt := 137) hx hb dX12_chain_182 (by decide) ?_
        exact ih.2.2.2.2.2.2.2.2.1 t (uI li 4 v_33) lj H locs ls hR (lv_sub hl [1, 2, 3, 4, 0] rfl) h
  exact (main k).1 t _ _ s.heap [] ls hR hl h
set_option maxRecDepth 20000 in
theorem ggX12_root_X12_isThere : GoodIn wsX12_root wsX12_isThere := goodIn_r _ [8, 9, 10, 11, 12, 7, 13, 14, 15, 16, 17, 29, 30, 31, 32, 33, 34, 35, 36, 37, 38, 39, 40, 41, 42, 43, 44, 45, 46, 47, 48, 49, 50, 51, 52, 53, 54, 55, 56, 57, 58, 59] (by decide +kernel) (by decide +kernel)
set_option maxRecDepth 20000 in
theorem gX12_root_X12_isThere : GoodIn wsX12_root (wsV RX12 156 RX12 yX12_isThere wsX12_isThere) := goodIn_app (goodIn_of _ (by decide +kernel)) ggX12_root_X12_isThere
set_option maxRecDepth 20000 in
theorem ggX12_root_X12_dimOf : GoodIn wsX12_root wsX12_dimOf := goodIn_r _ [21, 3, 22, 23, 24, 25, 26, 27, 28, 29, 30, 31, 32, 33, 34, 35, 36, 37, 38, 39, 40, 41, 42, 43, 44, 45, 46, 47, 48, 49, 50, 51, 52, 53, 54, 55, 56, 57, 58, 59] (by decide +kernel) (by decide +kernel)
set_option maxRecDepth 20000 in
theorem gX12_root_X12_dimOf : GoodIn wsX12_root (wsV RX12 149 RX12 yX12_dimOf wsX12_dimOf) := goodIn_app (goodIn_of _ (by decide +kernel)) ggX12_root_X12_dimOf
set_option maxRecDepth 20000 in
theorem ggX12_root_X12_in : GoodIn wsX12_root wsX12_in := goodIn_r _ [17] (by decide +kernel) (by decide +kernel)
set_option maxRecDepth 20000 in
theorem gX12_root_X12_in : GoodIn wsX12_root (va_wsS RX12 101 yX12_in wsX12_in) := goodIn_app (goodIn_of _ (by decide +kernel)) ggX12_root_X12_in
def wbX12_root_0 (rec : Nat → XT → (Nat → Int32) → (Nat → Int64) → (Int32 → XT → Prop) → Prop) (k : Nat) (t : XT) (li : Nat → Int32) (lj : Nat → Int64) (Q : Int32 → XT → Prop) : Prop :=
  (wqX12_isThere k t (li 1) (fun r_1 t_1 => ((r_1 = 0) → rec 1 t_1 li lj Q) ∧ (¬ (r_1 = 0) → (wqX12_dimOf k t_1 (li 1) (fun r_3 t_3 => ((¬ r_3 = 0) → rec 1 t_3 li lj Q) ∧ ((r_3 = 0) → (wqX12_in k (li 2) 0 1 (fun r_5 => ((¬ r_5 = 0) → rec 2 t_3 (uI (uI li 3 (li 1)) 4 0) lj Q) ∧ ((r_5 = 0) → rec 1 t_3 li lj Q)))))))))
def wbX12_root_1 (rec : Nat → XT → (Nat → Int32) → (Nat → Int64) → (Int32 → XT → Prop) → Prop) (k : Nat) (t : XT) (li : Nat → Int32) (lj : Nat → Int64) (Q : Int32 → XT → Prop) : Prop :=
  Q (-1) t
def wbX12_root_2 (rec : Nat → XT → (Nat → Int32) → (Nat → Int64) → (Int32 → XT → Prop) → Prop) (k : Nat) (t : XT) (li : Nat → Int32) (lj : Nat → Int64) (Q : Int32 → XT → Prop) : Prop :=
  (vp_in (li 3) 60 ∧ (∀ v_7 : Int32, v_7 = (t.2.2.1 4) (li 3).toNatClampNeg → ((v_7 = (-1)) → ((¬ (li 2) = 0) → Q (li 4) t) ∧ (((li 2) = 0) → Q (li 3) t)) ∧ (¬ (v_7 = (-1)) → (vp_in (li 3) 60 ∧ (∀ v_10 : Int32, v_10 = (t.2.2.1 4) (li 3).toNatClampNeg → (vp_in v_10 60 ∧ (∀ v_11 : Int32, v_11 = (t.2.2.1 2) v_10.toNatClampNeg → (vp_in (li 3) 60 ∧ (∀ v_12 : Int32, v_12 = (t.2.2.1 2) (li 3).toNatClampNeg → (∀ v_13 : Int32, v_13 = (v_12 ^^^ (-1)) → (∀ v_14 : Int32, v_14 = (v_11 &&& v_13) → (vp_in v_14 256 ∧ (∀ v_15 : Int32, v_15 = (t.2.2.1 3) v_14.toNatClampNeg → (∀ v_16 : Int32, v_16 = (li 4) + Int32.ofInt 1 → rec 2 t (uI (uI li 3 v_15) 4 v_16) lj Q))))))))))))))
def wpX12_root : Nat → Nat → XT → (Nat → Int32) → (Nat → Int64) → (Int32 → XT → Prop) → Prop
  | 0, _, _, _, _, _ => False
  | k + 1, 0, t, li, lj, Q => wbX12_root_0 (wpX12_root k) k t li lj Q
  | k + 1, 1, t, li, lj, Q => wbX12_root_1 (wpX12_root k) k t li lj Q
  | k + 1, 2, t, li, lj, Q => wbX12_root_2 (wpX12_root k) k t li lj Q
  | _ + 1, _, _, _, _, _ => False
def wqX12_root (k : Nat) (t : XT) (a1 : Int32) (a2 : Int32) (Q : Int32 → XT → Prop) : Prop := wpX12_root k 0 t (uI (uI (fun _ => 0) 1 a1) 2 a2) (fun _ => 0) Q
set_option maxHeartbeats 8000000 in
set_option maxRecDepth 100000 in
theorem wkX12_root (l : Launch) (D : va_G) (cI cJ cB cZ : ClassId) (bd : Nat → Nat) (k : Nat) (t : XT) (a1 : Int32) (a2 : Int32) (Q : Int32 → XT → Prop) (hR : wqX12_root k t a1 a2 Q) : MetI l yX12_root wsX12_root 3 64 0 0 D (TYS cI cJ cB cZ) (wM cI cJ cB cZ bd t) [.ref (bd 0), .int a1, .int a2] (fun r u => Q r u) (fun u : XT => (wM cI cJ cB cZ bd u)) := by
  refine x_startI (ty := .int) (cc := cX12_root) (by decide) rfl (Nat.le_of_ble_eq_true rfl) ?_
  intro p e s m args below meth c A ls B hr hnm h hl
  have hx := B.1.1
  have hb := B.1.2.1
  have hml := B.1.2.2.1
  have hts := B.1.2.2.2.2
  have hown : s.vm.findClass RX12 = some m.cls := B.1.2.2.2.1
  have hin12 : ∀ w ∈ u_ws RX12 TX12 31, w ∈ wsX12_root := by decide +kernel
  have main : ∀ k : Nat, (∀ (t : XT) (li : Nat → Int32) (lj : Nat → Int64) (H : Heap) (locs : List Loc) (ls : Array Slot), wpX12_root k 0 t li lj Q → lv_has ls 5 [(0, .ref (bd 0)), (1, .int (li 1)), (2, .int (li 2))] → Hp D A s.heap (wM cI cJ cB cZ bd t) H locs → W p l e { frames := 3, cells := 0, slots := 0, locals := 64 } s m args below meth c H locs 0 0 (MQ below (va_Qi (fun r u => Q r u) (fun u t => xEnd D ((fun u : XT => (wM cI cJ cB cZ bd u)) u) A t) A) args s 0 0 A) (F0 m 0 ls [])) ∧
      (∀ (t : XT) (li : Nat → Int32) (lj : Nat → Int64) (H : Heap) (locs : List Loc) (ls : Array Slot), wpX12_root k 1 t li lj Q → lv_has ls 5 [(0, .ref (bd 0)), (1, .int (li 1)), (2, .int (li 2))] → Hp D A s.heap (wM cI cJ cB cZ bd t) H locs → W p l e { frames := 3, cells := 0, slots := 0, locals := 64 } s m args below meth c H locs 0 0 (MQ below (va_Qi (fun r u => Q r u) (fun u t => xEnd D ((fun u : XT => (wM cI cJ cB cZ bd u)) u) A t) A) args s 0 0 A) (F0 m 25 ls [])) ∧
      (∀ (t : XT) (li : Nat → Int32) (lj : Nat → Int64) (H : Heap) (locs : List Loc) (ls : Array Slot), wpX12_root k 2 t li lj Q → lv_has ls 5 [(0, .ref (bd 0)), (1, .int (li 1)), (2, .int (li 2)), (3, .int (li 3)), (4, .int (li 4))] → Hp D A s.heap (wM cI cJ cB cZ bd t) H locs → W p l e { frames := 3, cells := 0, slots := 0, locals := 64 } s m args below meth c H locs 0 0 (MQ below (va_Qi (fun r u => Q r u) (fun u t => xEnd D ((fun u : XT => (wM cI cJ cB cZ bd u)) u) A t) A) args s 0 0 A) (F0 m 32 ls [])) := by
    intro k
    induction k with
    | zero => exact ⟨fun _ _ _ _ _ _ hR => False.elim hR, fun _ _ _ _ _ _ hR => False.elim hR, fun _ _ _ _ _ _ hR => False.elim hR⟩
    | succ k ih =>
      refine ⟨?_, ?_, ?_⟩
      · intro t li lj H locs ls hR hl h
        have hR : wbX12_root_0 (wpX12_root k) k t li lj Q := hR
        unfold wbX12_root_0 at hR
        refine lv_aload_n hx hb dX12_root_0 rfl (lv_at hl 0 rfl) ?_
        refine lv_iload_n hx hb dX12_root_1 rfl (lv_at hl 1 rfl) ?_
        refine x_cVIF (n := 1) (As := [.int (li 1)]) (rest := []) B h (wkX12_isThere l D cI cJ cB cZ bd k t (li 1) _ hR) ⟨⟨_, rfl⟩, by decide +kernel, Nat.le_of_ble_eq_true rfl, Nat.le_of_ble_eq_true rfl⟩ gX12_root_X12_isThere (show ((wM cI cJ cB cZ bd t) : va_W)[0]? = some (_, .inr (12, _)) from rfl) rfl rfl hl.1 rfl (Nat.le_of_ble_eq_true rfl) dX12_root_2 ⟨Nat.le_of_ble_eq_true rfl, Nat.le_of_ble_eq_true rfl⟩ (fun r_1 t_1 H locs hR h => ?_)
        refine lv_if_eq (tgt := 25) hx hb dX12_root_5 (by decide) (fun c_2 => ?_) (fun c_2 => ?_)
        · have hR := hR.1 c_2
          exact ih.2.1 t_1 li lj H locs ls hR (lv_sub hl [0, 1, 2] rfl) h
        · have hR := hR.2 c_2
          refine lv_aload_n hx hb dX12_root_8 rfl (lv_at hl 0 rfl) ?_
          refine lv_iload_n hx hb dX12_root_9 rfl (lv_at hl 1 rfl) ?_
          refine x_cVIF (n := 1) (As := [.int (li 1)]) (rest := []) B h (wkX12_dimOf l D cI cJ cB cZ bd k t_1 (li 1) _ hR) ⟨⟨_, rfl⟩, by decide +kernel, Nat.le_of_ble_eq_true rfl, Nat.le_of_ble_eq_true rfl⟩ gX12_root_X12_dimOf (show ((wM cI cJ cB cZ bd t_1) : va_W)[0]? = some (_, .inr (12, _)) from rfl) rfl rfl hl.1 rfl (Nat.le_of_ble_eq_true rfl) dX12_root_10 ⟨Nat.le_of_ble_eq_true rfl, Nat.le_of_ble_eq_true rfl⟩ (fun r_3 t_3 H locs hR h => ?_)
          refine lv_if_ne (tgt := 25) hx hb dX12_root_13 (by decide) (fun c_4 => ?_) (fun c_4 => ?_)
          · have hR := hR.1 c_4
            exact ih.2.1 t_3 li lj H locs ls hR (lv_sub hl [0, 1, 2] rfl) h
          · have hR := hR.2 c_4
            refine lv_iload_n hx hb dX12_root_16 rfl (lv_at hl 2 rfl) ?_
            refine lv_iconst (v := 0) hx hb dX12_root_17 (by decide) ?_
            refine lv_iconst (v := 1) hx hb dX12_root_18 (by decide) ?_
            refine x_cSIE (n := 3) (As := [.int (li 2), .int 0, .int 1]) (rest := []) B h (wkX12_in l D cI cJ cB cZ bd k (li 2) 0 1 _ hR) ⟨⟨_, rfl⟩, by decide +kernel, Nat.le_of_ble_eq_true rfl, Nat.le_of_ble_eq_true rfl⟩ gX12_root_X12_in rfl hl.1 rfl (Nat.le_of_ble_eq_true rfl) dX12_root_19 ⟨Nat.le_of_ble_eq_true rfl, Nat.le_of_ble_eq_true rfl⟩ (fun r_5 _ H locs hR h => ?_)
            refine lv_if_ne (tgt := 27) hx hb dX12_root_22 (by decide) (fun c_6 => ?_) (fun c_6 => ?_)
            · have hR := hR.1 c_6
              refine lv_iload_n hx hb dX12_root_27 rfl (lv_at hl 1 rfl) ?_
              refine lv_istore_n (lv' := [(3, .int (li 1)), (0, .ref (bd 0)), (1, .int (li 1)), (2, .int (li 2))]) hx hb dX12_root_28 rfl hl (by decide) rfl (fun ls hl => ?_)
              refine lv_iconst (v := 0) hx hb dX12_root_29 (by decide) ?_
              refine lv_istore (lv' := [(4, .int 0), (3, .int (li 1)), (0, .ref (bd 0)), (1, .int (li 1)), (2, .int (li 2))]) hx hb dX12_root_30 hl (by decide) rfl (fun ls hl => ?_)
              exact ih.2.2 t_3 (uI (uI li 3 (li 1)) 4 0) lj H locs ls hR (lv_sub hl [2, 3, 4, 1, 0] rfl) h
            · have hR := hR.2 c_6
              exact ih.2.1 t_3 li lj H locs ls hR (lv_sub hl [0, 1, 2] rfl) h
      · intro t li lj H locs ls hR hl h
        have hR : wbX12_root_1 (wpX12_root k) k t li lj Q := hR
        unfold wbX12_root_1 at hR
        refine lv_iconst (v := (-1)) hx hb dX12_root_25 (by decide) ?_
        exact x_iret (w1 := (fun u : XT => (wM cI cJ cB cZ bd u))) t B h hr rfl hR dX12_root_26
      · intro t li lj H locs ls hR hl h
        have hR : wbX12_root_2 (wpX12_root k) k t li lj Q := hR
        unfold wbX12_root_2 at hR
        refine lv_aload_n hx hb dX12_root_32 rfl (lv_at hl 0 rfl) ?_
        refine x_get (ci := 12) (C := RX12) (T := TX12) (N := 31) (v := .ref (bd 5)) B h hin12 0 8 rfl rfl (by decide) (by decide +kernel) rfl dX12_root_33 ?_
        refine lv_iload_n hx hb dX12_root_36 rfl (lv_at hl 3 rfl) ?_
        obtain ⟨hb_7, hR⟩ := hR
        refine va_iald (f := (t.2.2.1 4)) hx hb B.2.1 h.1 5 0 rfl rfl hb_7 dX12_root_37 ?_
        refine lv_topi (fun v_7 ev_7 => ?_)
        have hR := hR v_7 ev_7
        refine lv_iconst (v := (-1)) hx hb dX12_root_38 (by decide) ?_
        refine lv_icmp_eq (tgt := 74) hx hb dX12_root_39 (by decide) (fun c_8 => ?_) (fun c_8 => ?_)
        · have hR := hR.1 c_8
          refine lv_iload_n hx hb dX12_root_74 rfl (lv_at hl 2 rfl) ?_
          refine lv_if_ne (tgt := 82) hx hb dX12_root_75 (by decide) (fun c_9 => ?_) (fun c_9 => ?_)
          · have hR := hR.1 c_9
            refine lv_iload hx hb dX12_root_82 (lv_at hl 4 rfl) ?_
            exact x_iret (w1 := (fun u : XT => (wM cI cJ cB cZ bd u))) t B h hr rfl hR dX12_root_84
          · have hR := hR.2 c_9
            refine lv_iload_n hx hb dX12_root_78 rfl (lv_at hl 3 rfl) ?_
            refine lv_goto (tgt := 84) hx hb dX12_root_79 (by decide) ?_
            exact x_iret (w1 := (fun u : XT => (wM cI cJ cB cZ bd u))) t B h hr rfl hR dX12_root_84
        · have hR := hR.2 c_8
          refine lv_aload_n hx hb dX12_root_42 rfl (lv_at hl 0 rfl) ?_
          refine x_get (ci := 12) (C := RX12) (T := TX12) (N := 31) (v := .ref (bd 4)) B h hin12 0 7 rfl rfl (by decide) (by decide +kernel) rfl dX12_root_43 ?_
          refine lv_aload_n hx hb dX12_root_46 rfl (lv_at hl 0 rfl) ?_
          refine x_get (ci := 12) (C := RX12) (T := TX12) (N := 31) (v := .ref (bd 3)) B h hin12 0 6 rfl rfl (by decide) (by decide +kernel) rfl dX12_root_47 ?_
          refine lv_aload_n hx hb dX12_root_50 rfl (lv_at hl 0 rfl) ?_
          refine x_get (ci := 12) (C := RX12) (T := TX12) (N := 31) (v := .ref (bd 5)) B h hin12 0 8 rfl rfl (by decide) (by decide +kernel) rfl dX12_root_51 ?_
          refine lv_iload_n hx hb dX12_root_54 rfl (lv_at hl 3 rfl) ?_
          obtain ⟨hb_10, hR⟩ := hR
          refine va_iald (f := (t.2.2.1 4)) hx hb B.2.1 h.1 5 0 rfl rfl hb_10 dX12_root_55 ?_
          refine lv_topi (fun v_10 ev_10 => ?_)
          have hR := hR v_10 ev_10
          obtain ⟨hb_11, hR⟩ := hR
          refine va_iald (f := (t.2.2.1 2)) hx hb B.2.1 h.1 3 0 rfl rfl hb_11 dX12_root_56 ?_
          refine lv_topi (fun v_11 ev_11 => ?_)
          have hR := hR v_11 ev_11
          refine lv_aload_n hx hb dX12_root_57 rfl (lv_at hl 0 rfl) ?_
          refine x_get (ci := 12) (C := RX12) (T := TX12) (N := 31) (v := .ref (bd 3)) B h hin12 0 6 rfl rfl (by decide) (by decide +kernel) rfl dX12_root_58 ?_
          refine lv_iload_n hx hb dX12_root_61 rfl (lv_at hl 3 rfl) ?_
          obtain ⟨hb_12, hR⟩ := hR
          refine va_iald (f := (t.2.2.1 2)) hx hb B.2.1 h.1 3 0 rfl rfl hb_12 dX12_root_62 ?_
          refine lv_topi (fun v_12 ev_12 => ?_)
          have hR := hR v_12 ev_12
          refine lv_iconst (v := (-1)) hx hb dX12_root_63 (by decide) ?_
          refine lv_ixor hx hb dX12_root_64 ?_
          refine lv_topi (fun v_13 ev_13 => ?_)
          have hR := hR v_13 ev_13
          refine lv_iand hx hb dX12_root_65 ?_
          refine lv_topi (fun v_14 ev_14 => ?_)
          have hR := hR v_14 ev_14
          obtain ⟨hb_15, hR⟩ := hR
          refine va_iald (f := (t.2.2.1 3)) hx hb B.2.1 h.1 4 0 rfl rfl hb_15 dX12_root_66 ?_
          refine lv_topi (fun v_15 ev_15 => ?_)
          have hR := hR v_15 ev_15
          refine lv_istore_n (lv' := [(3, .int v_15), (0, .ref (bd 0)), (1, .int (li 1)), (2, .int (li 2)), (4, .int (li 4))]) hx hb dX12_root_67 rfl hl (by decide) rfl (fun ls hl => ?_)
          obtain ⟨v_16, ev_16⟩ : ∃ v : Int32, v = (li 4) + Int32.ofInt 1 := ⟨_, rfl⟩
          have hR := hR v_16 ev_16
          refine lv_iinc (v := v_16) (lv' := [(4, .int v_16), (3, .int v_15), (0, .ref (bd 0)), (1, .int (li 1)), (2, .int (li 2))]) hx hb dX12_root_68 hl (k := 4) rfl ev_16.symm (by decide) rfl (fun ls hl => ?_)
          refine lv_goto (tgt := 32) hx hb dX12_root_71 (by decide) ?_
          exact ih.2.2 t (uI (uI li 3 v_15) 4 v_16) lj H locs ls hR (lv_sub hl [2, 3, 4, 1, 0] rfl) h
  exact (main k).1 t _ _ s.heap [] ls hR hl h
set_option maxRecDepth 20000 in
theorem ggX12_laysReach_X12_isFaceThere : GoodIn wsX12_laysReach wsX12_isFaceThere := goodIn_r _ [9, 10, 11, 12, 13, 8, 14, 15, 16, 17, 18, 19, 20, 21, 22, 23, 24, 25, 26, 45, 46, 47, 48, 49, 50, 51, 52, 53, 54, 55, 56, 57, 58, 59, 60, 61, 62, 63, 64, 65, 66, 67, 68, 69, 70, 71, 72, 73, 74, 75] (by decide +kernel) (by decide +kernel)
set_option maxRecDepth 20000 in
theorem gX12_laysReach_X12_isFaceThere : GoodIn wsX12_laysReach (wsV RX12 162 RX12 yX12_isFaceThere wsX12_isFaceThere) := goodIn_app (goodIn_of _ (by decide +kernel)) ggX12_laysReach_X12_isFaceThere
set_option maxRecDepth 20000 in
theorem ggX12_laysReach_X12_truth : GoodIn wsX12_laysReach wsX12_truth := goodIn_r _ [29] (by decide +kernel) (by decide +kernel)
set_option maxRecDepth 20000 in
theorem gX12_laysReach_X12_truth : GoodIn wsX12_laysReach (va_wsS RX12 105 yX12_truth wsX12_truth) := goodIn_app (goodIn_of _ (by decide +kernel)) ggX12_laysReach_X12_truth
set_option maxRecDepth 20000 in
theorem ggX12_laysReach_X12_isThere : GoodIn wsX12_laysReach wsX12_isThere := goodIn_r _ [33, 10, 34, 35, 36, 8, 37, 1, 38, 39, 40, 45, 46, 47, 48, 49, 50, 51, 52, 53, 54, 55, 56, 57, 58, 59, 60, 61, 62, 63, 64, 65, 66, 67, 68, 69, 70, 71, 72, 73, 74, 75] (by decide +kernel) (by decide +kernel)
set_option maxRecDepth 20000 in
theorem gX12_laysReach_X12_isThere : GoodIn wsX12_laysReach (wsV RX12 156 RX12 yX12_isThere wsX12_isThere) := goodIn_app (goodIn_of _ (by decide +kernel)) ggX12_laysReach_X12_isThere
set_option maxRecDepth 20000 in
theorem ggX12_laysReach_X12_isLower : GoodIn wsX12_laysReach wsX12_isLower := goodIn_r _ [44, 2, 45, 46, 47, 48, 49, 50, 51, 52, 53, 54, 55, 56, 57, 58, 59, 60, 61, 62, 63, 64, 65, 66, 67, 68, 69, 70, 71, 72, 73, 74, 75] (by decide +kernel) (by decide +kernel)
set_option maxRecDepth 20000 in
theorem gX12_laysReach_X12_isLower : GoodIn wsX12_laysReach (wsV RX12 170 RX12 yX12_isLower wsX12_isLower) := goodIn_app (goodIn_of _ (by decide +kernel)) ggX12_laysReach_X12_isLower
set_option maxRecDepth 20000 in
theorem ggX12_laysReach_X12_dimOf : GoodIn wsX12_laysReach wsX12_dimOf := goodIn_r _ [19, 15, 20, 21, 22, 23, 24, 25, 26, 45, 46, 47, 48, 49, 50, 51, 52, 53, 54, 55, 56, 57, 58, 59, 60, 61, 62, 63, 64, 65, 66, 67, 68, 69, 70, 71, 72, 73, 74, 75] (by decide +kernel) (by decide +kernel)
set_option maxRecDepth 20000 in
theorem gX12_laysReach_X12_dimOf : GoodIn wsX12_laysReach (wsV RX12 149 RX12 yX12_dimOf wsX12_dimOf) := goodIn_app (goodIn_of _ (by decide +kernel)) ggX12_laysReach_X12_dimOf
def wbX12_laysReach_0 (rec : Nat → XT → (Nat → Int32) → (Nat → Int64) → (Int32 → XT → Prop) → Prop) (k : Nat) (t : XT) (li : Nat → Int32) (lj : Nat → Int64) (Q : Int32 → XT → Prop) : Prop :=
  (wqX12_isFaceThere k t (li 1) (li 2) (fun r_1 t_1 => (wqX12_truth k r_1 (fun r_2 => (∀ v_3 : Int64, v_3 = r_2.toInt64 → rec 1 t_1 (uI li 5 0) (uI lj 3 v_3) Q)))))
def wbX12_laysReach_1 (rec : Nat → XT → (Nat → Int32) → (Nat → Int64) → (Int32 → XT → Prop) → Prop) (k : Nat) (t : XT) (li : Nat → Int32) (lj : Nat → Int64) (Q : Int32 → XT → Prop) : Prop :=
  ((((t.1 3) : Int32) ≤ (li 5)) → (vp_in (li 1) 60 ∧ (∀ t_5 : XT, t_5 = sB t 2 (vp_updL (t.2.2.2 2) (li 1).toNatClampNeg (lj 3)) → Q 1 t_5))) ∧ (¬ (((t.1 3) : Int32) ≤ (li 5)) → (((li 5) = (li 1)) → rec 2 t li lj Q) ∧ (¬ ((li 5) = (li 1)) → (wqX12_isThere k t (li 5) (fun r_7 t_7 => ((r_7 = 0) → rec 2 t_7 li lj Q) ∧ (¬ (r_7 = 0) → (wqX12_isLower k t_7 (li 5) (fun r_9 t_9 => ((r_9 = 0) → rec 2 t_9 li lj Q) ∧ (¬ (r_9 = 0) → (wqX12_dimOf k t_9 (li 5) (fun r_11 t_11 => (wqX12_dimOf k t_11 (li 1) (fun r_12 t_12 => ((¬ r_11 = r_12) → rec 2 t_12 li lj Q) ∧ ((r_11 = r_12) → (vp_in (li 5) 60 ∧ (∀ v_14 : Int32, v_14 = (t_12.2.2.1 4) (li 5).toNatClampNeg → (wqX12_isFaceThere k t_12 (li 1) v_14 (fun r_15 t_15 => ((¬ r_15 = 0) → (vp_in (li 5) 60 ∧ (∀ v_17 : Int64, v_17 = (t_15.2.2.2 2) (li 5).toNatClampNeg → (∀ v_18 : Int32, v_18 = (lg_cmp v_17 (-9223372036854775807)) → ((¬ v_18 = 0) → (vp_in (li 5) 60 ∧ (∀ v_20 : Int64, v_20 = (t_15.2.2.2 2) (li 5).toNatClampNeg → (∀ v_21 : Int64, v_21 = ((lj 3) + v_20) → rec 2 t_15 li (uI lj 3 v_21) Q)))) ∧ ((v_18 = 0) → Q 0 t_15))))) ∧ ((r_15 = 0) → rec 2 t_15 li lj Q))))))))))))))))))
def wbX12_laysReach_2 (rec : Nat → XT → (Nat → Int32) → (Nat → Int64) → (Int32 → XT → Prop) → Prop) (k : Nat) (t : XT) (li : Nat → Int32) (lj : Nat → Int64) (Q : Int32 → XT → Prop) : Prop :=
  (∀ v_22 : Int32, v_22 = (li 5) + Int32.ofInt 1 → rec 1 t (uI li 5 v_22) lj Q)
def wpX12_laysReach : Nat → Nat → XT → (Nat → Int32) → (Nat → Int64) → (Int32 → XT → Prop) → Prop
  | 0, _, _, _, _, _ => False
  | k + 1, 0, t, li, lj, Q => wbX12_laysReach_0 (wpX12_laysReach k) k t li lj Q
  | k + 1, 1, t, li, lj, Q => wbX12_laysReach_1 (wpX12_laysReach k) k t li lj Q
  | k + 1, 2, t, li, lj, Q => wbX12_laysReach_2 (wpX12_laysReach k) k t li lj Q
  | _ + 1, _, _, _, _, _ => False
def wqX12_laysReach (k : Nat) (t : XT) (a1 : Int32) (a2 : Int32) (Q : Int32 → XT → Prop) : Prop := wpX12_laysReach k 0 t (uI (uI (fun _ => 0) 1 a1) 2 a2) (fun _ => 0) Q
set_option maxHeartbeats 8000000 in
set_option maxRecDepth 100000 in
theorem wkX12_laysReach (l : Launch) (D : va_G) (cI cJ cB cZ : ClassId) (bd : Nat → Nat) (k : Nat) (t : XT) (a1 : Int32) (a2 : Int32) (Q : Int32 → XT → Prop) (hR : wqX12_laysReach k t a1 a2 Q) : MetI l yX12_laysReach wsX12_laysReach 4 85 0 0 D (TYS cI cJ cB cZ) (wM cI cJ cB cZ bd t) [.ref (bd 0), .int a1, .int a2] (fun r u => Q r u) (fun u : XT => (wM cI cJ cB cZ bd u)) := by
  refine x_startI (ty := .boolean) (cc := cX12_laysReach) (by decide) rfl (Nat.le_of_ble_eq_true rfl) ?_
  intro p e s m args below meth c A ls B hr hnm h hl
  have hx := B.1.1
  have hb := B.1.2.1
  have hml := B.1.2.2.1
  have hts := B.1.2.2.2.2
  have hown : s.vm.findClass RX12 = some m.cls := B.1.2.2.2.1
  have hin12 : ∀ w ∈ u_ws RX12 TX12 31, w ∈ wsX12_laysReach := by decide +kernel
  have main : ∀ k : Nat, (∀ (t : XT) (li : Nat → Int32) (lj : Nat → Int64) (H : Heap) (locs : List Loc) (ls : Array Slot), wpX12_laysReach k 0 t li lj Q → lv_has ls 6 [(0, .ref (bd 0)), (1, .int (li 1)), (2, .int (li 2))] → Hp D A s.heap (wM cI cJ cB cZ bd t) H locs → W p l e { frames := 4, cells := 0, slots := 0, locals := 85 } s m args below meth c H locs 0 0 (MQ below (va_Qi (fun r u => Q r u) (fun u t => xEnd D ((fun u : XT => (wM cI cJ cB cZ bd u)) u) A t) A) args s 0 0 A) (F0 m 0 ls [])) ∧
      (∀ (t : XT) (li : Nat → Int32) (lj : Nat → Int64) (H : Heap) (locs : List Loc) (ls : Array Slot), wpX12_laysReach k 1 t li lj Q → lv_has ls 6 [(0, .ref (bd 0)), (1, .int (li 1)), (2, .int (li 2)), (3, .long (lj 3)), (5, .int (li 5))] → Hp D A s.heap (wM cI cJ cB cZ bd t) H locs → W p l e { frames := 4, cells := 0, slots := 0, locals := 85 } s m args below meth c H locs 0 0 (MQ below (va_Qi (fun r u => Q r u) (fun u t => xEnd D ((fun u : XT => (wM cI cJ cB cZ bd u)) u) A t) A) args s 0 0 A) (F0 m 14 ls [])) ∧
      (∀ (t : XT) (li : Nat → Int32) (lj : Nat → Int64) (H : Heap) (locs : List Loc) (ls : Array Slot), wpX12_laysReach k 2 t li lj Q → lv_has ls 6 [(0, .ref (bd 0)), (1, .int (li 1)), (2, .int (li 2)), (3, .long (lj 3)), (5, .int (li 5))] → Hp D A s.heap (wM cI cJ cB cZ bd t) H locs → W p l e { frames := 4, cells := 0, slots := 0, locals := 85 } s m args below meth c H locs 0 0 (MQ below (va_Qi (fun r u => Q r u) (fun u t => xEnd D ((fun u : XT => (wM cI cJ cB cZ bd u)) u) A t) A) args s 0 0 A) (F0 m 105 ls [])) := by
    intro k
    induction k with
    | zero => exact ⟨fun _ _ _ _ _ _ hR => False.elim hR, fun _ _ _ _ _ _ hR => False.elim hR, fun _ _ _ _ _ _ hR => False.elim hR⟩
    | succ k ih =>
      refine ⟨?_, ?_, ?_⟩
      · intro t li lj H locs ls hR hl h
        have hR : wbX12_laysReach_0 (wpX12_laysReach k) k t li lj Q := hR
        unfold wbX12_laysReach_0 at hR
        refine lv_aload_n hx hb dX12_laysReach_0 rfl (lv_at hl 0 rfl) ?_
        refine lv_iload_n hx hb dX12_laysReach_1 rfl (lv_at hl 1 rfl) ?_
        refine lv_iload_n hx hb dX12_laysReach_2 rfl (lv_at hl 2 rfl) ?_
        refine x_cVIF (n := 2) (As := [.int (li 1), .int (li 2)]) (rest := []) B h (wkX12_isFaceThere l D cI cJ cB cZ bd k t (li 1) (li 2) _ hR) ⟨⟨_, rfl⟩, by decide +kernel, Nat.le_of_ble_eq_true rfl, Nat.le_of_ble_eq_true rfl⟩ gX12_laysReach_X12_isFaceThere (show ((wM cI cJ cB cZ bd t) : va_W)[0]? = some (_, .inr (12, _)) from rfl) rfl rfl hl.1 rfl (Nat.le_of_ble_eq_true rfl) dX12_laysReach_3 ⟨Nat.le_of_ble_eq_true rfl, Nat.le_of_ble_eq_true rfl⟩ (fun r_1 t_1 H locs hR h => ?_)
        refine x_cSIE (n := 1) (As := [.int r_1]) (rest := []) B h (wkX12_truth l D cI cJ cB cZ bd k r_1 _ hR) ⟨⟨_, rfl⟩, by decide +kernel, Nat.le_of_ble_eq_true rfl, Nat.le_of_ble_eq_true rfl⟩ gX12_laysReach_X12_truth rfl hl.1 rfl (Nat.le_of_ble_eq_true rfl) dX12_laysReach_6 ⟨Nat.le_of_ble_eq_true rfl, Nat.le_of_ble_eq_true rfl⟩ (fun r_2 _ H locs hR h => ?_)
        obtain ⟨v_3, ev_3⟩ : ∃ v : Int64, v = r_2.toInt64 := ⟨_, rfl⟩
        have hR := hR v_3 ev_3
        refine lv_i2l (v := v_3) hx hb dX12_laysReach_9 ev_3.symm ?_
        refine lv_lstore_n (lv' := [(3, .long v_3), (0, .ref (bd 0)), (1, .int (li 1)), (2, .int (li 2))]) hx hb dX12_laysReach_10 rfl hl (by decide) rfl (fun ls hl => ?_)
        refine lv_iconst (v := 0) hx hb dX12_laysReach_11 (by decide) ?_
        refine lv_istore (lv' := [(5, .int 0), (3, .long v_3), (0, .ref (bd 0)), (1, .int (li 1)), (2, .int (li 2))]) hx hb dX12_laysReach_12 hl (by decide) rfl (fun ls hl => ?_)
        exact ih.2.1 t_1 (uI li 5 0) (uI lj 3 v_3) H locs ls hR (lv_sub hl [2, 3, 4, 1, 0] rfl) h
      · intro t li lj H locs ls hR hl h
        have hR : wbX12_laysReach_1 (wpX12_laysReach k) k t li lj Q := hR
        unfold wbX12_laysReach_1 at hR
        refine lv_iload hx hb dX12_laysReach_14 (lv_at hl 4 rfl) ?_
        refine lv_aload_n hx hb dX12_laysReach_16 rfl (lv_at hl 0 rfl) ?_
        refine x_get (ci := 12) (C := RX12) (T := TX12) (N := 31) (v := .int (t.1 3)) B h hin12 0 5 rfl rfl (by decide) (by decide +kernel) rfl dX12_laysReach_17 ?_
        refine lv_icmp_ge (tgt := 111) hx hb dX12_laysReach_20 (by decide) (fun c_4 => ?_) (fun c_4 => ?_)
        · have hR := hR.1 c_4
          refine lv_aload_n hx hb dX12_laysReach_111 rfl (lv_at hl 0 rfl) ?_
          refine x_get (ci := 12) (C := RX12) (T := TX12) (N := 31) (v := .ref (bd 14)) B h hin12 0 19 rfl rfl (by decide) (by decide +kernel) rfl dX12_laysReach_112 ?_
          refine lv_iload_n hx hb dX12_laysReach_115 rfl (lv_at hl 1 rfl) ?_
          refine lv_lload_n hx hb dX12_laysReach_116 rfl (lv_at hl 3 rfl) ?_
          obtain ⟨hb_5, hR⟩ := hR
          refine z_last (f := (t.2.2.2 2)) B h 14 1 rfl rfl hb_5 dX12_laysReach_117 (fun H locs h => ?_)
          obtain ⟨t_5, et_5⟩ : ∃ v : XT, v = sB t 2 (vp_updL (t.2.2.2 2) (li 1).toNatClampNeg (lj 3)) := ⟨_, rfl⟩
          have hR := hR t_5 et_5
          have h : Hp D A s.heap (wM cI cJ cB cZ bd t_5) H locs := by rw [et_5]; exact h
          refine lv_iconst (v := 1) hx hb dX12_laysReach_118 (by decide) ?_
          exact x_iret (w1 := (fun u : XT => (wM cI cJ cB cZ bd u))) t_5 B h hr rfl hR dX12_laysReach_119
        · have hR := hR.2 c_4
          refine lv_iload hx hb dX12_laysReach_23 (lv_at hl 4 rfl) ?_
          refine lv_iload_n hx hb dX12_laysReach_25 rfl (lv_at hl 1 rfl) ?_
          refine lv_icmp_eq (tgt := 105) hx hb dX12_laysReach_26 (by decide) (fun c_6 => ?_) (fun c_6 => ?_)
          · have hR := hR.1 c_6
            exact ih.2.2 t li lj H locs ls hR (lv_sub hl [0, 1, 2, 3, 4] rfl) h
          · have hR := hR.2 c_6
            refine lv_aload_n hx hb dX12_laysReach_29 rfl (lv_at hl 0 rfl) ?_
            refine lv_iload hx hb dX12_laysReach_30 (lv_at hl 4 rfl) ?_
            refine x_cVIF (n := 1) (As := [.int (li 5)]) (rest := []) B h (wkX12_isThere l D cI cJ cB cZ bd k t (li 5) _ hR) ⟨⟨_, rfl⟩, by decide +kernel, Nat.le_of_ble_eq_true rfl, Nat.le_of_ble_eq_true rfl⟩ gX12_laysReach_X12_isThere (show ((wM cI cJ cB cZ bd t) : va_W)[0]? = some (_, .inr (12, _)) from rfl) rfl rfl hl.1 rfl (Nat.le_of_ble_eq_true rfl) dX12_laysReach_32 ⟨Nat.le_of_ble_eq_true rfl, Nat.le_of_ble_eq_true rfl⟩ (fun r_7 t_7 H locs hR h => ?_)
            refine lv_if_eq (tgt := 105) hx hb dX12_laysReach_35 (by decide) (fun c_8 => ?_) (fun c_8 => ?_)
            · have hR := hR.1 c_8
              exact ih.2.2 t_7 li lj H locs ls hR (lv_sub hl [0, 1, 2, 3, 4] rfl) h
            · have hR := hR.2 c_8
              refine lv_aload_n hx hb dX12_laysReach_38 rfl (lv_at hl 0 rfl) ?_
              refine lv_iload hx hb dX12_laysReach_39 (lv_at hl 4 rfl) ?_
              refine x_cVIF (n := 1) (As := [.int (li 5)]) (rest := []) B h (wkX12_isLower l D cI cJ cB cZ bd k t_7 (li 5) _ hR) ⟨⟨_, rfl⟩, by decide +kernel, Nat.le_of_ble_eq_true rfl, Nat.le_of_ble_eq_true rfl⟩ gX12_laysReach_X12_isLower (show ((wM cI cJ cB cZ bd t_7) : va_W)[0]? = some (_, .inr (12, _)) from rfl) rfl rfl hl.1 rfl (Nat.le_of_ble_eq_true rfl) dX12_laysReach_41 ⟨Nat.le_of_ble_eq_true rfl, Nat.le_of_ble_eq_true rfl⟩ (fun r_9 t_9 H locs hR h => ?_)
              refine lv_if_eq (tgt := 105) hx hb dX12_laysReach_44 (by decide) (fun c_10 => ?_) (fun c_10 => ?_)
              · have hR := hR.1 c_10
                exact ih.2.2 t_9 li lj H locs ls hR (lv_sub hl [0, 1, 2, 3, 4] rfl) h
              · have hR := hR.2 c_10
                refine lv_aload_n hx hb dX12_laysReach_47 rfl (lv_at hl 0 rfl) ?_
                refine lv_iload hx hb dX12_laysReach_48 (lv_at hl 4 rfl) ?_
                refine x_cVIF (n := 1) (As := [.int (li 5)]) (rest := []) B h (wkX12_dimOf l D cI cJ cB cZ bd k t_9 (li 5) _ hR) ⟨⟨_, rfl⟩, by decide +kernel, Nat.le_of_ble_eq_true rfl, Nat.le_of_ble_eq_true rfl⟩ gX12_laysReach_X12_dimOf (show ((wM cI cJ cB cZ bd t_9) : va_W)[0]? = some (_, .inr (12, _)) from rfl) rfl rfl hl.1 rfl (Nat.le_of_ble_eq_true rfl) dX12_laysReach_50 ⟨Nat.le_of_ble_eq_true rfl, Nat.le_of_ble_eq_true rfl⟩ (fun r_11 t_11 H locs hR h => ?_)
                refine lv_aload_n hx hb dX12_laysReach_53 rfl (lv_at hl 0 rfl) ?_
                refine lv_iload_n hx hb dX12_laysReach_54 rfl (lv_at hl 1 rfl) ?_
                refine x_cVIF (n := 1) (As := [.int (li 1)]) (rest := [.int r_11]) B h (wkX12_dimOf l D cI cJ cB cZ bd k t_11 (li 1) _ hR) ⟨⟨_, rfl⟩, by decide +kernel, Nat.le_of_ble_eq_true rfl, Nat.le_of_ble_eq_true rfl⟩ gX12_laysReach_X12_dimOf (show ((wM cI cJ cB cZ bd t_11) : va_W)[0]? = some (_, .inr (12, _)) from rfl) rfl rfl hl.1 rfl (Nat.le_of_ble_eq_true rfl) dX12_laysReach_55 ⟨Nat.le_of_ble_eq_true rfl, Nat.le_of_ble_eq_true rfl⟩ (fun r_12 t_12 H locs hR h => ?_)
                refine lv_icmp_ne (tgt := 105) hx hb dX12_laysReach_58 (by decide) (fun c_13 => ?_) (fun c_13 => ?_)
                · have hR := hR.1 c_13
                  exact ih.2.2 t_12 li lj H locs ls hR (lv_sub hl [0, 1, 2, 3, 4] rfl) h
                · have hR := hR.2 c_13
                  refine lv_aload_n hx hb dX12_laysReach_61 rfl (lv_at hl 0 rfl) ?_
                  refine lv_iload_n hx hb dX12_laysReach_62 rfl (lv_at hl 1 rfl) ?_
                  refine lv_aload_n hx hb dX12_laysReach_63 rfl (lv_at hl 0 rfl) ?_
                  refine x_get (ci := 12) (C := RX12) (T := TX12) (N := 31) (v := .ref (bd 5)) B h hin12 0 8 rfl rfl (by decide) (by decide +kernel) rfl dX12_laysReach_64 ?_
                  refine lv_iload hx hb dX12_laysReach_67 (lv_at hl 4 rfl) ?_
                  obtain ⟨hb_14, hR⟩ := hR
                  refine va_iald (f := (t_12.2.2.1 4)) hx hb B.2.1 h.1 5 0 rfl rfl hb_14 dX12_laysReach_69 ?_
                  refine lv_topi (fun v_14 ev_14 => ?_)
                  have hR := hR v_14 ev_14
                  refine x_cVIF (n := 2) (As := [.int (li 1), .int v_14]) (rest := []) B h (wkX12_isFaceThere l D cI cJ cB cZ bd k t_12 (li 1) v_14 _ hR) ⟨⟨_, rfl⟩, by decide +kernel, Nat.le_of_ble_eq_true rfl, Nat.le_of_ble_eq_true rfl⟩ gX12_laysReach_X12_isFaceThere (show ((wM cI cJ cB cZ bd t_12) : va_W)[0]? = some (_, .inr (12, _)) from rfl) rfl rfl hl.1 rfl (Nat.le_of_ble_eq_true rfl) dX12_laysReach_70 ⟨Nat.le_of_ble_eq_true rfl, Nat.le_of_ble_eq_true rfl⟩ (fun r_15 t_15 H locs hR h => ?_)
                  refine lv_if_ne (tgt := 79) hx hb dX12_laysReach_73 (by decide) (fun c_16 => ?_) (fun c_16 => ?_)
                  · have hR := hR.1 c_16
                    refine lv_aload_n hx hb dX12_laysReach_79 rfl (lv_at hl 0 rfl) ?_
                    refine x_get (ci := 12) (C := RX12) (T := TX12) (N := 31) (v := .ref (bd 14)) B h hin12 0 19 rfl rfl (by decide) (by decide +kernel) rfl dX12_laysReach_80 ?_
                    refine lv_iload hx hb dX12_laysReach_83 (lv_at hl 4 rfl) ?_
                    obtain ⟨hb_17, hR⟩ := hR
                    refine va_lald (f := (t_15.2.2.2 2)) hx hb B.2.1 h.1 14 1 rfl rfl hb_17 dX12_laysReach_85 ?_
                    refine lv_topl (fun v_17 ev_17 => ?_)
                    have hR := hR v_17 ev_17
                    refine lv_ldc2 (v := (-9223372036854775807)) hx hb hown (hts (.constantLong RX12 221 (-9223372036854775807)) (by decide +kernel)) dX12_laysReach_86 ?_
                    refine W.lcmp hx hb dX12_laysReach_89 ?_
                    refine lv_topi (fun v_18 ev_18 => ?_)
                    have hR := hR v_18 ev_18
                    refine lv_if_ne (tgt := 95) hx hb dX12_laysReach_90 (by decide) (fun c_19 => ?_) (fun c_19 => ?_)
                    · have hR := hR.1 c_19
                      refine lv_lload_n hx hb dX12_laysReach_95 rfl (lv_at hl 3 rfl) ?_
                      refine lv_aload_n hx hb dX12_laysReach_96 rfl (lv_at hl 0 rfl) ?_
                      refine x_get (ci := 12) (C := RX12) (T := TX12) (N := 31) (v := .ref (bd 14)) B h hin12 0 19 rfl rfl (by decide) (by decide +kernel) rfl dX12_laysReach_97 ?_
                      refine lv_iload hx hb dX12_laysReach_100 (lv_at hl 4 rfl) ?_
                      obtain ⟨hb_20, hR⟩ := hR
                      refine va_lald (f := (t_15.2.2.2 2)) hx hb B.2.1 h.1 14 1 rfl rfl hb_20 dX12_laysReach_102 ?_
                      refine lv_topl (fun v_20 ev_20 => ?_)
                      have hR := hR v_20 ev_20
                      refine lv_ladd hx hb dX12_laysReach_103 ?_
                      refine lv_topl (fun v_21 ev_21 => ?_)
                      have hR := hR v_21 ev_21
                      refine lv_lstore_n (lv' := [(3, .long v_21), (0, .ref (bd 0)), (1, .int (li 1)), (2, .int (li 2)), (5, .int (li 5))]) hx hb dX12_laysReach_104 rfl hl (by decide) rfl (fun ls hl => ?_)
                      exact ih.2.2 t_15 li (uI lj 3 v_21) H locs ls hR (lv_sub hl [1, 2, 3, 0, 4] rfl) h
                    · have hR := hR.2 c_19
                      refine lv_iconst (v := 0) hx hb dX12_laysReach_93 (by decide) ?_
                      exact x_iret (w1 := (fun u : XT => (wM cI cJ cB cZ bd u))) t_15 B h hr rfl hR dX12_laysReach_94
                  · have hR := hR.2 c_16
                    refine lv_goto (tgt := 105) hx hb dX12_laysReach_76 (by decide) ?_
                    exact ih.2.2 t_15 li lj H locs ls hR (lv_sub hl [0, 1, 2, 3, 4] rfl) h
      · intro t li lj H locs ls hR hl h
        have hR : wbX12_laysReach_2 (wpX12_laysReach k) k t li lj Q := hR
        unfold wbX12_laysReach_2 at hR
        obtain ⟨v_22, ev_22⟩ : ∃ v : Int32, v = (li 5) + Int32.ofInt 1 := ⟨_, rfl⟩
        have hR := hR v_22 ev_22
        refine lv_iinc (v := v_22) (lv' := [(5, .int v_22), (0, .ref (bd 0)), (1, .int (li 1)), (2, .int (li 2)), (3, .long (lj 3))]) hx hb dX12_laysReach_105 hl (k := 4) rfl ev_22.symm (by decide) rfl (fun ls hl => ?_)
        refine lv_goto (tgt := 14) hx hb dX12_laysReach_108 (by decide) ?_
        exact ih.2.1 t (uI li 5 v_22) lj H locs ls hR (lv_sub hl [1, 2, 3, 4, 0] rfl) h
  exact (main k).1 t _ _ s.heap [] ls hR hl h
