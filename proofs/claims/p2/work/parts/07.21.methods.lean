set_option maxRecDepth 20000 in
theorem ggX12_through_X12_areEnds : GoodIn wsX12_through wsX12_areEnds := goodIn_r _ [11, 12, 13, 14, 10, 15, 2, 16, 17, 18, 19, 20, 21, 22, 23, 24, 3, 25, 26, 27, 28, 29, 30, 31, 32, 33, 34, 35, 36, 37, 38, 39, 76, 77, 78, 79, 80, 81, 82, 83, 84, 85, 86, 87, 88, 89, 90, 91, 92, 93, 94, 95, 96, 97, 98, 99, 100, 101, 102, 103, 104, 105, 106] (by decide +kernel) (by decide +kernel)
set_option maxRecDepth 20000 in
theorem gX12_through_X12_areEnds : GoodIn wsX12_through (wsV RX12 229 RX12 yX12_areEnds wsX12_areEnds) := goodIn_app (goodIn_of _ (by decide +kernel)) ggX12_through_X12_areEnds
set_option maxRecDepth 20000 in
theorem ggX12_through_X12_isThere : GoodIn wsX12_through wsX12_isThere := goodIn_r _ [19, 20, 21, 22, 23, 10, 24, 3, 25, 26, 27, 76, 77, 78, 79, 80, 81, 82, 83, 84, 85, 86, 87, 88, 89, 90, 91, 92, 93, 94, 95, 96, 97, 98, 99, 100, 101, 102, 103, 104, 105, 106] (by decide +kernel) (by decide +kernel)
set_option maxRecDepth 20000 in
theorem gX12_through_X12_isThere : GoodIn wsX12_through (wsV RX12 156 RX12 yX12_isThere wsX12_isThere) := goodIn_app (goodIn_of _ (by decide +kernel)) ggX12_through_X12_isThere
set_option maxRecDepth 20000 in
theorem ggX12_through_X12_waysFrom : GoodIn wsX12_through wsX12_waysFrom := goodIn_r _ [43, 3, 6, 44, 45, 46, 10, 47, 5, 48, 16, 17, 18, 19, 20, 21, 22, 23, 24, 25, 26, 27, 49, 50, 51, 52, 2, 28, 29, 30, 31, 32, 33, 34, 35, 36, 37, 38, 39, 53, 54, 55, 56, 57, 58, 59, 60, 61, 62, 63, 64, 65, 66, 67, 68, 69, 70, 71, 76, 77, 78, 79, 80, 81, 82, 83, 84, 85, 86, 87, 88, 89, 90, 91, 92, 93, 94, 95, 96, 97, 98, 99, 100, 101, 102, 103, 104, 105, 106] (by decide +kernel) (by decide +kernel)
set_option maxRecDepth 20000 in
theorem gX12_through_X12_waysFrom : GoodIn wsX12_through (wsV RX12 232 RX12 yX12_waysFrom wsX12_waysFrom) := goodIn_app (goodIn_of _ (by decide +kernel)) ggX12_through_X12_waysFrom
set_option maxRecDepth 20000 in
theorem ggX12_through_X12_dimOf : GoodIn wsX12_through wsX12_dimOf := goodIn_r _ [31, 32, 33, 34, 35, 36, 37, 38, 39, 76, 77, 78, 79, 80, 81, 82, 83, 84, 85, 86, 87, 88, 89, 90, 91, 92, 93, 94, 95, 96, 97, 98, 99, 100, 101, 102, 103, 104, 105, 106] (by decide +kernel) (by decide +kernel)
set_option maxRecDepth 20000 in
theorem gX12_through_X12_dimOf : GoodIn wsX12_through (wsV RX12 149 RX12 yX12_dimOf wsX12_dimOf) := goodIn_app (goodIn_of _ (by decide +kernel)) ggX12_through_X12_dimOf
set_option maxRecDepth 20000 in
theorem ggX12_through_X12_isLower : GoodIn wsX12_through wsX12_isLower := goodIn_r _ [52, 2, 76, 77, 78, 79, 80, 81, 82, 83, 84, 85, 86, 87, 88, 89, 90, 91, 92, 93, 94, 95, 96, 97, 98, 99, 100, 101, 102, 103, 104, 105, 106] (by decide +kernel) (by decide +kernel)
set_option maxRecDepth 20000 in
theorem gX12_through_X12_isLower : GoodIn wsX12_through (wsV RX12 170 RX12 yX12_isLower wsX12_isLower) := goodIn_app (goodIn_of _ (by decide +kernel)) ggX12_through_X12_isLower
set_option maxRecDepth 20000 in
theorem ggX12_through_X12_laysReach : GoodIn wsX12_through wsX12_laysReach := goodIn_r _ [75, 3, 2, 4, 5, 60, 61, 62, 10, 63, 20, 64, 65, 66, 67, 32, 28, 29, 30, 31, 33, 34, 35, 36, 37, 38, 39, 53, 54, 55, 16, 17, 18, 19, 21, 22, 23, 24, 25, 26, 27, 49, 50, 51, 52, 76, 77, 78, 79, 80, 81, 82, 83, 84, 85, 86, 87, 88, 89, 90, 91, 92, 93, 94, 95, 96, 97, 98, 99, 100, 101, 102, 103, 104, 105, 106] (by decide +kernel) (by decide +kernel)
set_option maxRecDepth 20000 in
theorem gX12_through_X12_laysReach : GoodIn wsX12_through (wsV RX12 253 RX12 yX12_laysReach wsX12_laysReach) := goodIn_app (goodIn_of _ (by decide +kernel)) ggX12_through_X12_laysReach
def wbX12_through_0 (rec : Nat → XT → (Nat → Int32) → (Nat → Int64) → (Int64 → XT → Prop) → Prop) (k : Nat) (t : XT) (li : Nat → Int32) (lj : Nat → Int64) (Q : Int64 → XT → Prop) : Prop :=
  (wqX12_areEnds k t (li 1) (li 2) (fun r_1 t_1 => ((r_1 = 0) → rec 1 t_1 li lj Q) ∧ (¬ (r_1 = 0) → (wqX12_isThere k t_1 (li 3) (fun r_3 t_3 => ((¬ r_3 = 0) → (wqX12_waysFrom k t_3 (li 1) (li 2) (fun r_5 t_5 => (((li 3) = (li 1)) → rec 2 t_5 li (uI lj 4 r_5) Q) ∧ (¬ ((li 3) = (li 1)) → ((¬ (li 3) = (li 2)) → (wqX12_dimOf k t_5 (li 3) (fun r_8 t_8 => (wqX12_dimOf k t_8 (li 2) (fun r_9 t_9 => ((¬ r_8 = r_9) → (vp_in (li 3) 60 ∧ (∀ v_11 : Int32, v_11 = (t_9.2.2.1 4) (li 3).toNatClampNeg → rec 3 t_9 (uI li 100 v_11) (uI lj 4 r_5) Q))) ∧ ((r_8 = r_9) → rec 3 t_9 (uI li 100 (li 3)) (uI lj 4 r_5) Q)))))) ∧ (((li 3) = (li 2)) → rec 2 t_5 li (uI lj 4 r_5) Q))))) ∧ ((r_3 = 0) → rec 1 t_3 li lj Q))))))
def wbX12_through_1 (rec : Nat → XT → (Nat → Int32) → (Nat → Int64) → (Int64 → XT → Prop) → Prop) (k : Nat) (t : XT) (li : Nat → Int32) (lj : Nat → Int64) (Q : Int64 → XT → Prop) : Prop :=
  Q (-1) t
def wbX12_through_2 (rec : Nat → XT → (Nat → Int32) → (Nat → Int64) → (Int64 → XT → Prop) → Prop) (k : Nat) (t : XT) (li : Nat → Int32) (lj : Nat → Int64) (Q : Int64 → XT → Prop) : Prop :=
  Q (lj 4) t
def wbX12_through_3 (rec : Nat → XT → (Nat → Int32) → (Nat → Int64) → (Int64 → XT → Prop) → Prop) (k : Nat) (t : XT) (li : Nat → Int32) (lj : Nat → Int64) (Q : Int64 → XT → Prop) : Prop :=
  (((li 100) = (-1)) → rec 4 t (uI li 6 (li 100)) lj Q) ∧ (¬ ((li 100) = (-1)) → (wqX12_dimOf k t (li 100) (fun r_13 t_13 => (wqX12_dimOf k t_13 (li 2) (fun r_14 t_14 => ((¬ r_13 = r_14) → rec 4 t_14 (uI li 6 (li 100)) lj Q) ∧ ((r_13 = r_14) → (wqX12_isLower k t_14 (li 100) (fun r_16 t_16 => ((¬ r_16 = 0) → rec 5 t_16 (uI (uI li 6 (li 100)) 7 0) lj Q) ∧ ((r_16 = 0) → rec 4 t_16 (uI li 6 (li 100)) lj Q)))))))))
def wbX12_through_4 (rec : Nat → XT → (Nat → Int32) → (Nat → Int64) → (Int64 → XT → Prop) → Prop) (k : Nat) (t : XT) (li : Nat → Int32) (lj : Nat → Int64) (Q : Int64 → XT → Prop) : Prop :=
  Q 0 t
def wbX12_through_5 (rec : Nat → XT → (Nat → Int32) → (Nat → Int64) → (Int64 → XT → Prop) → Prop) (k : Nat) (t : XT) (li : Nat → Int32) (lj : Nat → Int64) (Q : Int64 → XT → Prop) : Prop :=
  ((((t.1 3) : Int32) ≤ (li 7)) → rec 6 t li lj Q) ∧ (¬ (((t.1 3) : Int32) ≤ (li 7)) → (vp_in (li 7) 60 ∧ (∀ t_19 : XT, t_19 = sB t 2 (vp_updL (t.2.2.2 2) (li 7).toNatClampNeg (-9223372036854775807)) → (∀ v_20 : Int32, v_20 = (li 7) + Int32.ofInt 1 → rec 5 t_19 (uI li 7 v_20) lj Q))))
def wbX12_through_6 (rec : Nat → XT → (Nat → Int32) → (Nat → Int64) → (Int64 → XT → Prop) → Prop) (k : Nat) (t : XT) (li : Nat → Int32) (lj : Nat → Int64) (Q : Int64 → XT → Prop) : Prop :=
  (vp_in (li 6) 60 ∧ (∀ v_21 : Int64, v_21 = (t.2.2.2 2) (li 6).toNatClampNeg → (∀ v_22 : Int32, v_22 = (lg_cmp v_21 (-9223372036854775807)) → ((¬ v_22 = 0) → (vp_in (li 6) 60 ∧ (∀ v_24 : Int64, v_24 = (t.2.2.2 2) (li 6).toNatClampNeg → (vp_in (li 6) 60 ∧ (∀ v_25 : Int64, v_25 = (t.2.2.2 0) (li 6).toNatClampNeg → (∀ v_26 : Int64, v_26 = (v_24 * v_25) → Q v_26 t)))))) ∧ ((v_22 = 0) → rec 7 t (uI li 7 0) lj Q))))
def wbX12_through_7 (rec : Nat → XT → (Nat → Int32) → (Nat → Int64) → (Int64 → XT → Prop) → Prop) (k : Nat) (t : XT) (li : Nat → Int32) (lj : Nat → Int64) (Q : Int64 → XT → Prop) : Prop :=
  ((((t.1 3) : Int32) ≤ (li 7)) → rec 6 t li lj Q) ∧ (¬ (((t.1 3) : Int32) ≤ (li 7)) → (vp_in (li 7) 60 ∧ (∀ v_28 : Int64, v_28 = (t.2.2.2 2) (li 7).toNatClampNeg → (∀ v_29 : Int32, v_29 = (lg_cmp v_28 (-9223372036854775807)) → ((¬ v_29 = 0) → rec 8 t li lj Q) ∧ ((v_29 = 0) → (wqX12_isThere k t (li 7) (fun r_31 t_31 => ((r_31 = 0) → rec 8 t_31 li lj Q) ∧ (¬ (r_31 = 0) → (wqX12_dimOf k t_31 (li 7) (fun r_33 t_33 => (wqX12_dimOf k t_33 (li 2) (fun r_34 t_34 => ((¬ r_33 = r_34) → rec 8 t_34 li lj Q) ∧ ((r_33 = r_34) → (wqX12_laysReach k t_34 (li 7) (li 1) (fun r_36 t_36 => rec 8 t_36 li lj Q)))))))))))))))
def wbX12_through_8 (rec : Nat → XT → (Nat → Int32) → (Nat → Int64) → (Int64 → XT → Prop) → Prop) (k : Nat) (t : XT) (li : Nat → Int32) (lj : Nat → Int64) (Q : Int64 → XT → Prop) : Prop :=
  (∀ v_37 : Int32, v_37 = (li 7) + Int32.ofInt 1 → rec 7 t (uI li 7 v_37) lj Q)
def wpX12_through : Nat → Nat → XT → (Nat → Int32) → (Nat → Int64) → (Int64 → XT → Prop) → Prop
  | 0, _, _, _, _, _ => False
  | k + 1, 0, t, li, lj, Q => wbX12_through_0 (wpX12_through k) k t li lj Q
  | k + 1, 1, t, li, lj, Q => wbX12_through_1 (wpX12_through k) k t li lj Q
  | k + 1, 2, t, li, lj, Q => wbX12_through_2 (wpX12_through k) k t li lj Q
  | k + 1, 3, t, li, lj, Q => wbX12_through_3 (wpX12_through k) k t li lj Q
  | k + 1, 4, t, li, lj, Q => wbX12_through_4 (wpX12_through k) k t li lj Q
  | k + 1, 5, t, li, lj, Q => wbX12_through_5 (wpX12_through k) k t li lj Q
  | k + 1, 6, t, li, lj, Q => wbX12_through_6 (wpX12_through k) k t li lj Q
  | k + 1, 7, t, li, lj, Q => wbX12_through_7 (wpX12_through k) k t li lj Q
  | k + 1, 8, t, li, lj, Q => wbX12_through_8 (wpX12_through k) k t li lj Q
  | _ + 1, _, _, _, _, _ => False
def wqX12_through (k : Nat) (t : XT) (a1 : Int32) (a2 : Int32) (a3 : Int32) (Q : Int64 → XT → Prop) : Prop := wpX12_through k 0 t (uI (uI (uI (fun _ => 0) 1 a1) 2 a2) 3 a3) (fun _ => 0) Q
set_option maxHeartbeats 8000000 in
set_option maxRecDepth 100000 in
theorem wkX12_through (l : Launch) (D : va_G) (cI cJ cB cZ : ClassId) (bd : Nat → Nat) (k : Nat) (t : XT) (a1 : Int32) (a2 : Int32) (a3 : Int32) (Q : Int64 → XT → Prop) (hR : wqX12_through k t a1 a2 a3 Q) : MetL l yX12_through wsX12_through 7 160 0 0 D (TYS cI cJ cB cZ) (wM cI cJ cB cZ bd t) [.ref (bd 0), .int a1, .int a2, .int a3] (fun r u => Q r u) (fun u : XT => (wM cI cJ cB cZ bd u)) := by
  refine x_startL (ty := .long) (cc := cX12_through) (by decide) rfl (Nat.le_of_ble_eq_true rfl) ?_
  intro p e s m args below meth c A ls B hr hnm h hl
  have hx := B.1.1
  have hb := B.1.2.1
  have hml := B.1.2.2.1
  have hts := B.1.2.2.2.2
  have hown : s.vm.findClass RX12 = some m.cls := B.1.2.2.2.1
  have hin12 : ∀ w ∈ u_ws RX12 TX12 31, w ∈ wsX12_through := by decide +kernel
  have main : ∀ k : Nat, (∀ (t : XT) (li : Nat → Int32) (lj : Nat → Int64) (H : Heap) (locs : List Loc) (ls : Array Slot), wpX12_through k 0 t li lj Q → lv_has ls 8 [(0, .ref (bd 0)), (1, .int (li 1)), (2, .int (li 2)), (3, .int (li 3))] → Hp D A s.heap (wM cI cJ cB cZ bd t) H locs → W p l e { frames := 7, cells := 0, slots := 0, locals := 160 } s m args below meth c H locs 0 0 (MQ below (va_Ql (fun r u => Q r u) (fun u t => xEnd D ((fun u : XT => (wM cI cJ cB cZ bd u)) u) A t) A) args s 0 0 A) (F0 m 0 ls [])) ∧
      (∀ (t : XT) (li : Nat → Int32) (lj : Nat → Int64) (H : Heap) (locs : List Loc) (ls : Array Slot), wpX12_through k 1 t li lj Q → lv_has ls 8 [(0, .ref (bd 0)), (1, .int (li 1)), (2, .int (li 2)), (3, .int (li 3))] → Hp D A s.heap (wM cI cJ cB cZ bd t) H locs → W p l e { frames := 7, cells := 0, slots := 0, locals := 160 } s m args below meth c H locs 0 0 (MQ below (va_Ql (fun r u => Q r u) (fun u t => xEnd D ((fun u : XT => (wM cI cJ cB cZ bd u)) u) A t) A) args s 0 0 A) (F0 m 17 ls [])) ∧
      (∀ (t : XT) (li : Nat → Int32) (lj : Nat → Int64) (H : Heap) (locs : List Loc) (ls : Array Slot), wpX12_through k 2 t li lj Q → lv_has ls 8 [(0, .ref (bd 0)), (1, .int (li 1)), (2, .int (li 2)), (3, .int (li 3)), (4, .long (lj 4))] → Hp D A s.heap (wM cI cJ cB cZ bd t) H locs → W p l e { frames := 7, cells := 0, slots := 0, locals := 160 } s m args below meth c H locs 0 0 (MQ below (va_Ql (fun r u => Q r u) (fun u t => xEnd D ((fun u : XT => (wM cI cJ cB cZ bd u)) u) A t) A) args s 0 0 A) (F0 m 39 ls [])) ∧
      (∀ (t : XT) (li : Nat → Int32) (lj : Nat → Int64) (H : Heap) (locs : List Loc) (ls : Array Slot), wpX12_through k 3 t li lj Q → lv_has ls 8 [(0, .ref (bd 0)), (1, .int (li 1)), (2, .int (li 2)), (3, .int (li 3)), (4, .long (lj 4))] → Hp D A s.heap (wM cI cJ cB cZ bd t) H locs → W p l e { frames := 7, cells := 0, slots := 0, locals := 160 } s m args below meth c H locs 0 0 (MQ below (va_Ql (fun r u => Q r u) (fun u t => xEnd D ((fun u : XT => (wM cI cJ cB cZ bd u)) u) A t) A) args s 0 0 A) (F0 m 65 ls [.int (li 100)])) ∧
      (∀ (t : XT) (li : Nat → Int32) (lj : Nat → Int64) (H : Heap) (locs : List Loc) (ls : Array Slot), wpX12_through k 4 t li lj Q → lv_has ls 8 [(0, .ref (bd 0)), (1, .int (li 1)), (2, .int (li 2)), (3, .int (li 3)), (4, .long (lj 4)), (6, .int (li 6))] → Hp D A s.heap (wM cI cJ cB cZ bd t) H locs → W p l e { frames := 7, cells := 0, slots := 0, locals := 160 } s m args below meth c H locs 0 0 (MQ below (va_Ql (fun r u => Q r u) (fun u t => xEnd D ((fun u : XT => (wM cI cJ cB cZ bd u)) u) A t) A) args s 0 0 A) (F0 m 96 ls [])) ∧
      (∀ (t : XT) (li : Nat → Int32) (lj : Nat → Int64) (H : Heap) (locs : List Loc) (ls : Array Slot), wpX12_through k 5 t li lj Q → lv_has ls 8 [(0, .ref (bd 0)), (1, .int (li 1)), (2, .int (li 2)), (3, .int (li 3)), (4, .long (lj 4)), (6, .int (li 6)), (7, .int (li 7))] → Hp D A s.heap (wM cI cJ cB cZ bd t) H locs → W p l e { frames := 7, cells := 0, slots := 0, locals := 160 } s m args below meth c H locs 0 0 (MQ below (va_Ql (fun r u => Q r u) (fun u t => xEnd D ((fun u : XT => (wM cI cJ cB cZ bd u)) u) A t) A) args s 0 0 A) (F0 m 101 ls [])) ∧
      (∀ (t : XT) (li : Nat → Int32) (lj : Nat → Int64) (H : Heap) (locs : List Loc) (ls : Array Slot), wpX12_through k 6 t li lj Q → lv_has ls 8 [(0, .ref (bd 0)), (1, .int (li 1)), (2, .int (li 2)), (3, .int (li 3)), (4, .long (lj 4)), (6, .int (li 6)), (7, .int (li 7))] → Hp D A s.heap (wM cI cJ cB cZ bd t) H locs → W p l e { frames := 7, cells := 0, slots := 0, locals := 160 } s m args below meth c H locs 0 0 (MQ below (va_Ql (fun r u => Q r u) (fun u t => xEnd D ((fun u : XT => (wM cI cJ cB cZ bd u)) u) A t) A) args s 0 0 A) (F0 m 126 ls [])) ∧
      (∀ (t : XT) (li : Nat → Int32) (lj : Nat → Int64) (H : Heap) (locs : List Loc) (ls : Array Slot), wpX12_through k 7 t li lj Q → lv_has ls 8 [(0, .ref (bd 0)), (1, .int (li 1)), (2, .int (li 2)), (3, .int (li 3)), (4, .long (lj 4)), (6, .int (li 6)), (7, .int (li 7))] → Hp D A s.heap (wM cI cJ cB cZ bd t) H locs → W p l e { frames := 7, cells := 0, slots := 0, locals := 160 } s m args below meth c H locs 0 0 (MQ below (va_Ql (fun r u => Q r u) (fun u t => xEnd D ((fun u : XT => (wM cI cJ cB cZ bd u)) u) A t) A) args s 0 0 A) (F0 m 143 ls [])) ∧
      (∀ (t : XT) (li : Nat → Int32) (lj : Nat → Int64) (H : Heap) (locs : List Loc) (ls : Array Slot), wpX12_through k 8 t li lj Q → lv_has ls 8 [(0, .ref (bd 0)), (1, .int (li 1)), (2, .int (li 2)), (3, .int (li 3)), (4, .long (lj 4)), (6, .int (li 6)), (7, .int (li 7))] → Hp D A s.heap (wM cI cJ cB cZ bd t) H locs → W p l e { frames := 7, cells := 0, slots := 0, locals := 160 } s m args below meth c H locs 0 0 (MQ below (va_Ql (fun r u => Q r u) (fun u t => xEnd D ((fun u : XT => (wM cI cJ cB cZ bd u)) u) A t) A) args s 0 0 A) (F0 m 197 ls [])) := by
    intro k
    induction k with
    | zero => exact ⟨fun _ _ _ _ _ _ hR => False.elim hR, fun _ _ _ _ _ _ hR => False.elim hR, fun _ _ _ _ _ _ hR => False.elim hR, fun _ _ _ _ _ _ hR => False.elim hR, fun _ _ _ _ _ _ hR => False.elim hR, fun _ _ _ _ _ _ hR => False.elim hR, fun _ _ _ _ _ _ hR => False.elim hR, fun _ _ _ _ _ _ hR => False.elim hR, fun _ _ _ _ _ _ hR => False.elim hR⟩
    | succ k ih =>
      refine ⟨?_, ?_, ?_, ?_, ?_, ?_, ?_, ?_, ?_⟩
      · intro t li lj H locs ls hR hl h
        have hR : wbX12_through_0 (wpX12_through k) k t li lj Q := hR
        unfold wbX12_through_0 at hR
        refine lv_aload_n hx hb dX12_through_0 rfl (lv_at hl 0 rfl) ?_
        refine lv_iload_n hx hb dX12_through_1 rfl (lv_at hl 1 rfl) ?_
        refine lv_iload_n hx hb dX12_through_2 rfl (lv_at hl 2 rfl) ?_
        refine x_cVIF (n := 2) (As := [.int (li 1), .int (li 2)]) (rest := []) B h (wkX12_areEnds l D cI cJ cB cZ bd k t (li 1) (li 2) _ hR) ⟨⟨_, rfl⟩, by decide +kernel, Nat.le_of_ble_eq_true rfl, Nat.le_of_ble_eq_true rfl⟩ gX12_through_X12_areEnds (show ((wM cI cJ cB cZ bd t) : va_W)[0]? = some (_, .inr (12, _)) from rfl) rfl rfl hl.1 rfl (Nat.le_of_ble_eq_true rfl) dX12_through_3 ⟨Nat.le_of_ble_eq_true rfl, Nat.le_of_ble_eq_true rfl⟩ (fun r_1 t_1 H locs hR h => ?_)
        refine lv_if_eq (tgt := 17) hx hb dX12_through_6 (by decide) (fun c_2 => ?_) (fun c_2 => ?_)
        · have hR := hR.1 c_2
          exact ih.2.1 t_1 li lj H locs ls hR (lv_sub hl [0, 1, 2, 3] rfl) h
        · have hR := hR.2 c_2
          refine lv_aload_n hx hb dX12_through_9 rfl (lv_at hl 0 rfl) ?_
          refine lv_iload_n hx hb dX12_through_10 rfl (lv_at hl 3 rfl) ?_
          refine x_cVIF (n := 1) (As := [.int (li 3)]) (rest := []) B h (wkX12_isThere l D cI cJ cB cZ bd k t_1 (li 3) _ hR) ⟨⟨_, rfl⟩, by decide +kernel, Nat.le_of_ble_eq_true rfl, Nat.le_of_ble_eq_true rfl⟩ gX12_through_X12_isThere (show ((wM cI cJ cB cZ bd t_1) : va_W)[0]? = some (_, .inr (12, _)) from rfl) rfl rfl hl.1 rfl (Nat.le_of_ble_eq_true rfl) dX12_through_11 ⟨Nat.le_of_ble_eq_true rfl, Nat.le_of_ble_eq_true rfl⟩ (fun r_3 t_3 H locs hR h => ?_)
          refine lv_if_ne (tgt := 21) hx hb dX12_through_14 (by decide) (fun c_4 => ?_) (fun c_4 => ?_)
          · have hR := hR.1 c_4
            refine lv_aload_n hx hb dX12_through_21 rfl (lv_at hl 0 rfl) ?_
            refine lv_iload_n hx hb dX12_through_22 rfl (lv_at hl 1 rfl) ?_
            refine lv_iload_n hx hb dX12_through_23 rfl (lv_at hl 2 rfl) ?_
            refine x_cVLF (n := 2) (As := [.int (li 1), .int (li 2)]) (rest := []) B h (wkX12_waysFrom l D cI cJ cB cZ bd k t_3 (li 1) (li 2) _ hR) ⟨⟨_, rfl⟩, by decide +kernel, Nat.le_of_ble_eq_true rfl, Nat.le_of_ble_eq_true rfl⟩ gX12_through_X12_waysFrom (show ((wM cI cJ cB cZ bd t_3) : va_W)[0]? = some (_, .inr (12, _)) from rfl) rfl rfl hl.1 rfl (Nat.le_of_ble_eq_true rfl) dX12_through_24 ⟨Nat.le_of_ble_eq_true rfl, Nat.le_of_ble_eq_true rfl⟩ (fun r_5 t_5 H locs hR h => ?_)
            refine lv_lstore (lv' := [(4, .long r_5), (0, .ref (bd 0)), (1, .int (li 1)), (2, .int (li 2)), (3, .int (li 3))]) hx hb dX12_through_27 hl (by decide) rfl (fun ls hl => ?_)
            refine lv_iload_n hx hb dX12_through_29 rfl (lv_at hl 4 rfl) ?_
            refine lv_iload_n hx hb dX12_through_30 rfl (lv_at hl 2 rfl) ?_
            refine lv_icmp_eq (tgt := 39) hx hb dX12_through_31 (by decide) (fun c_6 => ?_) (fun c_6 => ?_)
            · have hR := hR.1 c_6
              exact ih.2.2.1 t_5 li (uI lj 4 r_5) H locs ls hR (lv_sub hl [1, 2, 3, 4, 0] rfl) h
            · have hR := hR.2 c_6
              refine lv_iload_n hx hb dX12_through_34 rfl (lv_at hl 4 rfl) ?_
              refine lv_iload_n hx hb dX12_through_35 rfl (lv_at hl 3 rfl) ?_
              refine lv_icmp_ne (tgt := 42) hx hb dX12_through_36 (by decide) (fun c_7 => ?_) (fun c_7 => ?_)
              · have hR := hR.1 c_7
                refine lv_aload_n hx hb dX12_through_42 rfl (lv_at hl 1 rfl) ?_
                refine lv_iload_n hx hb dX12_through_43 rfl (lv_at hl 4 rfl) ?_
                refine x_cVIF (n := 1) (As := [.int (li 3)]) (rest := []) B h (wkX12_dimOf l D cI cJ cB cZ bd k t_5 (li 3) _ hR) ⟨⟨_, rfl⟩, by decide +kernel, Nat.le_of_ble_eq_true rfl, Nat.le_of_ble_eq_true rfl⟩ gX12_through_X12_dimOf (show ((wM cI cJ cB cZ bd t_5) : va_W)[0]? = some (_, .inr (12, _)) from rfl) rfl rfl hl.1 rfl (Nat.le_of_ble_eq_true rfl) dX12_through_44 ⟨Nat.le_of_ble_eq_true rfl, Nat.le_of_ble_eq_true rfl⟩ (fun r_8 t_8 H locs hR h => ?_)
                refine lv_aload_n hx hb dX12_through_47 rfl (lv_at hl 1 rfl) ?_
                refine lv_iload_n hx hb dX12_through_48 rfl (lv_at hl 3 rfl) ?_
                refine x_cVIF (n := 1) (As := [.int (li 2)]) (rest := [.int r_8]) B h (wkX12_dimOf l D cI cJ cB cZ bd k t_8 (li 2) _ hR) ⟨⟨_, rfl⟩, by decide +kernel, Nat.le_of_ble_eq_true rfl, Nat.le_of_ble_eq_true rfl⟩ gX12_through_X12_dimOf (show ((wM cI cJ cB cZ bd t_8) : va_W)[0]? = some (_, .inr (12, _)) from rfl) rfl rfl hl.1 rfl (Nat.le_of_ble_eq_true rfl) dX12_through_49 ⟨Nat.le_of_ble_eq_true rfl, Nat.le_of_ble_eq_true rfl⟩ (fun r_9 t_9 H locs hR h => ?_)
                refine lv_icmp_ne (tgt := 59) hx hb dX12_through_52 (by decide) (fun c_10 => ?_) (fun c_10 => ?_)
                · have hR := hR.1 c_10
                  refine lv_aload_n hx hb dX12_through_59 rfl (lv_at hl 1 rfl) ?_
                  refine x_get (ci := 12) (C := RX12) (T := TX12) (N := 31) (v := .ref (bd 5)) B h hin12 0 8 rfl rfl (by decide) (by decide +kernel) rfl dX12_through_60 ?_
                  refine lv_iload_n hx hb dX12_through_63 rfl (lv_at hl 4 rfl) ?_
                  obtain ⟨hb_11, hR⟩ := hR
                  refine va_iald (f := (t_9.2.2.1 4)) hx hb B.2.1 h.1 5 0 rfl rfl hb_11 dX12_through_64 ?_
                  refine lv_topi (fun v_11 ev_11 => ?_)
                  have hR := hR v_11 ev_11
                  exact ih.2.2.2.1 t_9 (uI li 100 v_11) (uI lj 4 r_5) H locs ls hR (lv_sub hl [1, 2, 3, 4, 0] rfl) h
                · have hR := hR.2 c_10
                  refine lv_iload_n hx hb dX12_through_55 rfl (lv_at hl 4 rfl) ?_
                  refine lv_goto (tgt := 65) hx hb dX12_through_56 (by decide) ?_
                  exact ih.2.2.2.1 t_9 (uI li 100 (li 3)) (uI lj 4 r_5) H locs ls hR (lv_sub hl [1, 2, 3, 4, 0] rfl) h
              · have hR := hR.2 c_7
                exact ih.2.2.1 t_5 li (uI lj 4 r_5) H locs ls hR (lv_sub hl [1, 2, 3, 4, 0] rfl) h
          · have hR := hR.2 c_4
            exact ih.2.1 t_3 li lj H locs ls hR (lv_sub hl [0, 1, 2, 3] rfl) h
      · intro t li lj H locs ls hR hl h
        have hR : wbX12_through_1 (wpX12_through k) k t li lj Q := hR
        unfold wbX12_through_1 at hR
        refine lv_ldc2 (v := (-1)) hx hb hown (hts (.constantLong RX12 236 (-1)) (by decide +kernel)) dX12_through_17 ?_
        exact x_lret (w1 := (fun u : XT => (wM cI cJ cB cZ bd u))) t B h hr hR dX12_through_20
      · intro t li lj H locs ls hR hl h
        have hR : wbX12_through_2 (wpX12_through k) k t li lj Q := hR
        unfold wbX12_through_2 at hR
        refine lv_lload hx hb dX12_through_39 (lv_at hl 4 rfl) ?_
        exact x_lret (w1 := (fun u : XT => (wM cI cJ cB cZ bd u))) t B h hr hR dX12_through_41
      · intro t li lj H locs ls hR hl h
        have hR : wbX12_through_3 (wpX12_through k) k t li lj Q := hR
        unfold wbX12_through_3 at hR
        refine lv_istore (lv' := [(6, .int (li 100)), (0, .ref (bd 0)), (1, .int (li 1)), (2, .int (li 2)), (3, .int (li 3)), (4, .long (lj 4))]) hx hb dX12_through_65 hl (by decide) rfl (fun ls hl => ?_)
        refine lv_iload hx hb dX12_through_67 (lv_at hl 0 rfl) ?_
        refine lv_iconst (v := (-1)) hx hb dX12_through_69 (by decide) ?_
        refine lv_icmp_eq (tgt := 96) hx hb dX12_through_70 (by decide) (fun c_12 => ?_) (fun c_12 => ?_)
        · have hR := hR.1 c_12
          exact ih.2.2.2.2.1 t (uI li 6 (li 100)) lj H locs ls hR (lv_sub hl [1, 2, 3, 4, 5, 0] rfl) h
        · have hR := hR.2 c_12
          refine lv_aload_n hx hb dX12_through_73 rfl (lv_at hl 1 rfl) ?_
          refine lv_iload hx hb dX12_through_74 (lv_at hl 0 rfl) ?_
          refine x_cVIF (n := 1) (As := [.int (li 100)]) (rest := []) B h (wkX12_dimOf l D cI cJ cB cZ bd k t (li 100) _ hR) ⟨⟨_, rfl⟩, by decide +kernel, Nat.le_of_ble_eq_true rfl, Nat.le_of_ble_eq_true rfl⟩ gX12_through_X12_dimOf (show ((wM cI cJ cB cZ bd t) : va_W)[0]? = some (_, .inr (12, _)) from rfl) rfl rfl hl.1 rfl (Nat.le_of_ble_eq_true rfl) dX12_through_76 ⟨Nat.le_of_ble_eq_true rfl, Nat.le_of_ble_eq_true rfl⟩ (fun r_13 t_13 H locs hR h => ?_)
          refine lv_aload_n hx hb dX12_through_79 rfl (lv_at hl 1 rfl) ?_
          refine lv_iload_n hx hb dX12_through_80 rfl (lv_at hl 3 rfl) ?_
          refine x_cVIF (n := 1) (As := [.int (li 2)]) (rest := [.int r_13]) B h (wkX12_dimOf l D cI cJ cB cZ bd k t_13 (li 2) _ hR) ⟨⟨_, rfl⟩, by decide +kernel, Nat.le_of_ble_eq_true rfl, Nat.le_of_ble_eq_true rfl⟩ gX12_through_X12_dimOf (show ((wM cI cJ cB cZ bd t_13) : va_W)[0]? = some (_, .inr (12, _)) from rfl) rfl rfl hl.1 rfl (Nat.le_of_ble_eq_true rfl) dX12_through_81 ⟨Nat.le_of_ble_eq_true rfl, Nat.le_of_ble_eq_true rfl⟩ (fun r_14 t_14 H locs hR h => ?_)
          refine lv_icmp_ne (tgt := 96) hx hb dX12_through_84 (by decide) (fun c_15 => ?_) (fun c_15 => ?_)
          · have hR := hR.1 c_15
            exact ih.2.2.2.2.1 t_14 (uI li 6 (li 100)) lj H locs ls hR (lv_sub hl [1, 2, 3, 4, 5, 0] rfl) h
          · have hR := hR.2 c_15
            refine lv_aload_n hx hb dX12_through_87 rfl (lv_at hl 1 rfl) ?_
            refine lv_iload hx hb dX12_through_88 (lv_at hl 0 rfl) ?_
            refine x_cVIF (n := 1) (As := [.int (li 100)]) (rest := []) B h (wkX12_isLower l D cI cJ cB cZ bd k t_14 (li 100) _ hR) ⟨⟨_, rfl⟩, by decide +kernel, Nat.le_of_ble_eq_true rfl, Nat.le_of_ble_eq_true rfl⟩ gX12_through_X12_isLower (show ((wM cI cJ cB cZ bd t_14) : va_W)[0]? = some (_, .inr (12, _)) from rfl) rfl rfl hl.1 rfl (Nat.le_of_ble_eq_true rfl) dX12_through_90 ⟨Nat.le_of_ble_eq_true rfl, Nat.le_of_ble_eq_true rfl⟩ (fun r_16 t_16 H locs hR h => ?_)
            refine lv_if_ne (tgt := 98) hx hb dX12_through_93 (by decide) (fun c_17 => ?_) (fun c_17 => ?_)
            · have hR := hR.1 c_17
              refine lv_iconst (v := 0) hx hb dX12_through_98 (by decide) ?_
              refine lv_istore (lv' := [(7, .int 0), (6, .int (li 100)), (0, .ref (bd 0)), (1, .int (li 1)), (2, .int (li 2)), (3, .int (li 3)), (4, .long (lj 4))]) hx hb dX12_through_99 hl (by decide) rfl (fun ls hl => ?_)
              exact ih.2.2.2.2.2.1 t_16 (uI (uI li 6 (li 100)) 7 0) lj H locs ls hR (lv_sub hl [2, 3, 4, 5, 6, 1, 0] rfl) h
            · have hR := hR.2 c_17
              exact ih.2.2.2.2.1 t_16 (uI li 6 (li 100)) lj H locs ls hR (lv_sub hl [1, 2, 3, 4, 5, 0] rfl) h
      · intro t li lj H locs ls hR hl h
        have hR : wbX12_through_4 (wpX12_through k) k t li lj Q := hR
        unfold wbX12_through_4 at hR
        refine lv_lconst (v := 0) hx hb dX12_through_96 (by decide) ?_
        exact x_lret (w1 := (fun u : XT => (wM cI cJ cB cZ bd u))) t B h hr hR dX12_through_97
      · intro t li lj H locs ls hR hl h
        have hR : wbX12_through_5 (wpX12_through k) k t li lj Q := hR
        unfold wbX12_through_5 at hR
        refine lv_iload hx hb dX12_through_101 (lv_at hl 6 rfl) ?_
        refine lv_aload_n hx hb dX12_through_103 rfl (lv_at hl 0 rfl) ?_
        refine x_get (ci := 12) (C := RX12) (T := TX12) (N := 31) (v := .int (t.1 3)) B h hin12 0 5 rfl rfl (by decide) (by decide +kernel) rfl dX12_through_104 ?_
        refine lv_icmp_ge (tgt := 126) hx hb dX12_through_107 (by decide) (fun c_18 => ?_) (fun c_18 => ?_)
        · have hR := hR.1 c_18
          exact ih.2.2.2.2.2.2.1 t li lj H locs ls hR (lv_sub hl [0, 1, 2, 3, 4, 5, 6] rfl) h
        · have hR := hR.2 c_18
          refine lv_aload_n hx hb dX12_through_110 rfl (lv_at hl 0 rfl) ?_
          refine x_get (ci := 12) (C := RX12) (T := TX12) (N := 31) (v := .ref (bd 14)) B h hin12 0 19 rfl rfl (by decide) (by decide +kernel) rfl dX12_through_111 ?_
          refine lv_iload hx hb dX12_through_114 (lv_at hl 6 rfl) ?_
          refine lv_ldc2 (v := (-9223372036854775807)) hx hb hown (hts (.constantLong RX12 221 (-9223372036854775807)) (by decide +kernel)) dX12_through_116 ?_
          obtain ⟨hb_19, hR⟩ := hR
          refine z_last (f := (t.2.2.2 2)) B h 14 1 rfl rfl hb_19 dX12_through_119 (fun H locs h => ?_)
          obtain ⟨t_19, et_19⟩ : ∃ v : XT, v = sB t 2 (vp_updL (t.2.2.2 2) (li 7).toNatClampNeg (-9223372036854775807)) := ⟨_, rfl⟩
          have hR := hR t_19 et_19
          have h : Hp D A s.heap (wM cI cJ cB cZ bd t_19) H locs := by rw [et_19]; exact h
          obtain ⟨v_20, ev_20⟩ : ∃ v : Int32, v = (li 7) + Int32.ofInt 1 := ⟨_, rfl⟩
          have hR := hR v_20 ev_20
          refine lv_iinc (v := v_20) (lv' := [(7, .int v_20), (0, .ref (bd 0)), (1, .int (li 1)), (2, .int (li 2)), (3, .int (li 3)), (4, .long (lj 4)), (6, .int (li 6))]) hx hb dX12_through_120 hl (k := 6) rfl ev_20.symm (by decide) rfl (fun ls hl => ?_)
          refine lv_goto (tgt := 101) hx hb dX12_through_123 (by decide) ?_
          exact ih.2.2.2.2.2.1 t_19 (uI li 7 v_20) lj H locs ls hR (lv_sub hl [1, 2, 3, 4, 5, 6, 0] rfl) h
      · intro t li lj H locs ls hR hl h
        have hR : wbX12_through_6 (wpX12_through k) k t li lj Q := hR
        unfold wbX12_through_6 at hR
        refine lv_aload_n hx hb dX12_through_126 rfl (lv_at hl 0 rfl) ?_
        refine x_get (ci := 12) (C := RX12) (T := TX12) (N := 31) (v := .ref (bd 14)) B h hin12 0 19 rfl rfl (by decide) (by decide +kernel) rfl dX12_through_127 ?_
        refine lv_iload hx hb dX12_through_130 (lv_at hl 5 rfl) ?_
        obtain ⟨hb_21, hR⟩ := hR
        refine va_lald (f := (t.2.2.2 2)) hx hb B.2.1 h.1 14 1 rfl rfl hb_21 dX12_through_132 ?_
        refine lv_topl (fun v_21 ev_21 => ?_)
        have hR := hR v_21 ev_21
        refine lv_ldc2 (v := (-9223372036854775807)) hx hb hown (hts (.constantLong RX12 221 (-9223372036854775807)) (by decide +kernel)) dX12_through_133 ?_
        refine W.lcmp hx hb dX12_through_136 ?_
        refine lv_topi (fun v_22 ev_22 => ?_)
        have hR := hR v_22 ev_22
        refine lv_if_ne (tgt := 206) hx hb dX12_through_137 (by decide) (fun c_23 => ?_) (fun c_23 => ?_)
        · have hR := hR.1 c_23
          refine lv_aload_n hx hb dX12_through_206 rfl (lv_at hl 0 rfl) ?_
          refine x_get (ci := 12) (C := RX12) (T := TX12) (N := 31) (v := .ref (bd 14)) B h hin12 0 19 rfl rfl (by decide) (by decide +kernel) rfl dX12_through_207 ?_
          refine lv_iload hx hb dX12_through_210 (lv_at hl 5 rfl) ?_
          obtain ⟨hb_24, hR⟩ := hR
          refine va_lald (f := (t.2.2.2 2)) hx hb B.2.1 h.1 14 1 rfl rfl hb_24 dX12_through_212 ?_
          refine lv_topl (fun v_24 ev_24 => ?_)
          have hR := hR v_24 ev_24
          refine lv_aload_n hx hb dX12_through_213 rfl (lv_at hl 0 rfl) ?_
          refine x_get (ci := 12) (C := RX12) (T := TX12) (N := 31) (v := .ref (bd 11)) B h hin12 0 15 rfl rfl (by decide) (by decide +kernel) rfl dX12_through_214 ?_
          refine lv_iload hx hb dX12_through_217 (lv_at hl 5 rfl) ?_
          obtain ⟨hb_25, hR⟩ := hR
          refine va_lald (f := (t.2.2.2 0)) hx hb B.2.1 h.1 11 1 rfl rfl hb_25 dX12_through_219 ?_
          refine lv_topl (fun v_25 ev_25 => ?_)
          have hR := hR v_25 ev_25
          refine lv_lmul hx hb dX12_through_220 ?_
          refine lv_topl (fun v_26 ev_26 => ?_)
          have hR := hR v_26 ev_26
          exact x_lret (w1 := (fun u : XT => (wM cI cJ cB cZ bd u))) t B h hr hR dX12_through_221
        · have hR := hR.2 c_23
          refine lv_iconst (v := 0) hx hb dX12_through_140 (by decide) ?_
          refine lv_istore (lv' := [(7, .int 0), (0, .ref (bd 0)), (1, .int (li 1)), (2, .int (li 2)), (3, .int (li 3)), (4, .long (lj 4)), (6, .int (li 6))]) hx hb dX12_through_141 hl (by decide) rfl (fun ls hl => ?_)
          exact ih.2.2.2.2.2.2.2.1 t (uI li 7 0) lj H locs ls hR (lv_sub hl [1, 2, 3, 4, 5, 6, 0] rfl) h
      · intro t li lj H locs ls hR hl h
        have hR : wbX12_through_7 (wpX12_through k) k t li lj Q := hR
        unfold wbX12_through_7 at hR
        refine lv_iload hx hb dX12_through_143 (lv_at hl 6 rfl) ?_
        refine lv_aload_n hx hb dX12_through_145 rfl (lv_at hl 0 rfl) ?_
        refine x_get (ci := 12) (C := RX12) (T := TX12) (N := 31) (v := .int (t.1 3)) B h hin12 0 5 rfl rfl (by decide) (by decide +kernel) rfl dX12_through_146 ?_
        refine lv_icmp_ge (tgt := 203) hx hb dX12_through_149 (by decide) (fun c_27 => ?_) (fun c_27 => ?_)
        · have hR := hR.1 c_27
          refine lv_goto (tgt := 126) hx hb dX12_through_203 (by decide) ?_
          exact ih.2.2.2.2.2.2.1 t li lj H locs ls hR (lv_sub hl [0, 1, 2, 3, 4, 5, 6] rfl) h
        · have hR := hR.2 c_27
          refine lv_aload_n hx hb dX12_through_152 rfl (lv_at hl 0 rfl) ?_
          refine x_get (ci := 12) (C := RX12) (T := TX12) (N := 31) (v := .ref (bd 14)) B h hin12 0 19 rfl rfl (by decide) (by decide +kernel) rfl dX12_through_153 ?_
          refine lv_iload hx hb dX12_through_156 (lv_at hl 6 rfl) ?_
          obtain ⟨hb_28, hR⟩ := hR
          refine va_lald (f := (t.2.2.2 2)) hx hb B.2.1 h.1 14 1 rfl rfl hb_28 dX12_through_158 ?_
          refine lv_topl (fun v_28 ev_28 => ?_)
          have hR := hR v_28 ev_28
          refine lv_ldc2 (v := (-9223372036854775807)) hx hb hown (hts (.constantLong RX12 221 (-9223372036854775807)) (by decide +kernel)) dX12_through_159 ?_
          refine W.lcmp hx hb dX12_through_162 ?_
          refine lv_topi (fun v_29 ev_29 => ?_)
          have hR := hR v_29 ev_29
          refine lv_if_ne (tgt := 197) hx hb dX12_through_163 (by decide) (fun c_30 => ?_) (fun c_30 => ?_)
          · have hR := hR.1 c_30
            exact ih.2.2.2.2.2.2.2.2 t li lj H locs ls hR (lv_sub hl [0, 1, 2, 3, 4, 5, 6] rfl) h
          · have hR := hR.2 c_30
            refine lv_aload_n hx hb dX12_through_166 rfl (lv_at hl 0 rfl) ?_
            refine lv_iload hx hb dX12_through_167 (lv_at hl 6 rfl) ?_
            refine x_cVIF (n := 1) (As := [.int (li 7)]) (rest := []) B h (wkX12_isThere l D cI cJ cB cZ bd k t (li 7) _ hR) ⟨⟨_, rfl⟩, by decide +kernel, Nat.le_of_ble_eq_true rfl, Nat.le_of_ble_eq_true rfl⟩ gX12_through_X12_isThere (show ((wM cI cJ cB cZ bd t) : va_W)[0]? = some (_, .inr (12, _)) from rfl) rfl rfl hl.1 rfl (Nat.le_of_ble_eq_true rfl) dX12_through_169 ⟨Nat.le_of_ble_eq_true rfl, Nat.le_of_ble_eq_true rfl⟩ (fun r_31 t_31 H locs hR h => ?_)
            refine lv_if_eq (tgt := 197) hx hb dX12_through_172 (by decide) (fun c_32 => ?_) (fun c_32 => ?_)
            · have hR := hR.1 c_32
              exact ih.2.2.2.2.2.2.2.2 t_31 li lj H locs ls hR (lv_sub hl [0, 1, 2, 3, 4, 5, 6] rfl) h
            · have hR := hR.2 c_32
              refine lv_aload_n hx hb dX12_through_175 rfl (lv_at hl 0 rfl) ?_
              refine lv_iload hx hb dX12_through_176 (lv_at hl 6 rfl) ?_
              refine x_cVIF (n := 1) (As := [.int (li 7)]) (rest := []) B h (wkX12_dimOf l D cI cJ cB cZ bd k t_31 (li 7) _ hR) ⟨⟨_, rfl⟩, by decide +kernel, Nat.le_of_ble_eq_true rfl, Nat.le_of_ble_eq_true rfl⟩ gX12_through_X12_dimOf (show ((wM cI cJ cB cZ bd t_31) : va_W)[0]? = some (_, .inr (12, _)) from rfl) rfl rfl hl.1 rfl (Nat.le_of_ble_eq_true rfl) dX12_through_178 ⟨Nat.le_of_ble_eq_true rfl, Nat.le_of_ble_eq_true rfl⟩ (fun r_33 t_33 H locs hR h => ?_)
              refine lv_aload_n hx hb dX12_through_181 rfl (lv_at hl 0 rfl) ?_
              refine lv_iload_n hx hb dX12_through_182 rfl (lv_at hl 2 rfl) ?_
              refine x_cVIF (n := 1) (As := [.int (li 2)]) (rest := [.int r_33]) B h (wkX12_dimOf l D cI cJ cB cZ bd k t_33 (li 2) _ hR) ⟨⟨_, rfl⟩, by decide +kernel, Nat.le_of_ble_eq_true rfl, Nat.le_of_ble_eq_true rfl⟩ gX12_through_X12_dimOf (show ((wM cI cJ cB cZ bd t_33) : va_W)[0]? = some (_, .inr (12, _)) from rfl) rfl rfl hl.1 rfl (Nat.le_of_ble_eq_true rfl) dX12_through_183 ⟨Nat.le_of_ble_eq_true rfl, Nat.le_of_ble_eq_true rfl⟩ (fun r_34 t_34 H locs hR h => ?_)
              refine lv_icmp_ne (tgt := 197) hx hb dX12_through_186 (by decide) (fun c_35 => ?_) (fun c_35 => ?_)
              · have hR := hR.1 c_35
                exact ih.2.2.2.2.2.2.2.2 t_34 li lj H locs ls hR (lv_sub hl [0, 1, 2, 3, 4, 5, 6] rfl) h
              · have hR := hR.2 c_35
                refine lv_aload_n hx hb dX12_through_189 rfl (lv_at hl 0 rfl) ?_
                refine lv_iload hx hb dX12_through_190 (lv_at hl 6 rfl) ?_
                refine lv_iload_n hx hb dX12_through_192 rfl (lv_at hl 1 rfl) ?_
                refine x_cVIF (n := 2) (As := [.int (li 7), .int (li 1)]) (rest := []) B h (wkX12_laysReach l D cI cJ cB cZ bd k t_34 (li 7) (li 1) _ hR) ⟨⟨_, rfl⟩, by decide +kernel, Nat.le_of_ble_eq_true rfl, Nat.le_of_ble_eq_true rfl⟩ gX12_through_X12_laysReach (show ((wM cI cJ cB cZ bd t_34) : va_W)[0]? = some (_, .inr (12, _)) from rfl) rfl rfl hl.1 rfl (Nat.le_of_ble_eq_true rfl) dX12_through_193 ⟨Nat.le_of_ble_eq_true rfl, Nat.le_of_ble_eq_true rfl⟩ (fun r_36 t_36 H locs hR h => ?_)
                refine lv_pop hx hb dX12_through_196 rfl ?_
                exact ih.2.2.2.2.2.2.2.2 t_36 li lj H locs ls hR (lv_sub hl [0, 1, 2, 3, 4, 5, 6] rfl) h
      · intro t li lj H locs ls hR hl h
        have hR : wbX12_through_8 (wpX12_through k) k t li lj Q := hR
        unfold wbX12_through_8 at hR
        obtain ⟨v_37, ev_37⟩ : ∃ v : Int32, v = (li 7) + Int32.ofInt 1 := ⟨_, rfl⟩
        have hR := hR v_37 ev_37
        refine lv_iinc (v := v_37) (lv' := [(7, .int v_37), (0, .ref (bd 0)), (1, .int (li 1)), (2, .int (li 2)), (3, .int (li 3)), (4, .long (lj 4)), (6, .int (li 6))]) hx hb dX12_through_197 hl (k := 6) rfl ev_37.symm (by decide) rfl (fun ls hl => ?_)
        refine lv_goto (tgt := 143) hx hb dX12_through_200 (by decide) ?_
        exact ih.2.2.2.2.2.2.2.1 t (uI li 7 v_37) lj H locs ls hR (lv_sub hl [1, 2, 3, 4, 5, 6, 0] rfl) h
  exact (main k).1 t _ _ s.heap [] ls hR hl h
set_option maxRecDepth 20000 in
theorem ggX12_squareOf_X12_areEnds : GoodIn wsX12_squareOf wsX12_areEnds := goodIn_r _ [6, 7, 8, 9, 5, 10, 11, 12, 13, 14, 15, 16, 17, 18, 19, 20, 1, 21, 22, 23, 24, 25, 26, 27, 28, 29, 30, 31, 32, 33, 34, 35, 70, 71, 72, 73, 74, 75, 76, 77, 78, 79, 80, 81, 82, 83, 84, 85, 86, 87, 88, 89, 90, 91, 92, 93, 94, 95, 96, 97, 98, 99, 100] (by decide +kernel) (by decide +kernel)
set_option maxRecDepth 20000 in
theorem gX12_squareOf_X12_areEnds : GoodIn wsX12_squareOf (wsV RX12 229 RX12 yX12_areEnds wsX12_areEnds) := goodIn_app (goodIn_of _ (by decide +kernel)) ggX12_squareOf_X12_areEnds
set_option maxRecDepth 20000 in
theorem ggX12_squareOf_X12_incidenceOf : GoodIn wsX12_squareOf wsX12_incidenceOf := goodIn_r _ [39, 1, 40, 41, 42, 43, 5, 44, 45, 46, 12, 13, 14, 15, 16, 17, 18, 19, 20, 21, 22, 23, 47, 48, 49, 50, 11, 24, 25, 26, 27, 28, 29, 30, 31, 32, 33, 34, 35, 51, 52, 53, 54, 55, 56, 57, 58, 59, 60, 61, 62, 63, 64, 65, 66, 67, 68, 69, 70, 71, 72, 73, 74, 75, 76, 77, 78, 79, 80, 81, 82, 83, 84, 85, 86, 87, 88, 89, 90, 91, 92, 93, 94, 95, 96, 97, 98, 99, 100] (by decide +kernel) (by decide +kernel)
set_option maxRecDepth 20000 in
theorem gX12_squareOf_X12_incidenceOf : GoodIn wsX12_squareOf (wsV RX12 238 RX12 yX12_incidenceOf wsX12_incidenceOf) := goodIn_app (goodIn_of _ (by decide +kernel)) ggX12_squareOf_X12_incidenceOf
def wbX12_squareOf_0 (rec : Nat → XT → (Nat → Int32) → (Nat → Int64) → (Int64 → XT → Prop) → Prop) (k : Nat) (t : XT) (li : Nat → Int32) (lj : Nat → Int64) (Q : Int64 → XT → Prop) : Prop :=
  rec 1 t (uI li 5 0) (uI lj 3 0) Q
def wbX12_squareOf_1 (rec : Nat → XT → (Nat → Int32) → (Nat → Int64) → (Int64 → XT → Prop) → Prop) (k : Nat) (t : XT) (li : Nat → Int32) (lj : Nat → Int64) (Q : Int64 → XT → Prop) : Prop :=
  ((((t.1 3) : Int32) ≤ (li 5)) → Q (lj 3) t) ∧ (¬ (((t.1 3) : Int32) ≤ (li 5)) → (wqX12_areEnds k t (li 1) (li 5) (fun r_2 t_2 => ((r_2 = 0) → rec 2 t_2 li lj Q) ∧ (¬ (r_2 = 0) → (wqX12_areEnds k t_2 (li 5) (li 2) (fun r_4 t_4 => ((r_4 = 0) → rec 2 t_4 li lj Q) ∧ (¬ (r_4 = 0) → (wqX12_incidenceOf k t_4 (li 1) (li 5) (fun r_6 t_6 => (wqX12_incidenceOf k t_6 (li 5) (li 2) (fun r_7 t_7 => (∀ v_8 : Int64, v_8 = (r_6 * r_7) → (∀ v_9 : Int64, v_9 = ((lj 3) + v_8) → rec 2 t_7 li (uI lj 3 v_9) Q)))))))))))))
def wbX12_squareOf_2 (rec : Nat → XT → (Nat → Int32) → (Nat → Int64) → (Int64 → XT → Prop) → Prop) (k : Nat) (t : XT) (li : Nat → Int32) (lj : Nat → Int64) (Q : Int64 → XT → Prop) : Prop :=
  (∀ v_10 : Int32, v_10 = (li 5) + Int32.ofInt 1 → rec 1 t (uI li 5 v_10) lj Q)
def wpX12_squareOf : Nat → Nat → XT → (Nat → Int32) → (Nat → Int64) → (Int64 → XT → Prop) → Prop
  | 0, _, _, _, _, _ => False
  | k + 1, 0, t, li, lj, Q => wbX12_squareOf_0 (wpX12_squareOf k) k t li lj Q
  | k + 1, 1, t, li, lj, Q => wbX12_squareOf_1 (wpX12_squareOf k) k t li lj Q
  | k + 1, 2, t, li, lj, Q => wbX12_squareOf_2 (wpX12_squareOf k) k t li lj Q
  | _ + 1, _, _, _, _, _ => False
def wqX12_squareOf (k : Nat) (t : XT) (a1 : Int32) (a2 : Int32) (Q : Int64 → XT → Prop) : Prop := wpX12_squareOf k 0 t (uI (uI (fun _ => 0) 1 a1) 2 a2) (fun _ => 0) Q
set_option maxHeartbeats 8000000 in
set_option maxRecDepth 100000 in
theorem wkX12_squareOf (l : Launch) (D : va_G) (cI cJ cB cZ : ClassId) (bd : Nat → Nat) (k : Nat) (t : XT) (a1 : Int32) (a2 : Int32) (Q : Int64 → XT → Prop) (hR : wqX12_squareOf k t a1 a2 Q) : MetL l yX12_squareOf wsX12_squareOf 7 160 0 0 D (TYS cI cJ cB cZ) (wM cI cJ cB cZ bd t) [.ref (bd 0), .int a1, .int a2] (fun r u => Q r u) (fun u : XT => (wM cI cJ cB cZ bd u)) := by
  refine x_startL (ty := .long) (cc := cX12_squareOf) (by decide) rfl (Nat.le_of_ble_eq_true rfl) ?_
  intro p e s m args below meth c A ls B hr hnm h hl
  have hx := B.1.1
  have hb := B.1.2.1
  have hml := B.1.2.2.1
  have hts := B.1.2.2.2.2
  have hown : s.vm.findClass RX12 = some m.cls := B.1.2.2.2.1
  have hin12 : ∀ w ∈ u_ws RX12 TX12 31, w ∈ wsX12_squareOf := by decide +kernel
  have main : ∀ k : Nat, (∀ (t : XT) (li : Nat → Int32) (lj : Nat → Int64) (H : Heap) (locs : List Loc) (ls : Array Slot), wpX12_squareOf k 0 t li lj Q → lv_has ls 6 [(0, .ref (bd 0)), (1, .int (li 1)), (2, .int (li 2))] → Hp D A s.heap (wM cI cJ cB cZ bd t) H locs → W p l e { frames := 7, cells := 0, slots := 0, locals := 160 } s m args below meth c H locs 0 0 (MQ below (va_Ql (fun r u => Q r u) (fun u t => xEnd D ((fun u : XT => (wM cI cJ cB cZ bd u)) u) A t) A) args s 0 0 A) (F0 m 0 ls [])) ∧
      (∀ (t : XT) (li : Nat → Int32) (lj : Nat → Int64) (H : Heap) (locs : List Loc) (ls : Array Slot), wpX12_squareOf k 1 t li lj Q → lv_has ls 6 [(0, .ref (bd 0)), (1, .int (li 1)), (2, .int (li 2)), (3, .long (lj 3)), (5, .int (li 5))] → Hp D A s.heap (wM cI cJ cB cZ bd t) H locs → W p l e { frames := 7, cells := 0, slots := 0, locals := 160 } s m args below meth c H locs 0 0 (MQ below (va_Ql (fun r u => Q r u) (fun u t => xEnd D ((fun u : XT => (wM cI cJ cB cZ bd u)) u) A t) A) args s 0 0 A) (F0 m 5 ls [])) ∧
      (∀ (t : XT) (li : Nat → Int32) (lj : Nat → Int64) (H : Heap) (locs : List Loc) (ls : Array Slot), wpX12_squareOf k 2 t li lj Q → lv_has ls 6 [(0, .ref (bd 0)), (1, .int (li 1)), (2, .int (li 2)), (3, .long (lj 3)), (5, .int (li 5))] → Hp D A s.heap (wM cI cJ cB cZ bd t) H locs → W p l e { frames := 7, cells := 0, slots := 0, locals := 160 } s m args below meth c H locs 0 0 (MQ below (va_Ql (fun r u => Q r u) (fun u t => xEnd D ((fun u : XT => (wM cI cJ cB cZ bd u)) u) A t) A) args s 0 0 A) (F0 m 52 ls [])) := by
    intro k
    induction k with
    | zero => exact ⟨fun _ _ _ _ _ _ hR => False.elim hR, fun _ _ _ _ _ _ hR => False.elim hR, fun _ _ _ _ _ _ hR => False.elim hR⟩
    | succ k ih =>
      refine ⟨?_, ?_, ?_⟩
      · intro t li lj H locs ls hR hl h
        have hR : wbX12_squareOf_0 (wpX12_squareOf k) k t li lj Q := hR
        unfold wbX12_squareOf_0 at hR
        refine lv_lconst (v := 0) hx hb dX12_squareOf_0 (by decide) ?_
        refine lv_lstore_n (lv' := [(3, .long 0), (0, .ref (bd 0)), (1, .int (li 1)), (2, .int (li 2))]) hx hb dX12_squareOf_1 rfl hl (by decide) rfl (fun ls hl => ?_)
        refine lv_iconst (v := 0) hx hb dX12_squareOf_2 (by decide) ?_
        refine lv_istore (lv' := [(5, .int 0), (3, .long 0), (0, .ref (bd 0)), (1, .int (li 1)), (2, .int (li 2))]) hx hb dX12_squareOf_3 hl (by decide) rfl (fun ls hl => ?_)
        exact ih.2.1 t (uI li 5 0) (uI lj 3 0) H locs ls hR (lv_sub hl [2, 3, 4, 1, 0] rfl) h
      · intro t li lj H locs ls hR hl h
        have hR : wbX12_squareOf_1 (wpX12_squareOf k) k t li lj Q := hR
        unfold wbX12_squareOf_1 at hR
        refine lv_iload hx hb dX12_squareOf_5 (lv_at hl 4 rfl) ?_
        refine lv_aload_n hx hb dX12_squareOf_7 rfl (lv_at hl 0 rfl) ?_
        refine x_get (ci := 12) (C := RX12) (T := TX12) (N := 31) (v := .int (t.1 3)) B h hin12 0 5 rfl rfl (by decide) (by decide +kernel) rfl dX12_squareOf_8 ?_
        refine lv_icmp_ge (tgt := 58) hx hb dX12_squareOf_11 (by decide) (fun c_1 => ?_) (fun c_1 => ?_)
        · have hR := hR.1 c_1
          refine lv_lload_n hx hb dX12_squareOf_58 rfl (lv_at hl 3 rfl) ?_
          exact x_lret (w1 := (fun u : XT => (wM cI cJ cB cZ bd u))) t B h hr hR dX12_squareOf_59
        · have hR := hR.2 c_1
          refine lv_aload_n hx hb dX12_squareOf_14 rfl (lv_at hl 0 rfl) ?_
          refine lv_iload_n hx hb dX12_squareOf_15 rfl (lv_at hl 1 rfl) ?_
          refine lv_iload hx hb dX12_squareOf_16 (lv_at hl 4 rfl) ?_
          refine x_cVIF (n := 2) (As := [.int (li 1), .int (li 5)]) (rest := []) B h (wkX12_areEnds l D cI cJ cB cZ bd k t (li 1) (li 5) _ hR) ⟨⟨_, rfl⟩, by decide +kernel, Nat.le_of_ble_eq_true rfl, Nat.le_of_ble_eq_true rfl⟩ gX12_squareOf_X12_areEnds (show ((wM cI cJ cB cZ bd t) : va_W)[0]? = some (_, .inr (12, _)) from rfl) rfl rfl hl.1 rfl (Nat.le_of_ble_eq_true rfl) dX12_squareOf_18 ⟨Nat.le_of_ble_eq_true rfl, Nat.le_of_ble_eq_true rfl⟩ (fun r_2 t_2 H locs hR h => ?_)
          refine lv_if_eq (tgt := 52) hx hb dX12_squareOf_21 (by decide) (fun c_3 => ?_) (fun c_3 => ?_)
          · have hR := hR.1 c_3
            exact ih.2.2 t_2 li lj H locs ls hR (lv_sub hl [0, 1, 2, 3, 4] rfl) h
          · have hR := hR.2 c_3
            refine lv_aload_n hx hb dX12_squareOf_24 rfl (lv_at hl 0 rfl) ?_
            refine lv_iload hx hb dX12_squareOf_25 (lv_at hl 4 rfl) ?_
            refine lv_iload_n hx hb dX12_squareOf_27 rfl (lv_at hl 2 rfl) ?_
            refine x_cVIF (n := 2) (As := [.int (li 5), .int (li 2)]) (rest := []) B h (wkX12_areEnds l D cI cJ cB cZ bd k t_2 (li 5) (li 2) _ hR) ⟨⟨_, rfl⟩, by decide +kernel, Nat.le_of_ble_eq_true rfl, Nat.le_of_ble_eq_true rfl⟩ gX12_squareOf_X12_areEnds (show ((wM cI cJ cB cZ bd t_2) : va_W)[0]? = some (_, .inr (12, _)) from rfl) rfl rfl hl.1 rfl (Nat.le_of_ble_eq_true rfl) dX12_squareOf_28 ⟨Nat.le_of_ble_eq_true rfl, Nat.le_of_ble_eq_true rfl⟩ (fun r_4 t_4 H locs hR h => ?_)
            refine lv_if_eq (tgt := 52) hx hb dX12_squareOf_31 (by decide) (fun c_5 => ?_) (fun c_5 => ?_)
            · have hR := hR.1 c_5
              exact ih.2.2 t_4 li lj H locs ls hR (lv_sub hl [0, 1, 2, 3, 4] rfl) h
            · have hR := hR.2 c_5
              refine lv_lload_n hx hb dX12_squareOf_34 rfl (lv_at hl 3 rfl) ?_
              refine lv_aload_n hx hb dX12_squareOf_35 rfl (lv_at hl 0 rfl) ?_
              refine lv_iload_n hx hb dX12_squareOf_36 rfl (lv_at hl 1 rfl) ?_
              refine lv_iload hx hb dX12_squareOf_37 (lv_at hl 4 rfl) ?_
              refine x_cVLF (n := 2) (As := [.int (li 1), .int (li 5)]) (rest := [.long (lj 3)]) B h (wkX12_incidenceOf l D cI cJ cB cZ bd k t_4 (li 1) (li 5) _ hR) ⟨⟨_, rfl⟩, by decide +kernel, Nat.le_of_ble_eq_true rfl, Nat.le_of_ble_eq_true rfl⟩ gX12_squareOf_X12_incidenceOf (show ((wM cI cJ cB cZ bd t_4) : va_W)[0]? = some (_, .inr (12, _)) from rfl) rfl rfl hl.1 rfl (Nat.le_of_ble_eq_true rfl) dX12_squareOf_39 ⟨Nat.le_of_ble_eq_true rfl, Nat.le_of_ble_eq_true rfl⟩ (fun r_6 t_6 H locs hR h => ?_)
              refine lv_aload_n hx hb dX12_squareOf_42 rfl (lv_at hl 0 rfl) ?_
              refine lv_iload hx hb dX12_squareOf_43 (lv_at hl 4 rfl) ?_
              refine lv_iload_n hx hb dX12_squareOf_45 rfl (lv_at hl 2 rfl) ?_
              refine x_cVLF (n := 2) (As := [.int (li 5), .int (li 2)]) (rest := [.long r_6, .long (lj 3)]) B h (wkX12_incidenceOf l D cI cJ cB cZ bd k t_6 (li 5) (li 2) _ hR) ⟨⟨_, rfl⟩, by decide +kernel, Nat.le_of_ble_eq_true rfl, Nat.le_of_ble_eq_true rfl⟩ gX12_squareOf_X12_incidenceOf (show ((wM cI cJ cB cZ bd t_6) : va_W)[0]? = some (_, .inr (12, _)) from rfl) rfl rfl hl.1 rfl (Nat.le_of_ble_eq_true rfl) dX12_squareOf_46 ⟨Nat.le_of_ble_eq_true rfl, Nat.le_of_ble_eq_true rfl⟩ (fun r_7 t_7 H locs hR h => ?_)
              refine lv_lmul hx hb dX12_squareOf_49 ?_
              refine lv_topl (fun v_8 ev_8 => ?_)
              have hR := hR v_8 ev_8
              refine lv_ladd hx hb dX12_squareOf_50 ?_
              refine lv_topl (fun v_9 ev_9 => ?_)
              have hR := hR v_9 ev_9
              refine lv_lstore_n (lv' := [(3, .long v_9), (0, .ref (bd 0)), (1, .int (li 1)), (2, .int (li 2)), (5, .int (li 5))]) hx hb dX12_squareOf_51 rfl hl (by decide) rfl (fun ls hl => ?_)
              exact ih.2.2 t_7 li (uI lj 3 v_9) H locs ls hR (lv_sub hl [1, 2, 3, 0, 4] rfl) h
      · intro t li lj H locs ls hR hl h
        have hR : wbX12_squareOf_2 (wpX12_squareOf k) k t li lj Q := hR
        unfold wbX12_squareOf_2 at hR
        obtain ⟨v_10, ev_10⟩ : ∃ v : Int32, v = (li 5) + Int32.ofInt 1 := ⟨_, rfl⟩
        have hR := hR v_10 ev_10
        refine lv_iinc (v := v_10) (lv' := [(5, .int v_10), (0, .ref (bd 0)), (1, .int (li 1)), (2, .int (li 2)), (3, .long (lj 3))]) hx hb dX12_squareOf_52 hl (k := 4) rfl ev_10.symm (by decide) rfl (fun ls hl => ?_)
        refine lv_goto (tgt := 5) hx hb dX12_squareOf_55 (by decide) ?_
        exact ih.2.1 t (uI li 5 v_10) lj H locs ls hR (lv_sub hl [1, 2, 3, 4, 0] rfl) h
  exact (main k).1 t _ _ s.heap [] ls hR hl h
set_option maxRecDepth 20000 in
theorem ggX12_squares_X12_isCritical : GoodIn wsX12_squares wsX12_isCritical := goodIn_r _ [6, 7, 8, 9, 10, 5, 11, 12, 13, 14, 15, 16, 1, 17, 18, 19, 74, 75, 76, 77, 78, 79, 80, 81, 82, 83, 84, 85, 86, 87, 88, 89, 90, 91, 92, 93, 94, 95, 96, 97, 98, 99, 100, 101, 102, 103, 104] (by decide +kernel) (by decide +kernel)
set_option maxRecDepth 20000 in
theorem gX12_squares_X12_isCritical : GoodIn wsX12_squares (wsV RX12 159 RX12 yX12_isCritical wsX12_isCritical) := goodIn_app (goodIn_of _ (by decide +kernel)) ggX12_squares_X12_isCritical
set_option maxRecDepth 20000 in
theorem ggX12_squares_X12_dimOf : GoodIn wsX12_squares wsX12_dimOf := goodIn_r _ [23, 24, 25, 26, 27, 28, 29, 30, 31, 74, 75, 76, 77, 78, 79, 80, 81, 82, 83, 84, 85, 86, 87, 88, 89, 90, 91, 92, 93, 94, 95, 96, 97, 98, 99, 100, 101, 102, 103, 104] (by decide +kernel) (by decide +kernel)
set_option maxRecDepth 20000 in
theorem gX12_squares_X12_dimOf : GoodIn wsX12_squares (wsV RX12 149 RX12 yX12_dimOf wsX12_dimOf) := goodIn_app (goodIn_of _ (by decide +kernel)) ggX12_squares_X12_dimOf
set_option maxRecDepth 20000 in
theorem ggX12_squares_X12_squareOf : GoodIn wsX12_squares wsX12_squareOf := goodIn_r _ [35, 1, 36, 37, 38, 5, 39, 2, 3, 4, 6, 7, 8, 9, 10, 11, 12, 13, 14, 15, 16, 17, 18, 19, 20, 21, 22, 23, 24, 25, 26, 27, 28, 29, 30, 31, 40, 41, 42, 43, 44, 45, 46, 47, 48, 49, 50, 51, 52, 53, 54, 55, 56, 57, 58, 59, 60, 61, 62, 63, 64, 65, 66, 67, 68, 69, 70, 71, 72, 73, 74, 75, 76, 77, 78, 79, 80, 81, 82, 83, 84, 85, 86, 87, 88, 89, 90, 91, 92, 93, 94, 95, 96, 97, 98, 99, 100, 101, 102, 103, 104] (by decide +kernel) (by decide +kernel)
set_option maxRecDepth 20000 in
theorem gX12_squares_X12_squareOf : GoodIn wsX12_squares (wsV RX12 256 RX12 yX12_squareOf wsX12_squareOf) := goodIn_app (goodIn_of _ (by decide +kernel)) ggX12_squares_X12_squareOf
set_option maxRecDepth 20000 in
theorem ggX12_squares_X12_truth : GoodIn wsX12_squares wsX12_truth := goodIn_r _ [57] (by decide +kernel) (by decide +kernel)
set_option maxRecDepth 20000 in
theorem gX12_squares_X12_truth : GoodIn wsX12_squares (va_wsS RX12 105 yX12_truth wsX12_truth) := goodIn_app (goodIn_of _ (by decide +kernel)) ggX12_squares_X12_truth
def wbX12_squares_0 (rec : Nat → XT → (Nat → Int32) → (Nat → Int64) → (Int32 → XT → Prop) → Prop) (k : Nat) (t : XT) (li : Nat → Int32) (lj : Nat → Int64) (Q : Int32 → XT → Prop) : Prop :=
  rec 1 t (uI (uI li 1 0) 2 0) lj Q
def wbX12_squares_1 (rec : Nat → XT → (Nat → Int32) → (Nat → Int64) → (Int32 → XT → Prop) → Prop) (k : Nat) (t : XT) (li : Nat → Int32) (lj : Nat → Int64) (Q : Int32 → XT → Prop) : Prop :=
  ((((t.1 3) : Int32) ≤ (li 2)) → Q (li 1) t) ∧ (¬ (((t.1 3) : Int32) ≤ (li 2)) → rec 2 t (uI li 3 0) lj Q)
def wbX12_squares_2 (rec : Nat → XT → (Nat → Int32) → (Nat → Int64) → (Int32 → XT → Prop) → Prop) (k : Nat) (t : XT) (li : Nat → Int32) (lj : Nat → Int64) (Q : Int32 → XT → Prop) : Prop :=
  ((((t.1 3) : Int32) ≤ (li 3)) → (∀ v_3 : Int32, v_3 = (li 2) + Int32.ofInt 1 → rec 1 t (uI li 2 v_3) lj Q)) ∧ (¬ (((t.1 3) : Int32) ≤ (li 3)) → (wqX12_isCritical k t (li 2) (fun r_4 t_4 => ((r_4 = 0) → rec 4 t_4 li lj Q) ∧ (¬ (r_4 = 0) → (wqX12_isCritical k t_4 (li 3) (fun r_6 t_6 => ((r_6 = 0) → rec 4 t_6 li lj Q) ∧ (¬ (r_6 = 0) → (wqX12_dimOf k t_6 (li 2) (fun r_8 t_8 => (wqX12_dimOf k t_8 (li 3) (fun r_9 t_9 => (∀ v_10 : Int32, v_10 = (r_9 + 2) → ((¬ r_8 = v_10) → rec 4 t_9 li lj Q) ∧ ((r_8 = v_10) → (wqX12_squareOf k t_9 (li 2) (li 3) (fun r_12 t_12 => (∀ v_13 : Int32, v_13 = (lg_cmp r_12 0) → ((v_13 = 0) → rec 3 t_12 (uI (uI li 101 0) 100 (li 1)) lj Q) ∧ (¬ (v_13 = 0) → rec 3 t_12 (uI (uI li 101 1) 100 (li 1)) lj Q)))))))))))))))))
def wbX12_squares_3 (rec : Nat → XT → (Nat → Int32) → (Nat → Int64) → (Int32 → XT → Prop) → Prop) (k : Nat) (t : XT) (li : Nat → Int32) (lj : Nat → Int64) (Q : Int32 → XT → Prop) : Prop :=
  (wqX12_truth k (li 101) (fun r_15 => (∀ v_16 : Int32, v_16 = ((li 100) + r_15) → rec 4 t (uI li 1 v_16) lj Q)))
def wbX12_squares_4 (rec : Nat → XT → (Nat → Int32) → (Nat → Int64) → (Int32 → XT → Prop) → Prop) (k : Nat) (t : XT) (li : Nat → Int32) (lj : Nat → Int64) (Q : Int32 → XT → Prop) : Prop :=
  (∀ v_17 : Int32, v_17 = (li 3) + Int32.ofInt 1 → rec 2 t (uI li 3 v_17) lj Q)
def wpX12_squares : Nat → Nat → XT → (Nat → Int32) → (Nat → Int64) → (Int32 → XT → Prop) → Prop
  | 0, _, _, _, _, _ => False
  | k + 1, 0, t, li, lj, Q => wbX12_squares_0 (wpX12_squares k) k t li lj Q
  | k + 1, 1, t, li, lj, Q => wbX12_squares_1 (wpX12_squares k) k t li lj Q
  | k + 1, 2, t, li, lj, Q => wbX12_squares_2 (wpX12_squares k) k t li lj Q
  | k + 1, 3, t, li, lj, Q => wbX12_squares_3 (wpX12_squares k) k t li lj Q
  | k + 1, 4, t, li, lj, Q => wbX12_squares_4 (wpX12_squares k) k t li lj Q
  | _ + 1, _, _, _, _, _ => False
def wqX12_squares (k : Nat) (t : XT)  (Q : Int32 → XT → Prop) : Prop := wpX12_squares k 0 t (fun _ => 0) (fun _ => 0) Q
set_option maxHeartbeats 8000000 in
set_option maxRecDepth 100000 in
theorem wkX12_squares (l : Launch) (D : va_G) (cI cJ cB cZ : ClassId) (bd : Nat → Nat) (k : Nat) (t : XT)  (Q : Int32 → XT → Prop) (hR : wqX12_squares k t  Q) : MetI l yX12_squares wsX12_squares 8 185 0 0 D (TYS cI cJ cB cZ) (wM cI cJ cB cZ bd t) [.ref (bd 0)] (fun r u => Q r u) (fun u : XT => (wM cI cJ cB cZ bd u)) := by
  refine x_startI (ty := .int) (cc := cX12_squares) (by decide) rfl (Nat.le_of_ble_eq_true rfl) ?_
  intro p e s m args below meth c A ls B hr hnm h hl
  have hx := B.1.1
  have hb := B.1.2.1
  have hml := B.1.2.2.1
  have hts := B.1.2.2.2.2
  have hown : s.vm.findClass RX12 = some m.cls := B.1.2.2.2.1
  have hin12 : ∀ w ∈ u_ws RX12 TX12 31, w ∈ wsX12_squares := by decide +kernel
  have main : ∀ k : Nat, (∀ (t : XT) (li : Nat → Int32) (lj : Nat → Int64) (H : Heap) (locs : List Loc) (ls : Array Slot), wpX12_squares k 0 t li lj Q → lv_has ls 4 [(0, .ref (bd 0))] → Hp D A s.heap (wM cI cJ cB cZ bd t) H locs → W p l e { frames := 8, cells := 0, slots := 0, locals := 185 } s m args below meth c H locs 0 0 (MQ below (va_Qi (fun r u => Q r u) (fun u t => xEnd D ((fun u : XT => (wM cI cJ cB cZ bd u)) u) A t) A) args s 0 0 A) (F0 m 0 ls [])) ∧
      (∀ (t : XT) (li : Nat → Int32) (lj : Nat → Int64) (H : Heap) (locs : List Loc) (ls : Array Slot), wpX12_squares k 1 t li lj Q → lv_has ls 4 [(0, .ref (bd 0)), (1, .int (li 1)), (2, .int (li 2))] → Hp D A s.heap (wM cI cJ cB cZ bd t) H locs → W p l e { frames := 8, cells := 0, slots := 0, locals := 185 } s m args below meth c H locs 0 0 (MQ below (va_Qi (fun r u => Q r u) (fun u t => xEnd D ((fun u : XT => (wM cI cJ cB cZ bd u)) u) A t) A) args s 0 0 A) (F0 m 4 ls [])) ∧
      (∀ (t : XT) (li : Nat → Int32) (lj : Nat → Int64) (H : Heap) (locs : List Loc) (ls : Array Slot), wpX12_squares k 2 t li lj Q → lv_has ls 4 [(0, .ref (bd 0)), (1, .int (li 1)), (2, .int (li 2)), (3, .int (li 3))] → Hp D A s.heap (wM cI cJ cB cZ bd t) H locs → W p l e { frames := 8, cells := 0, slots := 0, locals := 185 } s m args below meth c H locs 0 0 (MQ below (va_Qi (fun r u => Q r u) (fun u t => xEnd D ((fun u : XT => (wM cI cJ cB cZ bd u)) u) A t) A) args s 0 0 A) (F0 m 14 ls [])) ∧
      (∀ (t : XT) (li : Nat → Int32) (lj : Nat → Int64) (H : Heap) (locs : List Loc) (ls : Array Slot), wpX12_squares k 3 t li lj Q → lv_has ls 4 [(0, .ref (bd 0)), (1, .int (li 1)), (2, .int (li 2)), (3, .int (li 3))] → Hp D A s.heap (wM cI cJ cB cZ bd t) H locs → W p l e { frames := 8, cells := 0, slots := 0, locals := 185 } s m args below meth c H locs 0 0 (MQ below (va_Qi (fun r u => Q r u) (fun u t => xEnd D ((fun u : XT => (wM cI cJ cB cZ bd u)) u) A t) A) args s 0 0 A) (F0 m 70 ls [.int (li 101), .int (li 100)])) ∧
      (∀ (t : XT) (li : Nat → Int32) (lj : Nat → Int64) (H : Heap) (locs : List Loc) (ls : Array Slot), wpX12_squares k 4 t li lj Q → lv_has ls 4 [(0, .ref (bd 0)), (1, .int (li 1)), (2, .int (li 2)), (3, .int (li 3))] → Hp D A s.heap (wM cI cJ cB cZ bd t) H locs → W p l e { frames := 8, cells := 0, slots := 0, locals := 185 } s m args below meth c H locs 0 0 (MQ below (va_Qi (fun r u => Q r u) (fun u t => xEnd D ((fun u : XT => (wM cI cJ cB cZ bd u)) u) A t) A) args s 0 0 A) (F0 m 75 ls [])) := by
    intro k
    induction k with
    | zero => exact ⟨fun _ _ _ _ _ _ hR => False.elim hR, fun _ _ _ _ _ _ hR => False.elim hR, fun _ _ _ _ _ _ hR => False.elim hR, fun _ _ _ _ _ _ hR => False.elim hR, fun _ _ _ _ _ _ hR => False.elim hR⟩
    | succ k ih =>
      refine ⟨?_, ?_, ?_, ?_, ?_⟩
      · intro t li lj H locs ls hR hl h
        have hR : wbX12_squares_0 (wpX12_squares k) k t li lj Q := hR
        unfold wbX12_squares_0 at hR
        refine lv_iconst (v := 0) hx hb dX12_squares_0 (by decide) ?_
        refine lv_istore_n (lv' := [(1, .int 0), (0, .ref (bd 0))]) hx hb dX12_squares_1 rfl hl (by decide) rfl (fun ls hl => ?_)
        refine lv_iconst (v := 0) hx hb dX12_squares_2 (by decide) ?_
        refine lv_istore_n (lv' := [(2, .int 0), (1, .int 0), (0, .ref (bd 0))]) hx hb dX12_squares_3 rfl hl (by decide) rfl (fun ls hl => ?_)
        exact ih.2.1 t (uI (uI li 1 0) 2 0) lj H locs ls hR (lv_sub hl [2, 1, 0] rfl) h
      · intro t li lj H locs ls hR hl h
        have hR : wbX12_squares_1 (wpX12_squares k) k t li lj Q := hR
        unfold wbX12_squares_1 at hR
        refine lv_iload_n hx hb dX12_squares_4 rfl (lv_at hl 2 rfl) ?_
        refine lv_aload_n hx hb dX12_squares_5 rfl (lv_at hl 0 rfl) ?_
        refine x_get (ci := 12) (C := RX12) (T := TX12) (N := 31) (v := .int (t.1 3)) B h hin12 0 5 rfl rfl (by decide) (by decide +kernel) rfl dX12_squares_6 ?_
        refine lv_icmp_ge (tgt := 87) hx hb dX12_squares_9 (by decide) (fun c_1 => ?_) (fun c_1 => ?_)
        · have hR := hR.1 c_1
          refine lv_iload_n hx hb dX12_squares_87 rfl (lv_at hl 1 rfl) ?_
          exact x_iret (w1 := (fun u : XT => (wM cI cJ cB cZ bd u))) t B h hr rfl hR dX12_squares_88
        · have hR := hR.2 c_1
          refine lv_iconst (v := 0) hx hb dX12_squares_12 (by decide) ?_
          refine lv_istore_n (lv' := [(3, .int 0), (0, .ref (bd 0)), (1, .int (li 1)), (2, .int (li 2))]) hx hb dX12_squares_13 rfl hl (by decide) rfl (fun ls hl => ?_)
          exact ih.2.2.1 t (uI li 3 0) lj H locs ls hR (lv_sub hl [1, 2, 3, 0] rfl) h
      · intro t li lj H locs ls hR hl h
        have hR : wbX12_squares_2 (wpX12_squares k) k t li lj Q := hR
        unfold wbX12_squares_2 at hR
        refine lv_iload_n hx hb dX12_squares_14 rfl (lv_at hl 3 rfl) ?_
        refine lv_aload_n hx hb dX12_squares_15 rfl (lv_at hl 0 rfl) ?_
        refine x_get (ci := 12) (C := RX12) (T := TX12) (N := 31) (v := .int (t.1 3)) B h hin12 0 5 rfl rfl (by decide) (by decide +kernel) rfl dX12_squares_16 ?_
        refine lv_icmp_ge (tgt := 81) hx hb dX12_squares_19 (by decide) (fun c_2 => ?_) (fun c_2 => ?_)
        · have hR := hR.1 c_2
          obtain ⟨v_3, ev_3⟩ : ∃ v : Int32, v = (li 2) + Int32.ofInt 1 := ⟨_, rfl⟩
          have hR := hR v_3 ev_3
          refine lv_iinc (v := v_3) (lv' := [(2, .int v_3), (0, .ref (bd 0)), (1, .int (li 1)), (3, .int (li 3))]) hx hb dX12_squares_81 hl (k := 2) rfl ev_3.symm (by decide) rfl (fun ls hl => ?_)
          refine lv_goto (tgt := 4) hx hb dX12_squares_84 (by decide) ?_
          exact ih.2.1 t (uI li 2 v_3) lj H locs ls hR (lv_sub hl [1, 2, 0] rfl) h
        · have hR := hR.2 c_2
          refine lv_aload_n hx hb dX12_squares_22 rfl (lv_at hl 0 rfl) ?_
          refine lv_iload_n hx hb dX12_squares_23 rfl (lv_at hl 2 rfl) ?_
          refine x_cVIF (n := 1) (As := [.int (li 2)]) (rest := []) B h (wkX12_isCritical l D cI cJ cB cZ bd k t (li 2) _ hR) ⟨⟨_, rfl⟩, by decide +kernel, Nat.le_of_ble_eq_true rfl, Nat.le_of_ble_eq_true rfl⟩ gX12_squares_X12_isCritical (show ((wM cI cJ cB cZ bd t) : va_W)[0]? = some (_, .inr (12, _)) from rfl) rfl rfl hl.1 rfl (Nat.le_of_ble_eq_true rfl) dX12_squares_24 ⟨Nat.le_of_ble_eq_true rfl, Nat.le_of_ble_eq_true rfl⟩ (fun r_4 t_4 H locs hR h => ?_)
          refine lv_if_eq (tgt := 75) hx hb dX12_squares_27 (by decide) (fun c_5 => ?_) (fun c_5 => ?_)
          · have hR := hR.1 c_5
            exact ih.2.2.2.2 t_4 li lj H locs ls hR (lv_sub hl [0, 1, 2, 3] rfl) h
          · have hR := hR.2 c_5
            refine lv_aload_n hx hb dX12_squares_30 rfl (lv_at hl 0 rfl) ?_
            refine lv_iload_n hx hb dX12_squares_31 rfl (lv_at hl 3 rfl) ?_
            refine x_cVIF (n := 1) (As := [.int (li 3)]) (rest := []) B h (wkX12_isCritical l D cI cJ cB cZ bd k t_4 (li 3) _ hR) ⟨⟨_, rfl⟩, by decide +kernel, Nat.le_of_ble_eq_true rfl, Nat.le_of_ble_eq_true rfl⟩ gX12_squares_X12_isCritical (show ((wM cI cJ cB cZ bd t_4) : va_W)[0]? = some (_, .inr (12, _)) from rfl) rfl rfl hl.1 rfl (Nat.le_of_ble_eq_true rfl) dX12_squares_32 ⟨Nat.le_of_ble_eq_true rfl, Nat.le_of_ble_eq_true rfl⟩ (fun r_6 t_6 H locs hR h => ?_)
            refine lv_if_eq (tgt := 75) hx hb dX12_squares_35 (by decide) (fun c_7 => ?_) (fun c_7 => ?_)
            · have hR := hR.1 c_7
              exact ih.2.2.2.2 t_6 li lj H locs ls hR (lv_sub hl [0, 1, 2, 3] rfl) h
            · have hR := hR.2 c_7
              refine lv_aload_n hx hb dX12_squares_38 rfl (lv_at hl 0 rfl) ?_
              refine lv_iload_n hx hb dX12_squares_39 rfl (lv_at hl 2 rfl) ?_
              refine x_cVIF (n := 1) (As := [.int (li 2)]) (rest := []) B h (wkX12_dimOf l D cI cJ cB cZ bd k t_6 (li 2) _ hR) ⟨⟨_, rfl⟩, by decide +kernel, Nat.le_of_ble_eq_true rfl, Nat.le_of_ble_eq_true rfl⟩ gX12_squares_X12_dimOf (show ((wM cI cJ cB cZ bd t_6) : va_W)[0]? = some (_, .inr (12, _)) from rfl) rfl rfl hl.1 rfl (Nat.le_of_ble_eq_true rfl) dX12_squares_40 ⟨Nat.le_of_ble_eq_true rfl, Nat.le_of_ble_eq_true rfl⟩ (fun r_8 t_8 H locs hR h => ?_)
              refine lv_aload_n hx hb dX12_squares_43 rfl (lv_at hl 0 rfl) ?_
              refine lv_iload_n hx hb dX12_squares_44 rfl (lv_at hl 3 rfl) ?_
              refine x_cVIF (n := 1) (As := [.int (li 3)]) (rest := [.int r_8]) B h (wkX12_dimOf l D cI cJ cB cZ bd k t_8 (li 3) _ hR) ⟨⟨_, rfl⟩, by decide +kernel, Nat.le_of_ble_eq_true rfl, Nat.le_of_ble_eq_true rfl⟩ gX12_squares_X12_dimOf (show ((wM cI cJ cB cZ bd t_8) : va_W)[0]? = some (_, .inr (12, _)) from rfl) rfl rfl hl.1 rfl (Nat.le_of_ble_eq_true rfl) dX12_squares_45 ⟨Nat.le_of_ble_eq_true rfl, Nat.le_of_ble_eq_true rfl⟩ (fun r_9 t_9 H locs hR h => ?_)
              refine lv_iconst (v := 2) hx hb dX12_squares_48 (by decide) ?_
              refine lv_iadd hx hb dX12_squares_49 ?_
              refine lv_topi (fun v_10 ev_10 => ?_)
              have hR := hR v_10 ev_10
              refine lv_icmp_ne (tgt := 75) hx hb dX12_squares_50 (by decide) (fun c_11 => ?_) (fun c_11 => ?_)
              · have hR := hR.1 c_11
                exact ih.2.2.2.2 t_9 li lj H locs ls hR (lv_sub hl [0, 1, 2, 3] rfl) h
              · have hR := hR.2 c_11
                refine lv_iload_n hx hb dX12_squares_53 rfl (lv_at hl 1 rfl) ?_
                refine lv_aload_n hx hb dX12_squares_54 rfl (lv_at hl 0 rfl) ?_
                refine lv_iload_n hx hb dX12_squares_55 rfl (lv_at hl 2 rfl) ?_
                refine lv_iload_n hx hb dX12_squares_56 rfl (lv_at hl 3 rfl) ?_
                refine x_cVLF (n := 2) (As := [.int (li 2), .int (li 3)]) (rest := [.int (li 1)]) B h (wkX12_squareOf l D cI cJ cB cZ bd k t_9 (li 2) (li 3) _ hR) ⟨⟨_, rfl⟩, by decide +kernel, Nat.le_of_ble_eq_true rfl, Nat.le_of_ble_eq_true rfl⟩ gX12_squares_X12_squareOf (show ((wM cI cJ cB cZ bd t_9) : va_W)[0]? = some (_, .inr (12, _)) from rfl) rfl rfl hl.1 rfl (Nat.le_of_ble_eq_true rfl) dX12_squares_57 ⟨Nat.le_of_ble_eq_true rfl, Nat.le_of_ble_eq_true rfl⟩ (fun r_12 t_12 H locs hR h => ?_)
                refine lv_lconst (v := 0) hx hb dX12_squares_60 (by decide) ?_
                refine W.lcmp hx hb dX12_squares_61 ?_
                refine lv_topi (fun v_13 ev_13 => ?_)
                have hR := hR v_13 ev_13
                refine lv_if_eq (tgt := 69) hx hb dX12_squares_62 (by decide) (fun c_14 => ?_) (fun c_14 => ?_)
                · have hR := hR.1 c_14
                  refine lv_iconst (v := 0) hx hb dX12_squares_69 (by decide) ?_
                  exact ih.2.2.2.1 t_12 (uI (uI li 101 0) 100 (li 1)) lj H locs ls hR (lv_sub hl [0, 1, 2, 3] rfl) h
                · have hR := hR.2 c_14
                  refine lv_iconst (v := 1) hx hb dX12_squares_65 (by decide) ?_
                  refine lv_goto (tgt := 70) hx hb dX12_squares_66 (by decide) ?_
                  exact ih.2.2.2.1 t_12 (uI (uI li 101 1) 100 (li 1)) lj H locs ls hR (lv_sub hl [0, 1, 2, 3] rfl) h
      · intro t li lj H locs ls hR hl h
        have hR : wbX12_squares_3 (wpX12_squares k) k t li lj Q := hR
        unfold wbX12_squares_3 at hR
        refine x_cSIE (n := 1) (As := [.int (li 101)]) (rest := [.int (li 100)]) B h (wkX12_truth l D cI cJ cB cZ bd k (li 101) _ hR) ⟨⟨_, rfl⟩, by decide +kernel, Nat.le_of_ble_eq_true rfl, Nat.le_of_ble_eq_true rfl⟩ gX12_squares_X12_truth rfl hl.1 rfl (Nat.le_of_ble_eq_true rfl) dX12_squares_70 ⟨Nat.le_of_ble_eq_true rfl, Nat.le_of_ble_eq_true rfl⟩ (fun r_15 _ H locs hR h => ?_)
        refine lv_iadd hx hb dX12_squares_73 ?_
        refine lv_topi (fun v_16 ev_16 => ?_)
        have hR := hR v_16 ev_16
        refine lv_istore_n (lv' := [(1, .int v_16), (0, .ref (bd 0)), (2, .int (li 2)), (3, .int (li 3))]) hx hb dX12_squares_74 rfl hl (by decide) rfl (fun ls hl => ?_)
        exact ih.2.2.2.2 t (uI li 1 v_16) lj H locs ls hR (lv_sub hl [1, 0, 2, 3] rfl) h
      · intro t li lj H locs ls hR hl h
        have hR : wbX12_squares_4 (wpX12_squares k) k t li lj Q := hR
        unfold wbX12_squares_4 at hR
        obtain ⟨v_17, ev_17⟩ : ∃ v : Int32, v = (li 3) + Int32.ofInt 1 := ⟨_, rfl⟩
        have hR := hR v_17 ev_17
        refine lv_iinc (v := v_17) (lv' := [(3, .int v_17), (0, .ref (bd 0)), (1, .int (li 1)), (2, .int (li 2))]) hx hb dX12_squares_75 hl (k := 3) rfl ev_17.symm (by decide) rfl (fun ls hl => ?_)
        refine lv_goto (tgt := 14) hx hb dX12_squares_78 (by decide) ?_
        exact ih.2.2.1 t (uI li 3 v_17) lj H locs ls hR (lv_sub hl [1, 2, 3, 0] rfl) h
  exact (main k).1 t _ _ s.heap [] ls hR hl h
