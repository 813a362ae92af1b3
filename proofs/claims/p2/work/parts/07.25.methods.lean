set_option maxRecDepth 20000 in
theorem ggX12_slack_X12_in : GoodIn wsX12_slack wsX12_in := goodIn_r _ [5] (by decide +kernel) (by decide +kernel)
set_option maxRecDepth 20000 in
theorem gX12_slack_X12_in : GoodIn wsX12_slack (va_wsS RX12 101 yX12_in wsX12_in) := goodIn_app (goodIn_of _ (by decide +kernel)) ggX12_slack_X12_in
set_option maxRecDepth 20000 in
theorem ggX12_slack_X12_critical : GoodIn wsX12_slack wsX12_critical := goodIn_r _ [9, 10, 2, 3, 4, 5, 11, 12, 13, 14, 15, 16, 17, 18, 19, 20, 21, 22, 23, 24, 25, 26, 27, 28, 29, 30, 31, 32, 33, 34, 35, 36, 140, 141, 142, 143, 144, 145, 146, 147, 148, 149, 150, 151, 152, 153, 154, 155, 156, 157, 158, 159, 160, 161, 162, 163, 164, 165, 166, 167, 168, 169, 170] (by decide +kernel) (by decide +kernel)
set_option maxRecDepth 20000 in
theorem gX12_slack_X12_critical : GoodIn wsX12_slack (wsV RX12 328 RX12 yX12_critical wsX12_critical) := goodIn_app (goodIn_of _ (by decide +kernel)) ggX12_slack_X12_critical
set_option maxRecDepth 20000 in
theorem ggX12_slack_X12_betti : GoodIn wsX12_slack wsX12_betti := goodIn_r _ [40, 2, 3, 4, 5, 41, 42, 43, 44, 10, 45, 20, 11, 12, 13, 14, 15, 16, 17, 18, 19, 21, 22, 23, 24, 46, 47, 48, 49, 50, 51, 52, 53, 25, 26, 27, 28, 29, 30, 31, 32, 33, 34, 35, 36, 54, 55, 56, 57, 58, 59, 60, 61, 62, 63, 64, 65, 66, 67, 68, 69, 70, 71, 72, 73, 74, 75, 76, 77, 78, 79, 80, 81, 82, 83, 84, 85, 86, 87, 88, 89, 90, 91, 92, 93, 94, 95, 96, 97, 98, 99, 100, 101, 102, 103, 104, 105, 106, 107, 108, 109, 110, 111, 112, 113, 114, 115, 116, 117, 118, 119, 120, 121, 122, 123, 124, 125, 126, 127, 128, 129, 130, 131, 132, 133, 134, 135, 136, 137, 138, 139, 140, 141, 142, 143, 144, 145, 146, 147, 148, 149, 150, 151, 152, 153, 154, 155, 156, 157, 158, 159, 160, 161, 162, 163, 164, 165, 166, 167, 168, 169, 170] (by decide +kernel) (by decide +kernel)
set_option maxRecDepth 20000 in
theorem gX12_slack_X12_betti : GoodIn wsX12_slack (wsV RX12 331 RX12 yX12_betti wsX12_betti) := goodIn_app (goodIn_of _ (by decide +kernel)) ggX12_slack_X12_betti
def wbX12_slack_0 (rec : Nat → XT → (Nat → Int32) → (Nat → Int64) → (Int32 → XT → Prop) → Prop) (k : Nat) (t : XT) (li : Nat → Int32) (lj : Nat → Int64) (Q : Int32 → XT → Prop) : Prop :=
  (wqX12_in k (li 1) 0 4 (fun r_1 => ((¬ r_1 = 0) → rec 1 t (uI (uI li 2 0) 3 0) lj Q) ∧ ((r_1 = 0) → Q (-2147483648) t)))
def wbX12_slack_1 (rec : Nat → XT → (Nat → Int32) → (Nat → Int64) → (Int32 → XT → Prop) → Prop) (k : Nat) (t : XT) (li : Nat → Int32) (lj : Nat → Int64) (Q : Int32 → XT → Prop) : Prop :=
  ((((li 1) : Int32) < (li 3)) → Q (li 2) t) ∧ (¬ (((li 1) : Int32) < (li 3)) → (wqX12_critical k t (li 3) (-1) (fun r_4 t_4 => (wqX12_betti k t_4 (li 3) 0 (fun r_5 t_5 => (∀ v_6 : Int32, v_6 = (r_4 - r_5) → (∀ v_7 : Int32, v_7 = (v_6 - (li 2)) → (∀ v_8 : Int32, v_8 = (li 3) + Int32.ofInt 1 → rec 1 t_5 (uI (uI li 2 v_7) 3 v_8) lj Q))))))))
def wpX12_slack : Nat → Nat → XT → (Nat → Int32) → (Nat → Int64) → (Int32 → XT → Prop) → Prop
  | 0, _, _, _, _, _ => False
  | k + 1, 0, t, li, lj, Q => wbX12_slack_0 (wpX12_slack k) k t li lj Q
  | k + 1, 1, t, li, lj, Q => wbX12_slack_1 (wpX12_slack k) k t li lj Q
  | _ + 1, _, _, _, _, _ => False
def wqX12_slack (k : Nat) (t : XT) (a1 : Int32) (Q : Int32 → XT → Prop) : Prop := wpX12_slack k 0 t (uI (fun _ => 0) 1 a1) (fun _ => 0) Q
set_option maxHeartbeats 8000000 in
set_option maxRecDepth 100000 in
theorem wkX12_slack (l : Launch) (D : va_G) (cI cJ cB cZ : ClassId) (bd : Nat → Nat) (k : Nat) (t : XT) (a1 : Int32) (Q : Int32 → XT → Prop) (hR : wqX12_slack k t a1 Q) : MetI l yX12_slack wsX12_slack 11 252 0 0 D (TYS cI cJ cB cZ) (wM cI cJ cB cZ bd t) [.ref (bd 0), .int a1] (fun r u => Q r u) (fun u : XT => (wM cI cJ cB cZ bd u)) := by
  refine x_startI (ty := .int) (cc := cX12_slack) (by decide) rfl (Nat.le_of_ble_eq_true rfl) ?_
  intro p e s m args below meth c A ls B hr hnm h hl
  have hx := B.1.1
  have hb := B.1.2.1
  have hml := B.1.2.2.1
  have hts := B.1.2.2.2.2
  have hown : s.vm.findClass RX12 = some m.cls := B.1.2.2.2.1
  have main : ∀ k : Nat, (∀ (t : XT) (li : Nat → Int32) (lj : Nat → Int64) (H : Heap) (locs : List Loc) (ls : Array Slot), wpX12_slack k 0 t li lj Q → lv_has ls 4 [(0, .ref (bd 0)), (1, .int (li 1))] → Hp D A s.heap (wM cI cJ cB cZ bd t) H locs → W p l e { frames := 11, cells := 0, slots := 0, locals := 252 } s m args below meth c H locs 0 0 (MQ below (va_Qi (fun r u => Q r u) (fun u t => xEnd D ((fun u : XT => (wM cI cJ cB cZ bd u)) u) A t) A) args s 0 0 A) (F0 m 0 ls [])) ∧
      (∀ (t : XT) (li : Nat → Int32) (lj : Nat → Int64) (H : Heap) (locs : List Loc) (ls : Array Slot), wpX12_slack k 1 t li lj Q → lv_has ls 4 [(0, .ref (bd 0)), (1, .int (li 1)), (2, .int (li 2)), (3, .int (li 3))] → Hp D A s.heap (wM cI cJ cB cZ bd t) H locs → W p l e { frames := 11, cells := 0, slots := 0, locals := 252 } s m args below meth c H locs 0 0 (MQ below (va_Qi (fun r u => Q r u) (fun u t => xEnd D ((fun u : XT => (wM cI cJ cB cZ bd u)) u) A t) A) args s 0 0 A) (F0 m 16 ls [])) := by
    intro k
    induction k with
    | zero => exact ⟨fun _ _ _ _ _ _ hR => False.elim hR, fun _ _ _ _ _ _ hR => False.elim hR⟩
    | succ k ih =>
      refine ⟨?_, ?_⟩
      · intro t li lj H locs ls hR hl h
        have hR : wbX12_slack_0 (wpX12_slack k) k t li lj Q := hR
        unfold wbX12_slack_0 at hR
        refine lv_iload_n hx hb dX12_slack_0 rfl (lv_at hl 1 rfl) ?_
        refine lv_iconst (v := 0) hx hb dX12_slack_1 (by decide) ?_
        refine lv_iconst (v := 4) hx hb dX12_slack_2 (by decide) ?_
        refine x_cSIE (n := 3) (As := [.int (li 1), .int 0, .int 4]) (rest := []) B h (wkX12_in l D cI cJ cB cZ bd k (li 1) 0 4 _ hR) ⟨⟨_, rfl⟩, by decide +kernel, Nat.le_of_ble_eq_true rfl, Nat.le_of_ble_eq_true rfl⟩ gX12_slack_X12_in rfl hl.1 rfl (Nat.le_of_ble_eq_true rfl) dX12_slack_3 ⟨Nat.le_of_ble_eq_true rfl, Nat.le_of_ble_eq_true rfl⟩ (fun r_1 _ H locs hR h => ?_)
        refine lv_if_ne (tgt := 12) hx hb dX12_slack_6 (by decide) (fun c_2 => ?_) (fun c_2 => ?_)
        · have hR := hR.1 c_2
          refine lv_iconst (v := 0) hx hb dX12_slack_12 (by decide) ?_
          refine lv_istore_n (lv' := [(2, .int 0), (0, .ref (bd 0)), (1, .int (li 1))]) hx hb dX12_slack_13 rfl hl (by decide) rfl (fun ls hl => ?_)
          refine lv_iconst (v := 0) hx hb dX12_slack_14 (by decide) ?_
          refine lv_istore_n (lv' := [(3, .int 0), (2, .int 0), (0, .ref (bd 0)), (1, .int (li 1))]) hx hb dX12_slack_15 rfl hl (by decide) rfl (fun ls hl => ?_)
          exact ih.2 t (uI (uI li 2 0) 3 0) lj H locs ls hR (lv_sub hl [2, 3, 1, 0] rfl) h
        · have hR := hR.2 c_2
          refine lv_ldc (v := (-2147483648)) hx hb hown (hts (.constant RX12 165 (-2147483648)) (by decide +kernel)) dX12_slack_9 ?_
          exact x_iret (w1 := (fun u : XT => (wM cI cJ cB cZ bd u))) t B h hr rfl hR dX12_slack_11
      · intro t li lj H locs ls hR hl h
        have hR : wbX12_slack_1 (wpX12_slack k) k t li lj Q := hR
        unfold wbX12_slack_1 at hR
        refine lv_iload_n hx hb dX12_slack_16 rfl (lv_at hl 3 rfl) ?_
        refine lv_iload_n hx hb dX12_slack_17 rfl (lv_at hl 1 rfl) ?_
        refine lv_icmp_gt (tgt := 43) hx hb dX12_slack_18 (by decide) (fun c_3 => ?_) (fun c_3 => ?_)
        · have hR := hR.1 c_3
          refine lv_iload_n hx hb dX12_slack_43 rfl (lv_at hl 2 rfl) ?_
          exact x_iret (w1 := (fun u : XT => (wM cI cJ cB cZ bd u))) t B h hr rfl hR dX12_slack_44
        · have hR := hR.2 c_3
          refine lv_aload_n hx hb dX12_slack_21 rfl (lv_at hl 0 rfl) ?_
          refine lv_iload_n hx hb dX12_slack_22 rfl (lv_at hl 3 rfl) ?_
          refine lv_iconst (v := (-1)) hx hb dX12_slack_23 (by decide) ?_
          refine x_cVIF (n := 2) (As := [.int (li 3), .int (-1)]) (rest := []) B h (wkX12_critical l D cI cJ cB cZ bd k t (li 3) (-1) _ hR) ⟨⟨_, rfl⟩, by decide +kernel, Nat.le_of_ble_eq_true rfl, Nat.le_of_ble_eq_true rfl⟩ gX12_slack_X12_critical (show ((wM cI cJ cB cZ bd t) : va_W)[0]? = some (_, .inr (12, _)) from rfl) rfl rfl hl.1 rfl (Nat.le_of_ble_eq_true rfl) dX12_slack_24 ⟨Nat.le_of_ble_eq_true rfl, Nat.le_of_ble_eq_true rfl⟩ (fun r_4 t_4 H locs hR h => ?_)
          refine lv_aload_n hx hb dX12_slack_27 rfl (lv_at hl 0 rfl) ?_
          refine lv_iload_n hx hb dX12_slack_28 rfl (lv_at hl 3 rfl) ?_
          refine lv_iconst (v := 0) hx hb dX12_slack_29 (by decide) ?_
          refine x_cVIF (n := 2) (As := [.int (li 3), .int 0]) (rest := [.int r_4]) B h (wkX12_betti l D cI cJ cB cZ bd k t_4 (li 3) 0 _ hR) ⟨⟨_, rfl⟩, by decide +kernel, Nat.le_of_ble_eq_true rfl, Nat.le_of_ble_eq_true rfl⟩ gX12_slack_X12_betti (show ((wM cI cJ cB cZ bd t_4) : va_W)[0]? = some (_, .inr (12, _)) from rfl) rfl rfl hl.1 rfl (Nat.le_of_ble_eq_true rfl) dX12_slack_30 ⟨Nat.le_of_ble_eq_true rfl, Nat.le_of_ble_eq_true rfl⟩ (fun r_5 t_5 H locs hR h => ?_)
          refine lv_isub hx hb dX12_slack_33 ?_
          refine lv_topi (fun v_6 ev_6 => ?_)
          have hR := hR v_6 ev_6
          refine lv_iload_n hx hb dX12_slack_34 rfl (lv_at hl 2 rfl) ?_
          refine lv_isub hx hb dX12_slack_35 ?_
          refine lv_topi (fun v_7 ev_7 => ?_)
          have hR := hR v_7 ev_7
          refine lv_istore_n (lv' := [(2, .int v_7), (0, .ref (bd 0)), (1, .int (li 1)), (3, .int (li 3))]) hx hb dX12_slack_36 rfl hl (by decide) rfl (fun ls hl => ?_)
          obtain ⟨v_8, ev_8⟩ : ∃ v : Int32, v = (li 3) + Int32.ofInt 1 := ⟨_, rfl⟩
          have hR := hR v_8 ev_8
          refine lv_iinc (v := v_8) (lv' := [(3, .int v_8), (2, .int v_7), (0, .ref (bd 0)), (1, .int (li 1))]) hx hb dX12_slack_37 hl (k := 3) rfl ev_8.symm (by decide) rfl (fun ls hl => ?_)
          refine lv_goto (tgt := 16) hx hb dX12_slack_40 (by decide) ?_
          exact ih.2 t_5 (uI (uI li 2 v_7) 3 v_8) lj H locs ls hR (lv_sub hl [2, 3, 1, 0] rfl) h
  exact (main k).1 t _ _ s.heap [] ls hR hl h
set_option maxRecDepth 20000 in
theorem ggX12_free_X12_isFreeFace : GoodIn wsX12_free wsX12_isFreeFace := goodIn_r _ [6, 7, 8, 9, 5, 10, 11, 12, 13, 14, 15, 1, 16, 17, 18, 19, 20, 21, 22, 23, 24, 25, 26, 27, 28, 29, 30, 31, 32, 33, 34, 35, 36, 37, 38, 39, 40, 41, 42, 43, 44, 45, 46, 47, 48, 49, 50, 51, 52, 53, 54, 55, 56, 57, 58, 59, 60, 61, 62, 63, 64, 65, 66, 67, 68, 69, 70, 71, 72, 73, 74, 75, 76, 77, 78, 79, 80] (by decide +kernel) (by decide +kernel)
set_option maxRecDepth 20000 in
theorem gX12_free_X12_isFreeFace : GoodIn wsX12_free (wsV RX12 265 RX12 yX12_isFreeFace wsX12_isFreeFace) := goodIn_app (goodIn_of _ (by decide +kernel)) ggX12_free_X12_isFreeFace
def wbX12_free_0 (rec : Nat → XT → (Nat → Int32) → (Nat → Int64) → (Int32 → XT → Prop) → Prop) (k : Nat) (t : XT) (li : Nat → Int32) (lj : Nat → Int64) (Q : Int32 → XT → Prop) : Prop :=
  ((((-1) : Int32) ≤ (li 1)) → rec 1 t (uI (uI li 2 0) 3 0) lj Q) ∧ (¬ (((-1) : Int32) ≤ (li 1)) → Q (-1) t)
def wbX12_free_1 (rec : Nat → XT → (Nat → Int32) → (Nat → Int64) → (Int32 → XT → Prop) → Prop) (k : Nat) (t : XT) (li : Nat → Int32) (lj : Nat → Int64) (Q : Int32 → XT → Prop) : Prop :=
  ((((t.1 3) : Int32) ≤ (li 3)) → ((¬ (li 1) = (-1)) → Q (-2) t) ∧ (((li 1) = (-1)) → Q (li 2) t)) ∧ (¬ (((t.1 3) : Int32) ≤ (li 3)) → (wqX12_isFreeFace k t (li 3) (fun r_4 t_4 => ((r_4 = 0) → rec 2 t_4 li lj Q) ∧ (¬ (r_4 = 0) → ((¬ (li 2) = (li 1)) → (∀ v_7 : Int32, v_7 = (li 2) + Int32.ofInt 1 → rec 2 t_4 (uI li 2 v_7) lj Q)) ∧ (((li 2) = (li 1)) → Q (li 3) t_4)))))
def wbX12_free_2 (rec : Nat → XT → (Nat → Int32) → (Nat → Int64) → (Int32 → XT → Prop) → Prop) (k : Nat) (t : XT) (li : Nat → Int32) (lj : Nat → Int64) (Q : Int32 → XT → Prop) : Prop :=
  (∀ v_8 : Int32, v_8 = (li 3) + Int32.ofInt 1 → rec 1 t (uI li 3 v_8) lj Q)
def wpX12_free : Nat → Nat → XT → (Nat → Int32) → (Nat → Int64) → (Int32 → XT → Prop) → Prop
  | 0, _, _, _, _, _ => False
  | k + 1, 0, t, li, lj, Q => wbX12_free_0 (wpX12_free k) k t li lj Q
  | k + 1, 1, t, li, lj, Q => wbX12_free_1 (wpX12_free k) k t li lj Q
  | k + 1, 2, t, li, lj, Q => wbX12_free_2 (wpX12_free k) k t li lj Q
  | _ + 1, _, _, _, _, _ => False
def wqX12_free (k : Nat) (t : XT) (a1 : Int32) (Q : Int32 → XT → Prop) : Prop := wpX12_free k 0 t (uI (fun _ => 0) 1 a1) (fun _ => 0) Q
set_option maxHeartbeats 8000000 in
set_option maxRecDepth 100000 in
theorem wkX12_free (l : Launch) (D : va_G) (cI cJ cB cZ : ClassId) (bd : Nat → Nat) (k : Nat) (t : XT) (a1 : Int32) (Q : Int32 → XT → Prop) (hR : wqX12_free k t a1 Q) : MetI l yX12_free wsX12_free 6 129 0 0 D (TYS cI cJ cB cZ) (wM cI cJ cB cZ bd t) [.ref (bd 0), .int a1] (fun r u => Q r u) (fun u : XT => (wM cI cJ cB cZ bd u)) := by
  refine x_startI (ty := .int) (cc := cX12_free) (by decide) rfl (Nat.le_of_ble_eq_true rfl) ?_
  intro p e s m args below meth c A ls B hr hnm h hl
  have hx := B.1.1
  have hb := B.1.2.1
  have hml := B.1.2.2.1
  have hts := B.1.2.2.2.2
  have hown : s.vm.findClass RX12 = some m.cls := B.1.2.2.2.1
  have hin12 : ∀ w ∈ u_ws RX12 TX12 31, w ∈ wsX12_free := by decide +kernel
  have main : ∀ k : Nat, (∀ (t : XT) (li : Nat → Int32) (lj : Nat → Int64) (H : Heap) (locs : List Loc) (ls : Array Slot), wpX12_free k 0 t li lj Q → lv_has ls 4 [(0, .ref (bd 0)), (1, .int (li 1))] → Hp D A s.heap (wM cI cJ cB cZ bd t) H locs → W p l e { frames := 6, cells := 0, slots := 0, locals := 129 } s m args below meth c H locs 0 0 (MQ below (va_Qi (fun r u => Q r u) (fun u t => xEnd D ((fun u : XT => (wM cI cJ cB cZ bd u)) u) A t) A) args s 0 0 A) (F0 m 0 ls [])) ∧
      (∀ (t : XT) (li : Nat → Int32) (lj : Nat → Int64) (H : Heap) (locs : List Loc) (ls : Array Slot), wpX12_free k 1 t li lj Q → lv_has ls 4 [(0, .ref (bd 0)), (1, .int (li 1)), (2, .int (li 2)), (3, .int (li 3))] → Hp D A s.heap (wM cI cJ cB cZ bd t) H locs → W p l e { frames := 6, cells := 0, slots := 0, locals := 129 } s m args below meth c H locs 0 0 (MQ below (va_Qi (fun r u => Q r u) (fun u t => xEnd D ((fun u : XT => (wM cI cJ cB cZ bd u)) u) A t) A) args s 0 0 A) (F0 m 11 ls [])) ∧
      (∀ (t : XT) (li : Nat → Int32) (lj : Nat → Int64) (H : Heap) (locs : List Loc) (ls : Array Slot), wpX12_free k 2 t li lj Q → lv_has ls 4 [(0, .ref (bd 0)), (1, .int (li 1)), (2, .int (li 2)), (3, .int (li 3))] → Hp D A s.heap (wM cI cJ cB cZ bd t) H locs → W p l e { frames := 6, cells := 0, slots := 0, locals := 129 } s m args below meth c H locs 0 0 (MQ below (va_Qi (fun r u => Q r u) (fun u t => xEnd D ((fun u : XT => (wM cI cJ cB cZ bd u)) u) A t) A) args s 0 0 A) (F0 m 37 ls [])) := by
    intro k
    induction k with
    | zero => exact ⟨fun _ _ _ _ _ _ hR => False.elim hR, fun _ _ _ _ _ _ hR => False.elim hR, fun _ _ _ _ _ _ hR => False.elim hR⟩
    | succ k ih =>
      refine ⟨?_, ?_, ?_⟩
      · intro t li lj H locs ls hR hl h
        have hR : wbX12_free_0 (wpX12_free k) k t li lj Q := hR
        unfold wbX12_free_0 at hR
        refine lv_iload_n hx hb dX12_free_0 rfl (lv_at hl 1 rfl) ?_
        refine lv_iconst (v := (-1)) hx hb dX12_free_1 (by decide) ?_
        refine lv_icmp_ge (tgt := 7) hx hb dX12_free_2 (by decide) (fun c_1 => ?_) (fun c_1 => ?_)
        · have hR := hR.1 c_1
          refine lv_iconst (v := 0) hx hb dX12_free_7 (by decide) ?_
          refine lv_istore_n (lv' := [(2, .int 0), (0, .ref (bd 0)), (1, .int (li 1))]) hx hb dX12_free_8 rfl hl (by decide) rfl (fun ls hl => ?_)
          refine lv_iconst (v := 0) hx hb dX12_free_9 (by decide) ?_
          refine lv_istore_n (lv' := [(3, .int 0), (2, .int 0), (0, .ref (bd 0)), (1, .int (li 1))]) hx hb dX12_free_10 rfl hl (by decide) rfl (fun ls hl => ?_)
          exact ih.2.1 t (uI (uI li 2 0) 3 0) lj H locs ls hR (lv_sub hl [2, 3, 1, 0] rfl) h
        · have hR := hR.2 c_1
          refine lv_iconst (v := (-1)) hx hb dX12_free_5 (by decide) ?_
          exact x_iret (w1 := (fun u : XT => (wM cI cJ cB cZ bd u))) t B h hr rfl hR dX12_free_6
      · intro t li lj H locs ls hR hl h
        have hR : wbX12_free_1 (wpX12_free k) k t li lj Q := hR
        unfold wbX12_free_1 at hR
        refine lv_iload_n hx hb dX12_free_11 rfl (lv_at hl 3 rfl) ?_
        refine lv_aload_n hx hb dX12_free_12 rfl (lv_at hl 0 rfl) ?_
        refine x_get (ci := 12) (C := RX12) (T := TX12) (N := 31) (v := .int (t.1 3)) B h hin12 0 5 rfl rfl (by decide) (by decide +kernel) rfl dX12_free_13 ?_
        refine lv_icmp_ge (tgt := 43) hx hb dX12_free_16 (by decide) (fun c_2 => ?_) (fun c_2 => ?_)
        · have hR := hR.1 c_2
          refine lv_iload_n hx hb dX12_free_43 rfl (lv_at hl 1 rfl) ?_
          refine lv_iconst (v := (-1)) hx hb dX12_free_44 (by decide) ?_
          refine lv_icmp_ne (tgt := 52) hx hb dX12_free_45 (by decide) (fun c_3 => ?_) (fun c_3 => ?_)
          · have hR := hR.1 c_3
            refine lv_bipush (v := (-2)) hx hb dX12_free_52 (by decide) ?_
            exact x_iret (w1 := (fun u : XT => (wM cI cJ cB cZ bd u))) t B h hr rfl hR dX12_free_54
          · have hR := hR.2 c_3
            refine lv_iload_n hx hb dX12_free_48 rfl (lv_at hl 2 rfl) ?_
            refine lv_goto (tgt := 54) hx hb dX12_free_49 (by decide) ?_
            exact x_iret (w1 := (fun u : XT => (wM cI cJ cB cZ bd u))) t B h hr rfl hR dX12_free_54
        · have hR := hR.2 c_2
          refine lv_aload_n hx hb dX12_free_19 rfl (lv_at hl 0 rfl) ?_
          refine lv_iload_n hx hb dX12_free_20 rfl (lv_at hl 3 rfl) ?_
          refine x_cVIF (n := 1) (As := [.int (li 3)]) (rest := []) B h (wkX12_isFreeFace l D cI cJ cB cZ bd k t (li 3) _ hR) ⟨⟨_, rfl⟩, by decide +kernel, Nat.le_of_ble_eq_true rfl, Nat.le_of_ble_eq_true rfl⟩ gX12_free_X12_isFreeFace (show ((wM cI cJ cB cZ bd t) : va_W)[0]? = some (_, .inr (12, _)) from rfl) rfl rfl hl.1 rfl (Nat.le_of_ble_eq_true rfl) dX12_free_21 ⟨Nat.le_of_ble_eq_true rfl, Nat.le_of_ble_eq_true rfl⟩ (fun r_4 t_4 H locs hR h => ?_)
          refine lv_if_eq (tgt := 37) hx hb dX12_free_24 (by decide) (fun c_5 => ?_) (fun c_5 => ?_)
          · have hR := hR.1 c_5
            exact ih.2.2 t_4 li lj H locs ls hR (lv_sub hl [0, 1, 2, 3] rfl) h
          · have hR := hR.2 c_5
            refine lv_iload_n hx hb dX12_free_27 rfl (lv_at hl 2 rfl) ?_
            refine lv_iload_n hx hb dX12_free_28 rfl (lv_at hl 1 rfl) ?_
            refine lv_icmp_ne (tgt := 34) hx hb dX12_free_29 (by decide) (fun c_6 => ?_) (fun c_6 => ?_)
            · have hR := hR.1 c_6
              obtain ⟨v_7, ev_7⟩ : ∃ v : Int32, v = (li 2) + Int32.ofInt 1 := ⟨_, rfl⟩
              have hR := hR v_7 ev_7
              refine lv_iinc (v := v_7) (lv' := [(2, .int v_7), (0, .ref (bd 0)), (1, .int (li 1)), (3, .int (li 3))]) hx hb dX12_free_34 hl (k := 2) rfl ev_7.symm (by decide) rfl (fun ls hl => ?_)
              exact ih.2.2 t_4 (uI li 2 v_7) lj H locs ls hR (lv_sub hl [1, 2, 0, 3] rfl) h
            · have hR := hR.2 c_6
              refine lv_iload_n hx hb dX12_free_32 rfl (lv_at hl 3 rfl) ?_
              exact x_iret (w1 := (fun u : XT => (wM cI cJ cB cZ bd u))) t_4 B h hr rfl hR dX12_free_33
      · intro t li lj H locs ls hR hl h
        have hR : wbX12_free_2 (wpX12_free k) k t li lj Q := hR
        unfold wbX12_free_2 at hR
        obtain ⟨v_8, ev_8⟩ : ∃ v : Int32, v = (li 3) + Int32.ofInt 1 := ⟨_, rfl⟩
        have hR := hR v_8 ev_8
        refine lv_iinc (v := v_8) (lv' := [(3, .int v_8), (0, .ref (bd 0)), (1, .int (li 1)), (2, .int (li 2))]) hx hb dX12_free_37 hl (k := 3) rfl ev_8.symm (by decide) rfl (fun ls hl => ?_)
        refine lv_goto (tgt := 11) hx hb dX12_free_40 (by decide) ?_
        exact ih.2.1 t (uI li 3 v_8) lj H locs ls hR (lv_sub hl [1, 2, 3, 0] rfl) h
  exact (main k).1 t _ _ s.heap [] ls hR hl h
set_option maxRecDepth 20000 in
theorem ggX12_facet_X12_isThere : GoodIn wsX12_facet wsX12_isThere := goodIn_r _ [6, 7, 8, 9, 10, 5, 11, 1, 12, 13, 14, 42, 43, 44, 45, 46, 47, 48, 49, 50, 51, 52, 53, 54, 55, 56, 57, 58, 59, 60, 61, 62, 63, 64, 65, 66, 67, 68, 69, 70, 71, 72] (by decide +kernel) (by decide +kernel)
set_option maxRecDepth 20000 in
theorem gX12_facet_X12_isThere : GoodIn wsX12_facet (wsV RX12 156 RX12 yX12_isThere wsX12_isThere) := goodIn_app (goodIn_of _ (by decide +kernel)) ggX12_facet_X12_isThere
set_option maxRecDepth 20000 in
theorem ggX12_facet_X12_facesOver : GoodIn wsX12_facet wsX12_facesOver := goodIn_r _ [18, 1, 19, 20, 21, 5, 22, 7, 23, 24, 25, 26, 27, 28, 29, 30, 31, 32, 33, 34, 35, 36, 37, 38, 39, 40, 41, 42, 43, 44, 45, 46, 47, 48, 49, 50, 51, 52, 53, 54, 55, 56, 57, 58, 59, 60, 61, 62, 63, 64, 65, 66, 67, 68, 69, 70, 71, 72] (by decide +kernel) (by decide +kernel)
set_option maxRecDepth 20000 in
theorem gX12_facet_X12_facesOver : GoodIn wsX12_facet (wsV RX12 176 RX12 yX12_facesOver wsX12_facesOver) := goodIn_app (goodIn_of _ (by decide +kernel)) ggX12_facet_X12_facesOver
def wbX12_facet_0 (rec : Nat → XT → (Nat → Int32) → (Nat → Int64) → (Int32 → XT → Prop) → Prop) (k : Nat) (t : XT) (li : Nat → Int32) (lj : Nat → Int64) (Q : Int32 → XT → Prop) : Prop :=
  ((((-1) : Int32) ≤ (li 1)) → rec 1 t (uI (uI li 2 0) 3 0) lj Q) ∧ (¬ (((-1) : Int32) ≤ (li 1)) → Q (-1) t)
def wbX12_facet_1 (rec : Nat → XT → (Nat → Int32) → (Nat → Int64) → (Int32 → XT → Prop) → Prop) (k : Nat) (t : XT) (li : Nat → Int32) (lj : Nat → Int64) (Q : Int32 → XT → Prop) : Prop :=
  ((((t.1 3) : Int32) ≤ (li 3)) → ((¬ (li 1) = (-1)) → Q (-2) t) ∧ (((li 1) = (-1)) → Q (li 2) t)) ∧ (¬ (((t.1 3) : Int32) ≤ (li 3)) → (wqX12_isThere k t (li 3) (fun r_4 t_4 => ((r_4 = 0) → rec 2 t_4 li lj Q) ∧ (¬ (r_4 = 0) → (wqX12_facesOver k t_4 (li 3) (fun r_6 t_6 => ((¬ r_6 = 0) → rec 2 t_6 li lj Q) ∧ ((r_6 = 0) → ((¬ (li 2) = (li 1)) → (∀ v_9 : Int32, v_9 = (li 2) + Int32.ofInt 1 → rec 2 t_6 (uI li 2 v_9) lj Q)) ∧ (((li 2) = (li 1)) → Q (li 3) t_6))))))))
def wbX12_facet_2 (rec : Nat → XT → (Nat → Int32) → (Nat → Int64) → (Int32 → XT → Prop) → Prop) (k : Nat) (t : XT) (li : Nat → Int32) (lj : Nat → Int64) (Q : Int32 → XT → Prop) : Prop :=
  (∀ v_10 : Int32, v_10 = (li 3) + Int32.ofInt 1 → rec 1 t (uI li 3 v_10) lj Q)
def wpX12_facet : Nat → Nat → XT → (Nat → Int32) → (Nat → Int64) → (Int32 → XT → Prop) → Prop
  | 0, _, _, _, _, _ => False
  | k + 1, 0, t, li, lj, Q => wbX12_facet_0 (wpX12_facet k) k t li lj Q
  | k + 1, 1, t, li, lj, Q => wbX12_facet_1 (wpX12_facet k) k t li lj Q
  | k + 1, 2, t, li, lj, Q => wbX12_facet_2 (wpX12_facet k) k t li lj Q
  | _ + 1, _, _, _, _, _ => False
def wqX12_facet (k : Nat) (t : XT) (a1 : Int32) (Q : Int32 → XT → Prop) : Prop := wpX12_facet k 0 t (uI (fun _ => 0) 1 a1) (fun _ => 0) Q
set_option maxHeartbeats 8000000 in
set_option maxRecDepth 100000 in
theorem wkX12_facet (l : Launch) (D : va_G) (cI cJ cB cZ : ClassId) (bd : Nat → Nat) (k : Nat) (t : XT) (a1 : Int32) (Q : Int32 → XT → Prop) (hR : wqX12_facet k t a1 Q) : MetI l yX12_facet wsX12_facet 5 108 0 0 D (TYS cI cJ cB cZ) (wM cI cJ cB cZ bd t) [.ref (bd 0), .int a1] (fun r u => Q r u) (fun u : XT => (wM cI cJ cB cZ bd u)) := by
  refine x_startI (ty := .int) (cc := cX12_facet) (by decide) rfl (Nat.le_of_ble_eq_true rfl) ?_
  intro p e s m args below meth c A ls B hr hnm h hl
  have hx := B.1.1
  have hb := B.1.2.1
  have hml := B.1.2.2.1
  have hts := B.1.2.2.2.2
  have hown : s.vm.findClass RX12 = some m.cls := B.1.2.2.2.1
  have hin12 : ∀ w ∈ u_ws RX12 TX12 31, w ∈ wsX12_facet := by decide +kernel
  have main : ∀ k : Nat, (∀ (t : XT) (li : Nat → Int32) (lj : Nat → Int64) (H : Heap) (locs : List Loc) (ls : Array Slot), wpX12_facet k 0 t li lj Q → lv_has ls 4 [(0, .ref (bd 0)), (1, .int (li 1))] → Hp D A s.heap (wM cI cJ cB cZ bd t) H locs → W p l e { frames := 5, cells := 0, slots := 0, locals := 108 } s m args below meth c H locs 0 0 (MQ below (va_Qi (fun r u => Q r u) (fun u t => xEnd D ((fun u : XT => (wM cI cJ cB cZ bd u)) u) A t) A) args s 0 0 A) (F0 m 0 ls [])) ∧
      (∀ (t : XT) (li : Nat → Int32) (lj : Nat → Int64) (H : Heap) (locs : List Loc) (ls : Array Slot), wpX12_facet k 1 t li lj Q → lv_has ls 4 [(0, .ref (bd 0)), (1, .int (li 1)), (2, .int (li 2)), (3, .int (li 3))] → Hp D A s.heap (wM cI cJ cB cZ bd t) H locs → W p l e { frames := 5, cells := 0, slots := 0, locals := 108 } s m args below meth c H locs 0 0 (MQ below (va_Qi (fun r u => Q r u) (fun u t => xEnd D ((fun u : XT => (wM cI cJ cB cZ bd u)) u) A t) A) args s 0 0 A) (F0 m 11 ls [])) ∧
      (∀ (t : XT) (li : Nat → Int32) (lj : Nat → Int64) (H : Heap) (locs : List Loc) (ls : Array Slot), wpX12_facet k 2 t li lj Q → lv_has ls 4 [(0, .ref (bd 0)), (1, .int (li 1)), (2, .int (li 2)), (3, .int (li 3))] → Hp D A s.heap (wM cI cJ cB cZ bd t) H locs → W p l e { frames := 5, cells := 0, slots := 0, locals := 108 } s m args below meth c H locs 0 0 (MQ below (va_Qi (fun r u => Q r u) (fun u t => xEnd D ((fun u : XT => (wM cI cJ cB cZ bd u)) u) A t) A) args s 0 0 A) (F0 m 45 ls [])) := by
    intro k
    induction k with
    | zero => exact ⟨fun _ _ _ _ _ _ hR => False.elim hR, fun _ _ _ _ _ _ hR => False.elim hR, fun _ _ _ _ _ _ hR => False.elim hR⟩
    | succ k ih =>
      refine ⟨?_, ?_, ?_⟩
      · intro t li lj H locs ls hR hl h
        have hR : wbX12_facet_0 (wpX12_facet k) k t li lj Q := hR
        unfold wbX12_facet_0 at hR
        refine lv_iload_n hx hb dX12_facet_0 rfl (lv_at hl 1 rfl) ?_
        refine lv_iconst (v := (-1)) hx hb dX12_facet_1 (by decide) ?_
        refine lv_icmp_ge (tgt := 7) hx hb dX12_facet_2 (by decide) (fun c_1 => ?_) (fun c_1 => ?_)
        · have hR := hR.1 c_1
          refine lv_iconst (v := 0) hx hb dX12_facet_7 (by decide) ?_
          refine lv_istore_n (lv' := [(2, .int 0), (0, .ref (bd 0)), (1, .int (li 1))]) hx hb dX12_facet_8 rfl hl (by decide) rfl (fun ls hl => ?_)
          refine lv_iconst (v := 0) hx hb dX12_facet_9 (by decide) ?_
          refine lv_istore_n (lv' := [(3, .int 0), (2, .int 0), (0, .ref (bd 0)), (1, .int (li 1))]) hx hb dX12_facet_10 rfl hl (by decide) rfl (fun ls hl => ?_)
          exact ih.2.1 t (uI (uI li 2 0) 3 0) lj H locs ls hR (lv_sub hl [2, 3, 1, 0] rfl) h
        · have hR := hR.2 c_1
          refine lv_iconst (v := (-1)) hx hb dX12_facet_5 (by decide) ?_
          exact x_iret (w1 := (fun u : XT => (wM cI cJ cB cZ bd u))) t B h hr rfl hR dX12_facet_6
      · intro t li lj H locs ls hR hl h
        have hR : wbX12_facet_1 (wpX12_facet k) k t li lj Q := hR
        unfold wbX12_facet_1 at hR
        refine lv_iload_n hx hb dX12_facet_11 rfl (lv_at hl 3 rfl) ?_
        refine lv_aload_n hx hb dX12_facet_12 rfl (lv_at hl 0 rfl) ?_
        refine x_get (ci := 12) (C := RX12) (T := TX12) (N := 31) (v := .int (t.1 3)) B h hin12 0 5 rfl rfl (by decide) (by decide +kernel) rfl dX12_facet_13 ?_
        refine lv_icmp_ge (tgt := 51) hx hb dX12_facet_16 (by decide) (fun c_2 => ?_) (fun c_2 => ?_)
        · have hR := hR.1 c_2
          refine lv_iload_n hx hb dX12_facet_51 rfl (lv_at hl 1 rfl) ?_
          refine lv_iconst (v := (-1)) hx hb dX12_facet_52 (by decide) ?_
          refine lv_icmp_ne (tgt := 60) hx hb dX12_facet_53 (by decide) (fun c_3 => ?_) (fun c_3 => ?_)
          · have hR := hR.1 c_3
            refine lv_bipush (v := (-2)) hx hb dX12_facet_60 (by decide) ?_
            exact x_iret (w1 := (fun u : XT => (wM cI cJ cB cZ bd u))) t B h hr rfl hR dX12_facet_62
          · have hR := hR.2 c_3
            refine lv_iload_n hx hb dX12_facet_56 rfl (lv_at hl 2 rfl) ?_
            refine lv_goto (tgt := 62) hx hb dX12_facet_57 (by decide) ?_
            exact x_iret (w1 := (fun u : XT => (wM cI cJ cB cZ bd u))) t B h hr rfl hR dX12_facet_62
        · have hR := hR.2 c_2
          refine lv_aload_n hx hb dX12_facet_19 rfl (lv_at hl 0 rfl) ?_
          refine lv_iload_n hx hb dX12_facet_20 rfl (lv_at hl 3 rfl) ?_
          refine x_cVIF (n := 1) (As := [.int (li 3)]) (rest := []) B h (wkX12_isThere l D cI cJ cB cZ bd k t (li 3) _ hR) ⟨⟨_, rfl⟩, by decide +kernel, Nat.le_of_ble_eq_true rfl, Nat.le_of_ble_eq_true rfl⟩ gX12_facet_X12_isThere (show ((wM cI cJ cB cZ bd t) : va_W)[0]? = some (_, .inr (12, _)) from rfl) rfl rfl hl.1 rfl (Nat.le_of_ble_eq_true rfl) dX12_facet_21 ⟨Nat.le_of_ble_eq_true rfl, Nat.le_of_ble_eq_true rfl⟩ (fun r_4 t_4 H locs hR h => ?_)
          refine lv_if_eq (tgt := 45) hx hb dX12_facet_24 (by decide) (fun c_5 => ?_) (fun c_5 => ?_)
          · have hR := hR.1 c_5
            exact ih.2.2 t_4 li lj H locs ls hR (lv_sub hl [0, 1, 2, 3] rfl) h
          · have hR := hR.2 c_5
            refine lv_aload_n hx hb dX12_facet_27 rfl (lv_at hl 0 rfl) ?_
            refine lv_iload_n hx hb dX12_facet_28 rfl (lv_at hl 3 rfl) ?_
            refine x_cVIF (n := 1) (As := [.int (li 3)]) (rest := []) B h (wkX12_facesOver l D cI cJ cB cZ bd k t_4 (li 3) _ hR) ⟨⟨_, rfl⟩, by decide +kernel, Nat.le_of_ble_eq_true rfl, Nat.le_of_ble_eq_true rfl⟩ gX12_facet_X12_facesOver (show ((wM cI cJ cB cZ bd t_4) : va_W)[0]? = some (_, .inr (12, _)) from rfl) rfl rfl hl.1 rfl (Nat.le_of_ble_eq_true rfl) dX12_facet_29 ⟨Nat.le_of_ble_eq_true rfl, Nat.le_of_ble_eq_true rfl⟩ (fun r_6 t_6 H locs hR h => ?_)
            refine lv_if_ne (tgt := 45) hx hb dX12_facet_32 (by decide) (fun c_7 => ?_) (fun c_7 => ?_)
            · have hR := hR.1 c_7
              exact ih.2.2 t_6 li lj H locs ls hR (lv_sub hl [0, 1, 2, 3] rfl) h
            · have hR := hR.2 c_7
              refine lv_iload_n hx hb dX12_facet_35 rfl (lv_at hl 2 rfl) ?_
              refine lv_iload_n hx hb dX12_facet_36 rfl (lv_at hl 1 rfl) ?_
              refine lv_icmp_ne (tgt := 42) hx hb dX12_facet_37 (by decide) (fun c_8 => ?_) (fun c_8 => ?_)
              · have hR := hR.1 c_8
                obtain ⟨v_9, ev_9⟩ : ∃ v : Int32, v = (li 2) + Int32.ofInt 1 := ⟨_, rfl⟩
                have hR := hR v_9 ev_9
                refine lv_iinc (v := v_9) (lv' := [(2, .int v_9), (0, .ref (bd 0)), (1, .int (li 1)), (3, .int (li 3))]) hx hb dX12_facet_42 hl (k := 2) rfl ev_9.symm (by decide) rfl (fun ls hl => ?_)
                exact ih.2.2 t_6 (uI li 2 v_9) lj H locs ls hR (lv_sub hl [1, 2, 0, 3] rfl) h
              · have hR := hR.2 c_8
                refine lv_iload_n hx hb dX12_facet_40 rfl (lv_at hl 3 rfl) ?_
                exact x_iret (w1 := (fun u : XT => (wM cI cJ cB cZ bd u))) t_6 B h hr rfl hR dX12_facet_41
      · intro t li lj H locs ls hR hl h
        have hR : wbX12_facet_2 (wpX12_facet k) k t li lj Q := hR
        unfold wbX12_facet_2 at hR
        obtain ⟨v_10, ev_10⟩ : ∃ v : Int32, v = (li 3) + Int32.ofInt 1 := ⟨_, rfl⟩
        have hR := hR v_10 ev_10
        refine lv_iinc (v := v_10) (lv' := [(3, .int v_10), (0, .ref (bd 0)), (1, .int (li 1)), (2, .int (li 2))]) hx hb dX12_facet_45 hl (k := 3) rfl ev_10.symm (by decide) rfl (fun ls hl => ?_)
        refine lv_goto (tgt := 11) hx hb dX12_facet_48 (by decide) ?_
        exact ih.2.1 t (uI li 3 v_10) lj H locs ls hR (lv_sub hl [1, 2, 3, 0] rfl) h
  exact (main k).1 t _ _ s.heap [] ls hR hl h
set_option maxRecDepth 20000 in
theorem ggX12_alternating_X12_dimOf : GoodIn wsX12_alternating wsX12_dimOf := goodIn_r _ [5, 6, 7, 8, 9, 10, 11, 12, 13, 14, 15, 16, 17, 18, 19, 20, 21, 22, 23, 24, 25, 26, 27, 28, 29, 30, 31, 32, 33, 34, 35, 36, 37, 38, 39, 40, 41, 42, 43, 44] (by decide +kernel) (by decide +kernel)
set_option maxRecDepth 20000 in
theorem gX12_alternating_X12_dimOf : GoodIn wsX12_alternating (wsV RX12 149 RX12 yX12_dimOf wsX12_dimOf) := goodIn_app (goodIn_of _ (by decide +kernel)) ggX12_alternating_X12_dimOf
def wbX12_alternating_0 (rec : Nat → XT → (Nat → Int32) → (Nat → Int64) → (Int32 → XT → Prop) → Prop) (k : Nat) (t : XT) (li : Nat → Int32) (lj : Nat → Int64) (Q : Int32 → XT → Prop) : Prop :=
  (wqX12_dimOf k t (li 1) (fun r_1 t_1 => ((¬ (2 : Int32) = 0) ∧ (∀ v_2 : Int32, v_2 = (r_1 - r_1 / 2 * 2) → ((¬ v_2 = 0) → Q (-1) t_1) ∧ ((v_2 = 0) → Q 1 t_1)))))
def wpX12_alternating : Nat → Nat → XT → (Nat → Int32) → (Nat → Int64) → (Int32 → XT → Prop) → Prop
  | 0, _, _, _, _, _ => False
  | k + 1, 0, t, li, lj, Q => wbX12_alternating_0 (wpX12_alternating k) k t li lj Q
  | _ + 1, _, _, _, _, _ => False
def wqX12_alternating (k : Nat) (t : XT) (a1 : Int32) (Q : Int32 → XT → Prop) : Prop := wpX12_alternating k 0 t (uI (fun _ => 0) 1 a1) (fun _ => 0) Q
set_option maxHeartbeats 8000000 in
set_option maxRecDepth 100000 in
theorem wkX12_alternating (l : Launch) (D : va_G) (cI cJ cB cZ : ClassId) (bd : Nat → Nat) (k : Nat) (t : XT) (a1 : Int32) (Q : Int32 → XT → Prop) (hR : wqX12_alternating k t a1 Q) : MetI l yX12_alternating wsX12_alternating 2 41 0 0 D (TYS cI cJ cB cZ) (wM cI cJ cB cZ bd t) [.ref (bd 0), .int a1] (fun r u => Q r u) (fun u : XT => (wM cI cJ cB cZ bd u)) := by
  refine x_startI (ty := .int) (cc := cX12_alternating) (by decide) rfl (Nat.le_of_ble_eq_true rfl) ?_
  intro p e s m args below meth c A ls B hr hnm h hl
  have hx := B.1.1
  have hb := B.1.2.1
  have hml := B.1.2.2.1
  have hts := B.1.2.2.2.2
  have hown : s.vm.findClass RX12 = some m.cls := B.1.2.2.2.1
  have main : ∀ k : Nat, (∀ (t : XT) (li : Nat → Int32) (lj : Nat → Int64) (H : Heap) (locs : List Loc) (ls : Array Slot), wpX12_alternating k 0 t li lj Q → lv_has ls 2 [(0, .ref (bd 0)), (1, .int (li 1))] → Hp D A s.heap (wM cI cJ cB cZ bd t) H locs → W p l e { frames := 2, cells := 0, slots := 0, locals := 41 } s m args below meth c H locs 0 0 (MQ below (va_Qi (fun r u => Q r u) (fun u t => xEnd D ((fun u : XT => (wM cI cJ cB cZ bd u)) u) A t) A) args s 0 0 A) (F0 m 0 ls [])) := by
    intro k
    induction k with
    | zero => exact fun _ _ _ _ _ _ hR => False.elim hR
    | succ k ih =>
      intro t li lj H locs ls hR hl h
      have hR : wbX12_alternating_0 (wpX12_alternating k) k t li lj Q := hR
      unfold wbX12_alternating_0 at hR
      refine lv_aload_n hx hb dX12_alternating_0 rfl (lv_at hl 0 rfl) ?_
      refine lv_iload_n hx hb dX12_alternating_1 rfl (lv_at hl 1 rfl) ?_
      refine x_cVIF (n := 1) (As := [.int (li 1)]) (rest := []) B h (wkX12_dimOf l D cI cJ cB cZ bd k t (li 1) _ hR) ⟨⟨_, rfl⟩, by decide +kernel, Nat.le_of_ble_eq_true rfl, Nat.le_of_ble_eq_true rfl⟩ gX12_alternating_X12_dimOf (show ((wM cI cJ cB cZ bd t) : va_W)[0]? = some (_, .inr (12, _)) from rfl) rfl rfl hl.1 rfl (Nat.le_of_ble_eq_true rfl) dX12_alternating_2 ⟨Nat.le_of_ble_eq_true rfl, Nat.le_of_ble_eq_true rfl⟩ (fun r_1 t_1 H locs hR h => ?_)
      refine lv_iconst (v := 2) hx hb dX12_alternating_5 (by decide) ?_
      obtain ⟨hd_2, hR⟩ := hR
      refine lv_irem hx hb dX12_alternating_6 hd_2 ?_
      refine lv_topi (fun v_2 ev_2 => ?_)
      have hR := hR v_2 ev_2
      refine lv_if_ne (tgt := 14) hx hb dX12_alternating_7 (by decide) (fun c_3 => ?_) (fun c_3 => ?_)
      · have hR := hR.1 c_3
        refine lv_iconst (v := (-1)) hx hb dX12_alternating_14 (by decide) ?_
        exact x_iret (w1 := (fun u : XT => (wM cI cJ cB cZ bd u))) t_1 B h hr rfl hR dX12_alternating_15
      · have hR := hR.2 c_3
        refine lv_iconst (v := 1) hx hb dX12_alternating_10 (by decide) ?_
        refine lv_goto (tgt := 15) hx hb dX12_alternating_11 (by decide) ?_
        exact x_iret (w1 := (fun u : XT => (wM cI cJ cB cZ bd u))) t_1 B h hr rfl hR dX12_alternating_15
  exact (main k) t _ _ s.heap [] ls hR hl h
set_option maxRecDepth 20000 in
theorem ggX12_link_X12_isThere : GoodIn wsX12_link wsX12_isThere := goodIn_r _ [9, 10, 11, 12, 13, 8, 14, 2, 15, 16, 17, 33, 34, 35, 36, 37, 38, 39, 40, 41, 42, 43, 44, 45, 46, 47, 48, 49, 50, 51, 52, 53, 54, 55, 56, 57, 58, 59, 60, 61, 62, 63] (by decide +kernel) (by decide +kernel)
set_option maxRecDepth 20000 in
theorem gX12_link_X12_isThere : GoodIn wsX12_link (wsV RX12 156 RX12 yX12_isThere wsX12_isThere) := goodIn_app (goodIn_of _ (by decide +kernel)) ggX12_link_X12_isThere
set_option maxRecDepth 20000 in
theorem ggX12_link_X12_in : GoodIn wsX12_link wsX12_in := goodIn_r _ [17] (by decide +kernel) (by decide +kernel)
set_option maxRecDepth 20000 in
theorem gX12_link_X12_in : GoodIn wsX12_link (va_wsS RX12 101 yX12_in wsX12_in) := goodIn_app (goodIn_of _ (by decide +kernel)) ggX12_link_X12_in
set_option maxRecDepth 20000 in
theorem ggX12_link_X12_alternating : GoodIn wsX12_link wsX12_alternating := goodIn_r _ [21, 22, 23, 24, 8, 25, 3, 26, 27, 28, 29, 30, 31, 32, 33, 34, 35, 36, 37, 38, 39, 40, 41, 42, 43, 44, 45, 46, 47, 48, 49, 50, 51, 52, 53, 54, 55, 56, 57, 58, 59, 60, 61, 62, 63] (by decide +kernel) (by decide +kernel)
set_option maxRecDepth 20000 in
theorem gX12_link_X12_alternating : GoodIn wsX12_link (wsV RX12 334 RX12 yX12_alternating wsX12_alternating) := goodIn_app (goodIn_of _ (by decide +kernel)) ggX12_link_X12_alternating
def wbX12_link_0 (rec : Nat → XT → (Nat → Int32) → (Nat → Int64) → (Int32 → XT → Prop) → Prop) (k : Nat) (t : XT) (li : Nat → Int32) (lj : Nat → Int64) (Q : Int32 → XT → Prop) : Prop :=
  (wqX12_isThere k t (li 1) (fun r_1 t_1 => ((r_1 = 0) → rec 1 t_1 li lj Q) ∧ (¬ (r_1 = 0) → (wqX12_in k (li 2) 0 1 (fun r_3 => ((¬ r_3 = 0) → rec 2 t_1 (uI (uI li 3 0) 4 0) lj Q) ∧ ((r_3 = 0) → rec 1 t_1 li lj Q))))))
def wbX12_link_1 (rec : Nat → XT → (Nat → Int32) → (Nat → Int64) → (Int32 → XT → Prop) → Prop) (k : Nat) (t : XT) (li : Nat → Int32) (lj : Nat → Int64) (Q : Int32 → XT → Prop) : Prop :=
  Q (-2147483648) t
def wbX12_link_2 (rec : Nat → XT → (Nat → Int32) → (Nat → Int64) → (Int32 → XT → Prop) → Prop) (k : Nat) (t : XT) (li : Nat → Int32) (lj : Nat → Int64) (Q : Int32 → XT → Prop) : Prop :=
  ((((t.1 3) : Int32) ≤ (li 4)) → Q (li 3) t) ∧ (¬ (((t.1 3) : Int32) ≤ (li 4)) → (wqX12_isThere k t (li 4) (fun r_6 t_6 => ((r_6 = 0) → rec 4 t_6 li lj Q) ∧ (¬ (r_6 = 0) → (vp_in (li 4) 60 ∧ (∀ v_8 : Int32, v_8 = (t_6.2.2.1 2) (li 4).toNatClampNeg → (vp_in (li 1) 60 ∧ (∀ v_9 : Int32, v_9 = (t_6.2.2.1 2) (li 1).toNatClampNeg → (∀ v_10 : Int32, v_10 = (v_8 &&& v_9) → ((v_10 = 0) → (vp_in (li 4) 60 ∧ (∀ v_12 : Int32, v_12 = (t_6.2.2.1 2) (li 4).toNatClampNeg → (vp_in (li 1) 60 ∧ (∀ v_13 : Int32, v_13 = (t_6.2.2.1 2) (li 1).toNatClampNeg → (∀ v_14 : Int32, v_14 = (v_12 ||| v_13) → (vp_in v_14 256 ∧ (∀ v_15 : Int32, v_15 = (t_6.2.2.1 3) v_14.toNatClampNeg → ((v_15 = (-1)) → rec 4 t_6 li lj Q) ∧ (¬ (v_15 = (-1)) → (wqX12_isThere k t_6 v_15 (fun r_17 t_17 => ((r_17 = 0) → rec 4 t_17 li lj Q) ∧ (¬ (r_17 = 0) → ((¬ (li 2) = 0) → (wqX12_alternating k t_17 (li 4) (fun r_20 t_20 => rec 3 t_20 (uI (uI (uI li 5 v_15) 101 r_20) 100 (li 3)) lj Q))) ∧ (((li 2) = 0) → rec 3 t_17 (uI (uI (uI li 5 v_15) 101 1) 100 (li 3)) lj Q))))))))))))) ∧ (¬ (v_10 = 0) → rec 4 t_6 li lj Q))))))))))
def wbX12_link_3 (rec : Nat → XT → (Nat → Int32) → (Nat → Int64) → (Int32 → XT → Prop) → Prop) (k : Nat) (t : XT) (li : Nat → Int32) (lj : Nat → Int64) (Q : Int32 → XT → Prop) : Prop :=
  (∀ v_21 : Int32, v_21 = ((li 100) + (li 101)) → rec 4 t (uI li 3 v_21) lj Q)
def wbX12_link_4 (rec : Nat → XT → (Nat → Int32) → (Nat → Int64) → (Int32 → XT → Prop) → Prop) (k : Nat) (t : XT) (li : Nat → Int32) (lj : Nat → Int64) (Q : Int32 → XT → Prop) : Prop :=
  (∀ v_22 : Int32, v_22 = (li 4) + Int32.ofInt 1 → rec 2 t (uI li 4 v_22) lj Q)
def wpX12_link : Nat → Nat → XT → (Nat → Int32) → (Nat → Int64) → (Int32 → XT → Prop) → Prop
  | 0, _, _, _, _, _ => False
  | k + 1, 0, t, li, lj, Q => wbX12_link_0 (wpX12_link k) k t li lj Q
  | k + 1, 1, t, li, lj, Q => wbX12_link_1 (wpX12_link k) k t li lj Q
  | k + 1, 2, t, li, lj, Q => wbX12_link_2 (wpX12_link k) k t li lj Q
  | k + 1, 3, t, li, lj, Q => wbX12_link_3 (wpX12_link k) k t li lj Q
  | k + 1, 4, t, li, lj, Q => wbX12_link_4 (wpX12_link k) k t li lj Q
  | _ + 1, _, _, _, _, _ => False
def wqX12_link (k : Nat) (t : XT) (a1 : Int32) (a2 : Int32) (Q : Int32 → XT → Prop) : Prop := wpX12_link k 0 t (uI (uI (fun _ => 0) 1 a1) 2 a2) (fun _ => 0) Q
set_option maxHeartbeats 8000000 in
set_option maxRecDepth 100000 in
theorem wkX12_link (l : Launch) (D : va_G) (cI cJ cB cZ : ClassId) (bd : Nat → Nat) (k : Nat) (t : XT) (a1 : Int32) (a2 : Int32) (Q : Int32 → XT → Prop) (hR : wqX12_link k t a1 a2 Q) : MetI l yX12_link wsX12_link 3 64 0 0 D (TYS cI cJ cB cZ) (wM cI cJ cB cZ bd t) [.ref (bd 0), .int a1, .int a2] (fun r u => Q r u) (fun u : XT => (wM cI cJ cB cZ bd u)) := by
  refine x_startI (ty := .int) (cc := cX12_link) (by decide) rfl (Nat.le_of_ble_eq_true rfl) ?_
  intro p e s m args below meth c A ls B hr hnm h hl
  have hx := B.1.1
  have hb := B.1.2.1
  have hml := B.1.2.2.1
  have hts := B.1.2.2.2.2
  have hown : s.vm.findClass RX12 = some m.cls := B.1.2.2.2.1
  have hin12 : ∀ w ∈ u_ws RX12 TX12 31, w ∈ wsX12_link := by decide +kernel
  have main : ∀ k : Nat, (∀ (t : XT) (li : Nat → Int32) (lj : Nat → Int64) (H : Heap) (locs : List Loc) (ls : Array Slot), wpX12_link k 0 t li lj Q → lv_has ls 6 [(0, .ref (bd 0)), (1, .int (li 1)), (2, .int (li 2))] → Hp D A s.heap (wM cI cJ cB cZ bd t) H locs → W p l e { frames := 3, cells := 0, slots := 0, locals := 64 } s m args below meth c H locs 0 0 (MQ below (va_Qi (fun r u => Q r u) (fun u t => xEnd D ((fun u : XT => (wM cI cJ cB cZ bd u)) u) A t) A) args s 0 0 A) (F0 m 0 ls [])) ∧
      (∀ (t : XT) (li : Nat → Int32) (lj : Nat → Int64) (H : Heap) (locs : List Loc) (ls : Array Slot), wpX12_link k 1 t li lj Q → lv_has ls 6 [(0, .ref (bd 0)), (1, .int (li 1)), (2, .int (li 2))] → Hp D A s.heap (wM cI cJ cB cZ bd t) H locs → W p l e { frames := 3, cells := 0, slots := 0, locals := 64 } s m args below meth c H locs 0 0 (MQ below (va_Qi (fun r u => Q r u) (fun u t => xEnd D ((fun u : XT => (wM cI cJ cB cZ bd u)) u) A t) A) args s 0 0 A) (F0 m 17 ls [])) ∧
      (∀ (t : XT) (li : Nat → Int32) (lj : Nat → Int64) (H : Heap) (locs : List Loc) (ls : Array Slot), wpX12_link k 2 t li lj Q → lv_has ls 6 [(0, .ref (bd 0)), (1, .int (li 1)), (2, .int (li 2)), (3, .int (li 3)), (4, .int (li 4))] → Hp D A s.heap (wM cI cJ cB cZ bd t) H locs → W p l e { frames := 3, cells := 0, slots := 0, locals := 64 } s m args below meth c H locs 0 0 (MQ below (va_Qi (fun r u => Q r u) (fun u t => xEnd D ((fun u : XT => (wM cI cJ cB cZ bd u)) u) A t) A) args s 0 0 A) (F0 m 25 ls [])) ∧
      (∀ (t : XT) (li : Nat → Int32) (lj : Nat → Int64) (H : Heap) (locs : List Loc) (ls : Array Slot), wpX12_link k 3 t li lj Q → lv_has ls 6 [(0, .ref (bd 0)), (1, .int (li 1)), (2, .int (li 2)), (3, .int (li 3)), (4, .int (li 4)), (5, .int (li 5))] → Hp D A s.heap (wM cI cJ cB cZ bd t) H locs → W p l e { frames := 3, cells := 0, slots := 0, locals := 64 } s m args below meth c H locs 0 0 (MQ below (va_Qi (fun r u => Q r u) (fun u t => xEnd D ((fun u : XT => (wM cI cJ cB cZ bd u)) u) A t) A) args s 0 0 A) (F0 m 114 ls [.int (li 101), .int (li 100)])) ∧
      (∀ (t : XT) (li : Nat → Int32) (lj : Nat → Int64) (H : Heap) (locs : List Loc) (ls : Array Slot), wpX12_link k 4 t li lj Q → lv_has ls 6 [(0, .ref (bd 0)), (1, .int (li 1)), (2, .int (li 2)), (3, .int (li 3)), (4, .int (li 4))] → Hp D A s.heap (wM cI cJ cB cZ bd t) H locs → W p l e { frames := 3, cells := 0, slots := 0, locals := 64 } s m args below meth c H locs 0 0 (MQ below (va_Qi (fun r u => Q r u) (fun u t => xEnd D ((fun u : XT => (wM cI cJ cB cZ bd u)) u) A t) A) args s 0 0 A) (F0 m 116 ls [])) := by
    intro k
    induction k with
    | zero => exact ⟨fun _ _ _ _ _ _ hR => False.elim hR, fun _ _ _ _ _ _ hR => False.elim hR, fun _ _ _ _ _ _ hR => False.elim hR, fun _ _ _ _ _ _ hR => False.elim hR, fun _ _ _ _ _ _ hR => False.elim hR⟩
    | succ k ih =>
      refine ⟨?_, ?_, ?_, ?_, ?_⟩
      · intro t li lj H locs ls hR hl h
        have hR : wbX12_link_0 (wpX12_link k) k t li lj Q := hR
        unfold wbX12_link_0 at hR
        refine lv_aload_n hx hb dX12_link_0 rfl (lv_at hl 0 rfl) ?_
        refine lv_iload_n hx hb dX12_link_1 rfl (lv_at hl 1 rfl) ?_
        refine x_cVIF (n := 1) (As := [.int (li 1)]) (rest := []) B h (wkX12_isThere l D cI cJ cB cZ bd k t (li 1) _ hR) ⟨⟨_, rfl⟩, by decide +kernel, Nat.le_of_ble_eq_true rfl, Nat.le_of_ble_eq_true rfl⟩ gX12_link_X12_isThere (show ((wM cI cJ cB cZ bd t) : va_W)[0]? = some (_, .inr (12, _)) from rfl) rfl rfl hl.1 rfl (Nat.le_of_ble_eq_true rfl) dX12_link_2 ⟨Nat.le_of_ble_eq_true rfl, Nat.le_of_ble_eq_true rfl⟩ (fun r_1 t_1 H locs hR h => ?_)
        refine lv_if_eq (tgt := 17) hx hb dX12_link_5 (by decide) (fun c_2 => ?_) (fun c_2 => ?_)
        · have hR := hR.1 c_2
          exact ih.2.1 t_1 li lj H locs ls hR (lv_sub hl [0, 1, 2] rfl) h
        · have hR := hR.2 c_2
          refine lv_iload_n hx hb dX12_link_8 rfl (lv_at hl 2 rfl) ?_
          refine lv_iconst (v := 0) hx hb dX12_link_9 (by decide) ?_
          refine lv_iconst (v := 1) hx hb dX12_link_10 (by decide) ?_
          refine x_cSIE (n := 3) (As := [.int (li 2), .int 0, .int 1]) (rest := []) B h (wkX12_in l D cI cJ cB cZ bd k (li 2) 0 1 _ hR) ⟨⟨_, rfl⟩, by decide +kernel, Nat.le_of_ble_eq_true rfl, Nat.le_of_ble_eq_true rfl⟩ gX12_link_X12_in rfl hl.1 rfl (Nat.le_of_ble_eq_true rfl) dX12_link_11 ⟨Nat.le_of_ble_eq_true rfl, Nat.le_of_ble_eq_true rfl⟩ (fun r_3 _ H locs hR h => ?_)
          refine lv_if_ne (tgt := 20) hx hb dX12_link_14 (by decide) (fun c_4 => ?_) (fun c_4 => ?_)
          · have hR := hR.1 c_4
            refine lv_iconst (v := 0) hx hb dX12_link_20 (by decide) ?_
            refine lv_istore_n (lv' := [(3, .int 0), (0, .ref (bd 0)), (1, .int (li 1)), (2, .int (li 2))]) hx hb dX12_link_21 rfl hl (by decide) rfl (fun ls hl => ?_)
            refine lv_iconst (v := 0) hx hb dX12_link_22 (by decide) ?_
            refine lv_istore (lv' := [(4, .int 0), (3, .int 0), (0, .ref (bd 0)), (1, .int (li 1)), (2, .int (li 2))]) hx hb dX12_link_23 hl (by decide) rfl (fun ls hl => ?_)
            exact ih.2.2.1 t_1 (uI (uI li 3 0) 4 0) lj H locs ls hR (lv_sub hl [2, 3, 4, 1, 0] rfl) h
          · have hR := hR.2 c_4
            exact ih.2.1 t_1 li lj H locs ls hR (lv_sub hl [0, 1, 2] rfl) h
      · intro t li lj H locs ls hR hl h
        have hR : wbX12_link_1 (wpX12_link k) k t li lj Q := hR
        unfold wbX12_link_1 at hR
        refine lv_ldc (v := (-2147483648)) hx hb hown (hts (.constant RX12 165 (-2147483648)) (by decide +kernel)) dX12_link_17 ?_
        exact x_iret (w1 := (fun u : XT => (wM cI cJ cB cZ bd u))) t B h hr rfl hR dX12_link_19
      · intro t li lj H locs ls hR hl h
        have hR : wbX12_link_2 (wpX12_link k) k t li lj Q := hR
        unfold wbX12_link_2 at hR
        refine lv_iload hx hb dX12_link_25 (lv_at hl 4 rfl) ?_
        refine lv_aload_n hx hb dX12_link_27 rfl (lv_at hl 0 rfl) ?_
        refine x_get (ci := 12) (C := RX12) (T := TX12) (N := 31) (v := .int (t.1 3)) B h hin12 0 5 rfl rfl (by decide) (by decide +kernel) rfl dX12_link_28 ?_
        refine lv_icmp_ge (tgt := 122) hx hb dX12_link_31 (by decide) (fun c_5 => ?_) (fun c_5 => ?_)
        · have hR := hR.1 c_5
          refine lv_iload_n hx hb dX12_link_122 rfl (lv_at hl 3 rfl) ?_
          exact x_iret (w1 := (fun u : XT => (wM cI cJ cB cZ bd u))) t B h hr rfl hR dX12_link_123
        · have hR := hR.2 c_5
          refine lv_aload_n hx hb dX12_link_34 rfl (lv_at hl 0 rfl) ?_
          refine lv_iload hx hb dX12_link_35 (lv_at hl 4 rfl) ?_
          refine x_cVIF (n := 1) (As := [.int (li 4)]) (rest := []) B h (wkX12_isThere l D cI cJ cB cZ bd k t (li 4) _ hR) ⟨⟨_, rfl⟩, by decide +kernel, Nat.le_of_ble_eq_true rfl, Nat.le_of_ble_eq_true rfl⟩ gX12_link_X12_isThere (show ((wM cI cJ cB cZ bd t) : va_W)[0]? = some (_, .inr (12, _)) from rfl) rfl rfl hl.1 rfl (Nat.le_of_ble_eq_true rfl) dX12_link_37 ⟨Nat.le_of_ble_eq_true rfl, Nat.le_of_ble_eq_true rfl⟩ (fun r_6 t_6 H locs hR h => ?_)
          refine lv_if_eq (tgt := 116) hx hb dX12_link_40 (by decide) (fun c_7 => ?_) (fun c_7 => ?_)
          · have hR := hR.1 c_7
            exact ih.2.2.2.2 t_6 li lj H locs ls hR (lv_sub hl [0, 1, 2, 3, 4] rfl) h
          · have hR := hR.2 c_7
            refine lv_aload_n hx hb dX12_link_43 rfl (lv_at hl 0 rfl) ?_
            refine x_get (ci := 12) (C := RX12) (T := TX12) (N := 31) (v := .ref (bd 3)) B h hin12 0 6 rfl rfl (by decide) (by decide +kernel) rfl dX12_link_44 ?_
            refine lv_iload hx hb dX12_link_47 (lv_at hl 4 rfl) ?_
            obtain ⟨hb_8, hR⟩ := hR
            refine va_iald (f := (t_6.2.2.1 2)) hx hb B.2.1 h.1 3 0 rfl rfl hb_8 dX12_link_49 ?_
            refine lv_topi (fun v_8 ev_8 => ?_)
            have hR := hR v_8 ev_8
            refine lv_aload_n hx hb dX12_link_50 rfl (lv_at hl 0 rfl) ?_
            refine x_get (ci := 12) (C := RX12) (T := TX12) (N := 31) (v := .ref (bd 3)) B h hin12 0 6 rfl rfl (by decide) (by decide +kernel) rfl dX12_link_51 ?_
            refine lv_iload_n hx hb dX12_link_54 rfl (lv_at hl 1 rfl) ?_
            obtain ⟨hb_9, hR⟩ := hR
            refine va_iald (f := (t_6.2.2.1 2)) hx hb B.2.1 h.1 3 0 rfl rfl hb_9 dX12_link_55 ?_
            refine lv_topi (fun v_9 ev_9 => ?_)
            have hR := hR v_9 ev_9
            refine lv_iand hx hb dX12_link_56 ?_
            refine lv_topi (fun v_10 ev_10 => ?_)
            have hR := hR v_10 ev_10
            refine lv_if_eq (tgt := 63) hx hb dX12_link_57 (by decide) (fun c_11 => ?_) (fun c_11 => ?_)
            · have hR := hR.1 c_11
              refine lv_aload_n hx hb dX12_link_63 rfl (lv_at hl 0 rfl) ?_
              refine x_get (ci := 12) (C := RX12) (T := TX12) (N := 31) (v := .ref (bd 4)) B h hin12 0 7 rfl rfl (by decide) (by decide +kernel) rfl dX12_link_64 ?_
              refine lv_aload_n hx hb dX12_link_67 rfl (lv_at hl 0 rfl) ?_
              refine x_get (ci := 12) (C := RX12) (T := TX12) (N := 31) (v := .ref (bd 3)) B h hin12 0 6 rfl rfl (by decide) (by decide +kernel) rfl dX12_link_68 ?_
              refine lv_iload hx hb dX12_link_71 (lv_at hl 4 rfl) ?_
              obtain ⟨hb_12, hR⟩ := hR
              refine va_iald (f := (t_6.2.2.1 2)) hx hb B.2.1 h.1 3 0 rfl rfl hb_12 dX12_link_73 ?_
              refine lv_topi (fun v_12 ev_12 => ?_)
              have hR := hR v_12 ev_12
              refine lv_aload_n hx hb dX12_link_74 rfl (lv_at hl 0 rfl) ?_
              refine x_get (ci := 12) (C := RX12) (T := TX12) (N := 31) (v := .ref (bd 3)) B h hin12 0 6 rfl rfl (by decide) (by decide +kernel) rfl dX12_link_75 ?_
              refine lv_iload_n hx hb dX12_link_78 rfl (lv_at hl 1 rfl) ?_
              obtain ⟨hb_13, hR⟩ := hR
              refine va_iald (f := (t_6.2.2.1 2)) hx hb B.2.1 h.1 3 0 rfl rfl hb_13 dX12_link_79 ?_
              refine lv_topi (fun v_13 ev_13 => ?_)
              have hR := hR v_13 ev_13
              refine lv_ior hx hb dX12_link_80 ?_
              refine lv_topi (fun v_14 ev_14 => ?_)
              have hR := hR v_14 ev_14
              obtain ⟨hb_15, hR⟩ := hR
              refine va_iald (f := (t_6.2.2.1 3)) hx hb B.2.1 h.1 4 0 rfl rfl hb_15 dX12_link_81 ?_
              refine lv_topi (fun v_15 ev_15 => ?_)
              have hR := hR v_15 ev_15
              refine lv_istore (lv' := [(5, .int v_15), (0, .ref (bd 0)), (1, .int (li 1)), (2, .int (li 2)), (3, .int (li 3)), (4, .int (li 4))]) hx hb dX12_link_82 hl (by decide) rfl (fun ls hl => ?_)
              refine lv_iload hx hb dX12_link_84 (lv_at hl 0 rfl) ?_
              refine lv_iconst (v := (-1)) hx hb dX12_link_86 (by decide) ?_
              refine lv_icmp_eq (tgt := 116) hx hb dX12_link_87 (by decide) (fun c_16 => ?_) (fun c_16 => ?_)
              · have hR := hR.1 c_16
                exact ih.2.2.2.2 t_6 li lj H locs ls hR (lv_sub hl [1, 2, 3, 4, 5] rfl) h
              · have hR := hR.2 c_16
                refine lv_aload_n hx hb dX12_link_90 rfl (lv_at hl 1 rfl) ?_
                refine lv_iload hx hb dX12_link_91 (lv_at hl 0 rfl) ?_
                refine x_cVIF (n := 1) (As := [.int v_15]) (rest := []) B h (wkX12_isThere l D cI cJ cB cZ bd k t_6 v_15 _ hR) ⟨⟨_, rfl⟩, by decide +kernel, Nat.le_of_ble_eq_true rfl, Nat.le_of_ble_eq_true rfl⟩ gX12_link_X12_isThere (show ((wM cI cJ cB cZ bd t_6) : va_W)[0]? = some (_, .inr (12, _)) from rfl) rfl rfl hl.1 rfl (Nat.le_of_ble_eq_true rfl) dX12_link_93 ⟨Nat.le_of_ble_eq_true rfl, Nat.le_of_ble_eq_true rfl⟩ (fun r_17 t_17 H locs hR h => ?_)
                refine lv_if_eq (tgt := 116) hx hb dX12_link_96 (by decide) (fun c_18 => ?_) (fun c_18 => ?_)
                · have hR := hR.1 c_18
                  exact ih.2.2.2.2 t_17 li lj H locs ls hR (lv_sub hl [1, 2, 3, 4, 5] rfl) h
                · have hR := hR.2 c_18
                  refine lv_iload_n hx hb dX12_link_99 rfl (lv_at hl 4 rfl) ?_
                  refine lv_iload_n hx hb dX12_link_100 rfl (lv_at hl 3 rfl) ?_
                  refine lv_if_ne (tgt := 108) hx hb dX12_link_101 (by decide) (fun c_19 => ?_) (fun c_19 => ?_)
                  · have hR := hR.1 c_19
                    refine lv_aload_n hx hb dX12_link_108 rfl (lv_at hl 1 rfl) ?_
                    refine lv_iload hx hb dX12_link_109 (lv_at hl 5 rfl) ?_
                    refine x_cVIF (n := 1) (As := [.int (li 4)]) (rest := [.int (li 3)]) B h (wkX12_alternating l D cI cJ cB cZ bd k t_17 (li 4) _ hR) ⟨⟨_, rfl⟩, by decide +kernel, Nat.le_of_ble_eq_true rfl, Nat.le_of_ble_eq_true rfl⟩ gX12_link_X12_alternating (show ((wM cI cJ cB cZ bd t_17) : va_W)[0]? = some (_, .inr (12, _)) from rfl) rfl rfl hl.1 rfl (Nat.le_of_ble_eq_true rfl) dX12_link_111 ⟨Nat.le_of_ble_eq_true rfl, Nat.le_of_ble_eq_true rfl⟩ (fun r_20 t_20 H locs hR h => ?_)
                    exact ih.2.2.2.1 t_20 (uI (uI (uI li 5 v_15) 101 r_20) 100 (li 3)) lj H locs ls hR (lv_sub hl [1, 2, 3, 4, 5, 0] rfl) h
                  · have hR := hR.2 c_19
                    refine lv_iconst (v := 1) hx hb dX12_link_104 (by decide) ?_
                    refine lv_goto (tgt := 114) hx hb dX12_link_105 (by decide) ?_
                    exact ih.2.2.2.1 t_17 (uI (uI (uI li 5 v_15) 101 1) 100 (li 3)) lj H locs ls hR (lv_sub hl [1, 2, 3, 4, 5, 0] rfl) h
            · have hR := hR.2 c_11
              refine lv_goto (tgt := 116) hx hb dX12_link_60 (by decide) ?_
              exact ih.2.2.2.2 t_6 li lj H locs ls hR (lv_sub hl [0, 1, 2, 3, 4] rfl) h
      · intro t li lj H locs ls hR hl h
        have hR : wbX12_link_3 (wpX12_link k) k t li lj Q := hR
        unfold wbX12_link_3 at hR
        refine lv_iadd hx hb dX12_link_114 ?_
        refine lv_topi (fun v_21 ev_21 => ?_)
        have hR := hR v_21 ev_21
        refine lv_istore_n (lv' := [(3, .int v_21), (0, .ref (bd 0)), (1, .int (li 1)), (2, .int (li 2)), (4, .int (li 4)), (5, .int (li 5))]) hx hb dX12_link_115 rfl hl (by decide) rfl (fun ls hl => ?_)
        exact ih.2.2.2.2 t (uI li 3 v_21) lj H locs ls hR (lv_sub hl [1, 2, 3, 0, 4] rfl) h
      · intro t li lj H locs ls hR hl h
        have hR : wbX12_link_4 (wpX12_link k) k t li lj Q := hR
        unfold wbX12_link_4 at hR
        obtain ⟨v_22, ev_22⟩ : ∃ v : Int32, v = (li 4) + Int32.ofInt 1 := ⟨_, rfl⟩
        have hR := hR v_22 ev_22
        refine lv_iinc (v := v_22) (lv' := [(4, .int v_22), (0, .ref (bd 0)), (1, .int (li 1)), (2, .int (li 2)), (3, .int (li 3))]) hx hb dX12_link_116 hl (k := 4) rfl ev_22.symm (by decide) rfl (fun ls hl => ?_)
        refine lv_goto (tgt := 25) hx hb dX12_link_119 (by decide) ?_
        exact ih.2.2.1 t (uI li 4 v_22) lj H locs ls hR (lv_sub hl [1, 2, 3, 4, 0] rfl) h
  exact (main k).1 t _ _ s.heap [] ls hR hl h
set_option maxRecDepth 20000 in
theorem ggX12_room_X12_in : GoodIn wsX12_room wsX12_in := goodIn_r _ [5] (by decide +kernel) (by decide +kernel)
set_option maxRecDepth 20000 in
theorem gX12_room_X12_in : GoodIn wsX12_room (va_wsS RX12 101 yX12_in wsX12_in) := goodIn_app (goodIn_of _ (by decide +kernel)) ggX12_room_X12_in
set_option maxRecDepth 20000 in
theorem ggX12_room_X12_dimOf : GoodIn wsX12_room wsX12_dimOf := goodIn_r _ [9, 10, 11, 12, 13, 14, 15, 16, 17, 56, 57, 58, 59, 60, 61, 62, 63, 64, 65, 66, 67, 68, 69, 70, 71, 72, 73, 74, 75, 76, 77, 78, 79, 80, 81, 82, 83, 84, 85, 86] (by decide +kernel) (by decide +kernel)
set_option maxRecDepth 20000 in
theorem gX12_room_X12_dimOf : GoodIn wsX12_room (wsV RX12 149 RX12 yX12_dimOf wsX12_dimOf) := goodIn_app (goodIn_of _ (by decide +kernel)) ggX12_room_X12_dimOf
set_option maxRecDepth 20000 in
theorem ggX12_room_X12_isFaceThere : GoodIn wsX12_room wsX12_isFaceThere := goodIn_r _ [21, 22, 23, 24, 25, 4, 26, 10, 6, 7, 8, 9, 11, 12, 13, 14, 15, 16, 17, 56, 57, 58, 59, 60, 61, 62, 63, 64, 65, 66, 67, 68, 69, 70, 71, 72, 73, 74, 75, 76, 77, 78, 79, 80, 81, 82, 83, 84, 85, 86] (by decide +kernel) (by decide +kernel)
set_option maxRecDepth 20000 in
theorem gX12_room_X12_isFaceThere : GoodIn wsX12_room (wsV RX12 162 RX12 yX12_isFaceThere wsX12_isFaceThere) := goodIn_app (goodIn_of _ (by decide +kernel)) ggX12_room_X12_isFaceThere
set_option maxRecDepth 20000 in
theorem ggX12_room_X12_isFree : GoodIn wsX12_room wsX12_isFree := goodIn_r _ [30, 31, 56, 57, 58, 59, 60, 61, 62, 63, 64, 65, 66, 67, 68, 69, 70, 71, 72, 73, 74, 75, 76, 77, 78, 79, 80, 81, 82, 83, 84, 85, 86] (by decide +kernel) (by decide +kernel)
set_option maxRecDepth 20000 in
theorem gX12_room_X12_isFree : GoodIn wsX12_room (wsV RX12 185 RX12 yX12_isFree wsX12_isFree) := goodIn_app (goodIn_of _ (by decide +kernel)) ggX12_room_X12_isFree
set_option maxRecDepth 20000 in
theorem ggX12_room_X12_couples : GoodIn wsX12_room wsX12_couples := goodIn_r _ [35, 31, 36, 37, 38, 4, 39, 1, 40, 41, 42, 43, 44, 45, 46, 47, 48, 49, 50, 51, 23, 24, 25, 26, 10, 6, 7, 8, 9, 11, 12, 13, 14, 15, 16, 17, 56, 57, 58, 59, 60, 61, 62, 63, 64, 65, 66, 67, 68, 69, 70, 71, 72, 73, 74, 75, 76, 77, 78, 79, 80, 81, 82, 83, 84, 85, 86] (by decide +kernel) (by decide +kernel)
set_option maxRecDepth 20000 in
theorem gX12_room_X12_couples : GoodIn wsX12_room (wsV RX12 188 RX12 yX12_couples wsX12_couples) := goodIn_app (goodIn_of _ (by decide +kernel)) ggX12_room_X12_couples
set_option maxRecDepth 20000 in
theorem ggX12_room_X12_frees : GoodIn wsX12_room wsX12_frees := goodIn_r _ [55, 31, 56, 57, 58, 59, 60, 61, 62, 63, 64, 65, 66, 67, 68, 69, 70, 71, 72, 73, 74, 75, 76, 77, 78, 79, 80, 81, 82, 83, 84, 85, 86] (by decide +kernel) (by decide +kernel)
set_option maxRecDepth 20000 in
theorem gX12_room_X12_frees : GoodIn wsX12_room (wsV RX12 191 RX12 yX12_frees wsX12_frees) := goodIn_app (goodIn_of _ (by decide +kernel)) ggX12_room_X12_frees
def wbX12_room_0 (rec : Nat → XT → (Nat → Int32) → (Nat → Int64) → (Int32 → XT → Prop) → Prop) (k : Nat) (t : XT) (li : Nat → Int32) (lj : Nat → Int64) (Q : Int32 → XT → Prop) : Prop :=
  (wqX12_in k (li 1) 0 4 (fun r_1 => ((¬ r_1 = 0) → rec 1 t (uI (uI li 2 0) 3 0) lj Q) ∧ ((r_1 = 0) → Q (-1) t)))
def wbX12_room_1 (rec : Nat → XT → (Nat → Int32) → (Nat → Int64) → (Int32 → XT → Prop) → Prop) (k : Nat) (t : XT) (li : Nat → Int32) (lj : Nat → Int64) (Q : Int32 → XT → Prop) : Prop :=
  ((((t.1 3) : Int32) ≤ (li 3)) → Q (li 2) t) ∧ (¬ (((t.1 3) : Int32) ≤ (li 3)) → rec 2 t (uI li 4 0) lj Q)
def wbX12_room_2 (rec : Nat → XT → (Nat → Int32) → (Nat → Int64) → (Int32 → XT → Prop) → Prop) (k : Nat) (t : XT) (li : Nat → Int32) (lj : Nat → Int64) (Q : Int32 → XT → Prop) : Prop :=
  ((((t.1 3) : Int32) ≤ (li 4)) → (∀ v_5 : Int32, v_5 = (li 3) + Int32.ofInt 1 → rec 1 t (uI li 3 v_5) lj Q)) ∧ (¬ (((t.1 3) : Int32) ≤ (li 4)) → (wqX12_dimOf k t (li 3) (fun r_6 t_6 => ((¬ r_6 = (li 1)) → rec 3 t_6 li lj Q) ∧ ((r_6 = (li 1)) → (wqX12_isFaceThere k t_6 (li 3) (li 4) (fun r_8 t_8 => ((r_8 = 0) → rec 3 t_8 li lj Q) ∧ (¬ (r_8 = 0) → (wqX12_isFree k t_8 (li 3) (li 4) (fun r_10 t_10 => ((r_10 = 0) → rec 3 t_10 li lj Q) ∧ (¬ (r_10 = 0) → (wqX12_couples k t_10 (li 3) (li 4) (fun r_12 t_12 => ((r_12 = 0) → rec 3 t_12 li lj Q) ∧ (¬ (r_12 = 0) → (wqX12_frees k t_12 (li 3) (fun t_14 => (∀ v_15 : Int32, v_15 = (li 2) + Int32.ofInt 1 → rec 3 t_14 (uI li 2 v_15) lj Q))))))))))))))))
def wbX12_room_3 (rec : Nat → XT → (Nat → Int32) → (Nat → Int64) → (Int32 → XT → Prop) → Prop) (k : Nat) (t : XT) (li : Nat → Int32) (lj : Nat → Int64) (Q : Int32 → XT → Prop) : Prop :=
  (∀ v_16 : Int32, v_16 = (li 4) + Int32.ofInt 1 → rec 2 t (uI li 4 v_16) lj Q)
def wpX12_room : Nat → Nat → XT → (Nat → Int32) → (Nat → Int64) → (Int32 → XT → Prop) → Prop
  | 0, _, _, _, _, _ => False
  | k + 1, 0, t, li, lj, Q => wbX12_room_0 (wpX12_room k) k t li lj Q
  | k + 1, 1, t, li, lj, Q => wbX12_room_1 (wpX12_room k) k t li lj Q
  | k + 1, 2, t, li, lj, Q => wbX12_room_2 (wpX12_room k) k t li lj Q
  | k + 1, 3, t, li, lj, Q => wbX12_room_3 (wpX12_room k) k t li lj Q
  | _ + 1, _, _, _, _, _ => False
def wqX12_room (k : Nat) (t : XT) (a1 : Int32) (Q : Int32 → XT → Prop) : Prop := wpX12_room k 0 t (uI (fun _ => 0) 1 a1) (fun _ => 0) Q
set_option maxHeartbeats 8000000 in
set_option maxRecDepth 100000 in
theorem wkX12_room (l : Launch) (D : va_G) (cI cJ cB cZ : ClassId) (bd : Nat → Nat) (k : Nat) (t : XT) (a1 : Int32) (Q : Int32 → XT → Prop) (hR : wqX12_room k t a1 Q) : MetI l yX12_room wsX12_room 6 129 0 0 D (TYS cI cJ cB cZ) (wM cI cJ cB cZ bd t) [.ref (bd 0), .int a1] (fun r u => Q r u) (fun u : XT => (wM cI cJ cB cZ bd u)) := by
  refine x_startI (ty := .int) (cc := cX12_room) (by decide) rfl (Nat.le_of_ble_eq_true rfl) ?_
  intro p e s m args below meth c A ls B hr hnm h hl
  have hx := B.1.1
  have hb := B.1.2.1
  have hml := B.1.2.2.1
  have hts := B.1.2.2.2.2
  have hown : s.vm.findClass RX12 = some m.cls := B.1.2.2.2.1
  have hin12 : ∀ w ∈ u_ws RX12 TX12 31, w ∈ wsX12_room := by decide +kernel
  have main : ∀ k : Nat, (∀ (t : XT) (li : Nat → Int32) (lj : Nat → Int64) (H : Heap) (locs : List Loc) (ls : Array Slot), wpX12_room k 0 t li lj Q → lv_has ls 5 [(0, .ref (bd 0)), (1, .int (li 1))] → Hp D A s.heap (wM cI cJ cB cZ bd t) H locs → W p l e { frames := 6, cells := 0, slots := 0, locals := 129 } s m args below meth c H locs 0 0 (MQ below (va_Qi (fun r u => Q r u) (fun u t => xEnd D ((fun u : XT => (wM cI cJ cB cZ bd u)) u) A t) A) args s 0 0 A) (F0 m 0 ls [])) ∧
      (∀ (t : XT) (li : Nat → Int32) (lj : Nat → Int64) (H : Heap) (locs : List Loc) (ls : Array Slot), wpX12_room k 1 t li lj Q → lv_has ls 5 [(0, .ref (bd 0)), (1, .int (li 1)), (2, .int (li 2)), (3, .int (li 3))] → Hp D A s.heap (wM cI cJ cB cZ bd t) H locs → W p l e { frames := 6, cells := 0, slots := 0, locals := 129 } s m args below meth c H locs 0 0 (MQ below (va_Qi (fun r u => Q r u) (fun u t => xEnd D ((fun u : XT => (wM cI cJ cB cZ bd u)) u) A t) A) args s 0 0 A) (F0 m 15 ls [])) ∧
      (∀ (t : XT) (li : Nat → Int32) (lj : Nat → Int64) (H : Heap) (locs : List Loc) (ls : Array Slot), wpX12_room k 2 t li lj Q → lv_has ls 5 [(0, .ref (bd 0)), (1, .int (li 1)), (2, .int (li 2)), (3, .int (li 3)), (4, .int (li 4))] → Hp D A s.heap (wM cI cJ cB cZ bd t) H locs → W p l e { frames := 6, cells := 0, slots := 0, locals := 129 } s m args below meth c H locs 0 0 (MQ below (va_Qi (fun r u => Q r u) (fun u t => xEnd D ((fun u : XT => (wM cI cJ cB cZ bd u)) u) A t) A) args s 0 0 A) (F0 m 26 ls [])) ∧
      (∀ (t : XT) (li : Nat → Int32) (lj : Nat → Int64) (H : Heap) (locs : List Loc) (ls : Array Slot), wpX12_room k 3 t li lj Q → lv_has ls 5 [(0, .ref (bd 0)), (1, .int (li 1)), (2, .int (li 2)), (3, .int (li 3)), (4, .int (li 4))] → Hp D A s.heap (wM cI cJ cB cZ bd t) H locs → W p l e { frames := 6, cells := 0, slots := 0, locals := 129 } s m args below meth c H locs 0 0 (MQ below (va_Qi (fun r u => Q r u) (fun u t => xEnd D ((fun u : XT => (wM cI cJ cB cZ bd u)) u) A t) A) args s 0 0 A) (F0 m 82 ls [])) := by
    intro k
    induction k with
    | zero => exact ⟨fun _ _ _ _ _ _ hR => False.elim hR, fun _ _ _ _ _ _ hR => False.elim hR, fun _ _ _ _ _ _ hR => False.elim hR, fun _ _ _ _ _ _ hR => False.elim hR⟩
    | succ k ih =>
      refine ⟨?_, ?_, ?_, ?_⟩
      · intro t li lj H locs ls hR hl h
        have hR : wbX12_room_0 (wpX12_room k) k t li lj Q := hR
        unfold wbX12_room_0 at hR
        refine lv_iload_n hx hb dX12_room_0 rfl (lv_at hl 1 rfl) ?_
        refine lv_iconst (v := 0) hx hb dX12_room_1 (by decide) ?_
        refine lv_iconst (v := 4) hx hb dX12_room_2 (by decide) ?_
        refine x_cSIE (n := 3) (As := [.int (li 1), .int 0, .int 4]) (rest := []) B h (wkX12_in l D cI cJ cB cZ bd k (li 1) 0 4 _ hR) ⟨⟨_, rfl⟩, by decide +kernel, Nat.le_of_ble_eq_true rfl, Nat.le_of_ble_eq_true rfl⟩ gX12_room_X12_in rfl hl.1 rfl (Nat.le_of_ble_eq_true rfl) dX12_room_3 ⟨Nat.le_of_ble_eq_true rfl, Nat.le_of_ble_eq_true rfl⟩ (fun r_1 _ H locs hR h => ?_)
        refine lv_if_ne (tgt := 11) hx hb dX12_room_6 (by decide) (fun c_2 => ?_) (fun c_2 => ?_)
        · have hR := hR.1 c_2
          refine lv_iconst (v := 0) hx hb dX12_room_11 (by decide) ?_
          refine lv_istore_n (lv' := [(2, .int 0), (0, .ref (bd 0)), (1, .int (li 1))]) hx hb dX12_room_12 rfl hl (by decide) rfl (fun ls hl => ?_)
          refine lv_iconst (v := 0) hx hb dX12_room_13 (by decide) ?_
          refine lv_istore_n (lv' := [(3, .int 0), (2, .int 0), (0, .ref (bd 0)), (1, .int (li 1))]) hx hb dX12_room_14 rfl hl (by decide) rfl (fun ls hl => ?_)
          exact ih.2.1 t (uI (uI li 2 0) 3 0) lj H locs ls hR (lv_sub hl [2, 3, 1, 0] rfl) h
        · have hR := hR.2 c_2
          refine lv_iconst (v := (-1)) hx hb dX12_room_9 (by decide) ?_
          exact x_iret (w1 := (fun u : XT => (wM cI cJ cB cZ bd u))) t B h hr rfl hR dX12_room_10
      · intro t li lj H locs ls hR hl h
        have hR : wbX12_room_1 (wpX12_room k) k t li lj Q := hR
        unfold wbX12_room_1 at hR
        refine lv_iload_n hx hb dX12_room_15 rfl (lv_at hl 3 rfl) ?_
        refine lv_aload_n hx hb dX12_room_16 rfl (lv_at hl 0 rfl) ?_
        refine x_get (ci := 12) (C := RX12) (T := TX12) (N := 31) (v := .int (t.1 3)) B h hin12 0 5 rfl rfl (by decide) (by decide +kernel) rfl dX12_room_17 ?_
        refine lv_icmp_ge (tgt := 94) hx hb dX12_room_20 (by decide) (fun c_3 => ?_) (fun c_3 => ?_)
        · have hR := hR.1 c_3
          refine lv_iload_n hx hb dX12_room_94 rfl (lv_at hl 2 rfl) ?_
          exact x_iret (w1 := (fun u : XT => (wM cI cJ cB cZ bd u))) t B h hr rfl hR dX12_room_95
        · have hR := hR.2 c_3
          refine lv_iconst (v := 0) hx hb dX12_room_23 (by decide) ?_
          refine lv_istore (lv' := [(4, .int 0), (0, .ref (bd 0)), (1, .int (li 1)), (2, .int (li 2)), (3, .int (li 3))]) hx hb dX12_room_24 hl (by decide) rfl (fun ls hl => ?_)
          exact ih.2.2.1 t (uI li 4 0) lj H locs ls hR (lv_sub hl [1, 2, 3, 4, 0] rfl) h
      · intro t li lj H locs ls hR hl h
        have hR : wbX12_room_2 (wpX12_room k) k t li lj Q := hR
        unfold wbX12_room_2 at hR
        refine lv_iload hx hb dX12_room_26 (lv_at hl 4 rfl) ?_
        refine lv_aload_n hx hb dX12_room_28 rfl (lv_at hl 0 rfl) ?_
        refine x_get (ci := 12) (C := RX12) (T := TX12) (N := 31) (v := .int (t.1 3)) B h hin12 0 5 rfl rfl (by decide) (by decide +kernel) rfl dX12_room_29 ?_
        refine lv_icmp_ge (tgt := 88) hx hb dX12_room_32 (by decide) (fun c_4 => ?_) (fun c_4 => ?_)
        · have hR := hR.1 c_4
          obtain ⟨v_5, ev_5⟩ : ∃ v : Int32, v = (li 3) + Int32.ofInt 1 := ⟨_, rfl⟩
          have hR := hR v_5 ev_5
          refine lv_iinc (v := v_5) (lv' := [(3, .int v_5), (0, .ref (bd 0)), (1, .int (li 1)), (2, .int (li 2)), (4, .int (li 4))]) hx hb dX12_room_88 hl (k := 3) rfl ev_5.symm (by decide) rfl (fun ls hl => ?_)
          refine lv_goto (tgt := 15) hx hb dX12_room_91 (by decide) ?_
          exact ih.2.1 t (uI li 3 v_5) lj H locs ls hR (lv_sub hl [1, 2, 3, 0] rfl) h
        · have hR := hR.2 c_4
          refine lv_aload_n hx hb dX12_room_35 rfl (lv_at hl 0 rfl) ?_
          refine lv_iload_n hx hb dX12_room_36 rfl (lv_at hl 3 rfl) ?_
          refine x_cVIF (n := 1) (As := [.int (li 3)]) (rest := []) B h (wkX12_dimOf l D cI cJ cB cZ bd k t (li 3) _ hR) ⟨⟨_, rfl⟩, by decide +kernel, Nat.le_of_ble_eq_true rfl, Nat.le_of_ble_eq_true rfl⟩ gX12_room_X12_dimOf (show ((wM cI cJ cB cZ bd t) : va_W)[0]? = some (_, .inr (12, _)) from rfl) rfl rfl hl.1 rfl (Nat.le_of_ble_eq_true rfl) dX12_room_37 ⟨Nat.le_of_ble_eq_true rfl, Nat.le_of_ble_eq_true rfl⟩ (fun r_6 t_6 H locs hR h => ?_)
          refine lv_iload_n hx hb dX12_room_40 rfl (lv_at hl 1 rfl) ?_
          refine lv_icmp_ne (tgt := 82) hx hb dX12_room_41 (by decide) (fun c_7 => ?_) (fun c_7 => ?_)
          · have hR := hR.1 c_7
            exact ih.2.2.2 t_6 li lj H locs ls hR (lv_sub hl [0, 1, 2, 3, 4] rfl) h
          · have hR := hR.2 c_7
            refine lv_aload_n hx hb dX12_room_44 rfl (lv_at hl 0 rfl) ?_
            refine lv_iload_n hx hb dX12_room_45 rfl (lv_at hl 3 rfl) ?_
            refine lv_iload hx hb dX12_room_46 (lv_at hl 4 rfl) ?_
            refine x_cVIF (n := 2) (As := [.int (li 3), .int (li 4)]) (rest := []) B h (wkX12_isFaceThere l D cI cJ cB cZ bd k t_6 (li 3) (li 4) _ hR) ⟨⟨_, rfl⟩, by decide +kernel, Nat.le_of_ble_eq_true rfl, Nat.le_of_ble_eq_true rfl⟩ gX12_room_X12_isFaceThere (show ((wM cI cJ cB cZ bd t_6) : va_W)[0]? = some (_, .inr (12, _)) from rfl) rfl rfl hl.1 rfl (Nat.le_of_ble_eq_true rfl) dX12_room_48 ⟨Nat.le_of_ble_eq_true rfl, Nat.le_of_ble_eq_true rfl⟩ (fun r_8 t_8 H locs hR h => ?_)
            refine lv_if_eq (tgt := 82) hx hb dX12_room_51 (by decide) (fun c_9 => ?_) (fun c_9 => ?_)
            · have hR := hR.1 c_9
              exact ih.2.2.2 t_8 li lj H locs ls hR (lv_sub hl [0, 1, 2, 3, 4] rfl) h
            · have hR := hR.2 c_9
              refine lv_aload_n hx hb dX12_room_54 rfl (lv_at hl 0 rfl) ?_
              refine lv_iload_n hx hb dX12_room_55 rfl (lv_at hl 3 rfl) ?_
              refine lv_iload hx hb dX12_room_56 (lv_at hl 4 rfl) ?_
              refine x_cVIF (n := 2) (As := [.int (li 3), .int (li 4)]) (rest := []) B h (wkX12_isFree l D cI cJ cB cZ bd k t_8 (li 3) (li 4) _ hR) ⟨⟨_, rfl⟩, by decide +kernel, Nat.le_of_ble_eq_true rfl, Nat.le_of_ble_eq_true rfl⟩ gX12_room_X12_isFree (show ((wM cI cJ cB cZ bd t_8) : va_W)[0]? = some (_, .inr (12, _)) from rfl) rfl rfl hl.1 rfl (Nat.le_of_ble_eq_true rfl) dX12_room_58 ⟨Nat.le_of_ble_eq_true rfl, Nat.le_of_ble_eq_true rfl⟩ (fun r_10 t_10 H locs hR h => ?_)
              refine lv_if_eq (tgt := 82) hx hb dX12_room_61 (by decide) (fun c_11 => ?_) (fun c_11 => ?_)
              · have hR := hR.1 c_11
                exact ih.2.2.2 t_10 li lj H locs ls hR (lv_sub hl [0, 1, 2, 3, 4] rfl) h
              · have hR := hR.2 c_11
                refine lv_aload_n hx hb dX12_room_64 rfl (lv_at hl 0 rfl) ?_
                refine lv_iload_n hx hb dX12_room_65 rfl (lv_at hl 3 rfl) ?_
                refine lv_iload hx hb dX12_room_66 (lv_at hl 4 rfl) ?_
                refine x_cVIF (n := 2) (As := [.int (li 3), .int (li 4)]) (rest := []) B h (wkX12_couples l D cI cJ cB cZ bd k t_10 (li 3) (li 4) _ hR) ⟨⟨_, rfl⟩, by decide +kernel, Nat.le_of_ble_eq_true rfl, Nat.le_of_ble_eq_true rfl⟩ gX12_room_X12_couples (show ((wM cI cJ cB cZ bd t_10) : va_W)[0]? = some (_, .inr (12, _)) from rfl) rfl rfl hl.1 rfl (Nat.le_of_ble_eq_true rfl) dX12_room_68 ⟨Nat.le_of_ble_eq_true rfl, Nat.le_of_ble_eq_true rfl⟩ (fun r_12 t_12 H locs hR h => ?_)
                refine lv_if_eq (tgt := 82) hx hb dX12_room_71 (by decide) (fun c_13 => ?_) (fun c_13 => ?_)
                · have hR := hR.1 c_13
                  exact ih.2.2.2 t_12 li lj H locs ls hR (lv_sub hl [0, 1, 2, 3, 4] rfl) h
                · have hR := hR.2 c_13
                  refine lv_aload_n hx hb dX12_room_74 rfl (lv_at hl 0 rfl) ?_
                  refine lv_iload_n hx hb dX12_room_75 rfl (lv_at hl 3 rfl) ?_
                  refine x_cVVF (n := 1) (As := [.int (li 3)]) (rest := []) B h (wkX12_frees l D cI cJ cB cZ bd k t_12 (li 3) _ hR) ⟨⟨_, rfl⟩, by decide +kernel, Nat.le_of_ble_eq_true rfl, Nat.le_of_ble_eq_true rfl⟩ gX12_room_X12_frees (show ((wM cI cJ cB cZ bd t_12) : va_W)[0]? = some (_, .inr (12, _)) from rfl) rfl rfl hl.1 rfl (Nat.le_of_ble_eq_true rfl) dX12_room_76 ⟨Nat.le_of_ble_eq_true rfl, Nat.le_of_ble_eq_true rfl⟩ (fun t_14 H locs hR h => ?_)
                  obtain ⟨v_15, ev_15⟩ : ∃ v : Int32, v = (li 2) + Int32.ofInt 1 := ⟨_, rfl⟩
                  have hR := hR v_15 ev_15
                  refine lv_iinc (v := v_15) (lv' := [(2, .int v_15), (0, .ref (bd 0)), (1, .int (li 1)), (3, .int (li 3)), (4, .int (li 4))]) hx hb dX12_room_79 hl (k := 2) rfl ev_15.symm (by decide) rfl (fun ls hl => ?_)
                  exact ih.2.2.2 t_14 (uI li 2 v_15) lj H locs ls hR (lv_sub hl [1, 2, 0, 3, 4] rfl) h
      · intro t li lj H locs ls hR hl h
        have hR : wbX12_room_3 (wpX12_room k) k t li lj Q := hR
        unfold wbX12_room_3 at hR
        obtain ⟨v_16, ev_16⟩ : ∃ v : Int32, v = (li 4) + Int32.ofInt 1 := ⟨_, rfl⟩
        have hR := hR v_16 ev_16
        refine lv_iinc (v := v_16) (lv' := [(4, .int v_16), (0, .ref (bd 0)), (1, .int (li 1)), (2, .int (li 2)), (3, .int (li 3))]) hx hb dX12_room_82 hl (k := 4) rfl ev_16.symm (by decide) rfl (fun ls hl => ?_)
        refine lv_goto (tgt := 26) hx hb dX12_room_85 (by decide) ?_
        exact ih.2.2.1 t (uI li 4 v_16) lj H locs ls hR (lv_sub hl [1, 2, 3, 4, 0] rfl) h
  exact (main k).1 t _ _ s.heap [] ls hR hl h
