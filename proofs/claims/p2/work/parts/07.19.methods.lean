set_option maxRecDepth 20000 in
theorem ggX12_critical_X12_in : GoodIn wsX12_critical wsX12_in := goodIn_r _ [5] (by decide +kernel) (by decide +kernel)
set_option maxRecDepth 20000 in
theorem gX12_critical_X12_in : GoodIn wsX12_critical (va_wsS RX12 101 yX12_in wsX12_in) := goodIn_app (goodIn_of _ (by decide +kernel)) ggX12_critical_X12_in
set_option maxRecDepth 20000 in
theorem ggX12_critical_X12_isCritical : GoodIn wsX12_critical wsX12_isCritical := goodIn_r _ [9, 10, 11, 12, 13, 4, 14, 15, 16, 17, 18, 19, 1, 2, 3, 5, 32, 33, 34, 35, 36, 37, 38, 39, 40, 41, 42, 43, 44, 45, 46, 47, 48, 49, 50, 51, 52, 53, 54, 55, 56, 57, 58, 59, 60, 61, 62] (by decide +kernel) (by decide +kernel)
set_option maxRecDepth 20000 in
theorem gX12_critical_X12_isCritical : GoodIn wsX12_critical (wsV RX12 159 RX12 yX12_isCritical wsX12_isCritical) := goodIn_app (goodIn_of _ (by decide +kernel)) ggX12_critical_X12_isCritical
set_option maxRecDepth 20000 in
theorem ggX12_critical_X12_dimOf : GoodIn wsX12_critical wsX12_dimOf := goodIn_r _ [23, 24, 25, 26, 27, 28, 29, 30, 31, 32, 33, 34, 35, 36, 37, 38, 39, 40, 41, 42, 43, 44, 45, 46, 47, 48, 49, 50, 51, 52, 53, 54, 55, 56, 57, 58, 59, 60, 61, 62] (by decide +kernel) (by decide +kernel)
set_option maxRecDepth 20000 in
theorem gX12_critical_X12_dimOf : GoodIn wsX12_critical (wsV RX12 149 RX12 yX12_dimOf wsX12_dimOf) := goodIn_app (goodIn_of _ (by decide +kernel)) ggX12_critical_X12_dimOf
def wbX12_critical_0 (rec : Nat → XT → (Nat → Int32) → (Nat → Int64) → (Int32 → XT → Prop) → Prop) (k : Nat) (t : XT) (li : Nat → Int32) (lj : Nat → Int64) (Q : Int32 → XT → Prop) : Prop :=
  (wqX12_in k (li 1) 0 4 (fun r_1 => ((r_1 = 0) → rec 1 t li lj Q) ∧ (¬ (r_1 = 0) → ((((-1) : Int32) ≤ (li 2)) → rec 2 t (uI (uI li 3 0) 4 0) lj Q) ∧ (¬ (((-1) : Int32) ≤ (li 2)) → rec 1 t li lj Q))))
def wbX12_critical_1 (rec : Nat → XT → (Nat → Int32) → (Nat → Int64) → (Int32 → XT → Prop) → Prop) (k : Nat) (t : XT) (li : Nat → Int32) (lj : Nat → Int64) (Q : Int32 → XT → Prop) : Prop :=
  Q (-1) t
def wbX12_critical_2 (rec : Nat → XT → (Nat → Int32) → (Nat → Int64) → (Int32 → XT → Prop) → Prop) (k : Nat) (t : XT) (li : Nat → Int32) (lj : Nat → Int64) (Q : Int32 → XT → Prop) : Prop :=
  ((((t.1 3) : Int32) ≤ (li 4)) → ((¬ (li 2) = (-1)) → Q (-2) t) ∧ (((li 2) = (-1)) → Q (li 3) t)) ∧ (¬ (((t.1 3) : Int32) ≤ (li 4)) → (wqX12_isCritical k t (li 4) (fun r_6 t_6 => ((r_6 = 0) → rec 3 t_6 li lj Q) ∧ (¬ (r_6 = 0) → (wqX12_dimOf k t_6 (li 4) (fun r_8 t_8 => ((¬ r_8 = (li 1)) → rec 3 t_8 li lj Q) ∧ ((r_8 = (li 1)) → ((¬ (li 3) = (li 2)) → (∀ v_11 : Int32, v_11 = (li 3) + Int32.ofInt 1 → rec 3 t_8 (uI li 3 v_11) lj Q)) ∧ (((li 3) = (li 2)) → Q (li 4) t_8))))))))
def wbX12_critical_3 (rec : Nat → XT → (Nat → Int32) → (Nat → Int64) → (Int32 → XT → Prop) → Prop) (k : Nat) (t : XT) (li : Nat → Int32) (lj : Nat → Int64) (Q : Int32 → XT → Prop) : Prop :=
  (∀ v_12 : Int32, v_12 = (li 4) + Int32.ofInt 1 → rec 2 t (uI li 4 v_12) lj Q)
def wpX12_critical : Nat → Nat → XT → (Nat → Int32) → (Nat → Int64) → (Int32 → XT → Prop) → Prop
  | 0, _, _, _, _, _ => False
  | k + 1, 0, t, li, lj, Q => wbX12_critical_0 (wpX12_critical k) k t li lj Q
  | k + 1, 1, t, li, lj, Q => wbX12_critical_1 (wpX12_critical k) k t li lj Q
  | k + 1, 2, t, li, lj, Q => wbX12_critical_2 (wpX12_critical k) k t li lj Q
  | k + 1, 3, t, li, lj, Q => wbX12_critical_3 (wpX12_critical k) k t li lj Q
  | _ + 1, _, _, _, _, _ => False
def wqX12_critical (k : Nat) (t : XT) (a1 : Int32) (a2 : Int32) (Q : Int32 → XT → Prop) : Prop := wpX12_critical k 0 t (uI (uI (fun _ => 0) 1 a1) 2 a2) (fun _ => 0) Q
set_option maxHeartbeats 8000000 in
set_option maxRecDepth 100000 in
theorem wkX12_critical (l : Launch) (D : va_G) (cI cJ cB cZ : ClassId) (bd : Nat → Nat) (k : Nat) (t : XT) (a1 : Int32) (a2 : Int32) (Q : Int32 → XT → Prop) (hR : wqX12_critical k t a1 a2 Q) : MetI l yX12_critical wsX12_critical 4 85 0 0 D (TYS cI cJ cB cZ) (wM cI cJ cB cZ bd t) [.ref (bd 0), .int a1, .int a2] (fun r u => Q r u) (fun u : XT => (wM cI cJ cB cZ bd u)) := by
  refine x_startI (ty := .int) (cc := cX12_critical) (by decide) rfl (Nat.le_of_ble_eq_true rfl) ?_
  intro p e s m args below meth c A ls B hr hnm h hl
  have hx := B.1.1
  have hb := B.1.2.1
  have hml := B.1.2.2.1
  have hts := B.1.2.2.2.2
  have hown : s.vm.findClass RX12 = some m.cls := B.1.2.2.2.1
  have hin12 : ∀ w ∈ u_ws RX12 TX12 31, w ∈ wsX12_critical := by decide +kernel
  have main : ∀ k : Nat, (∀ (t : XT) (li : Nat → Int32) (lj : Nat → Int64) (H : Heap) (locs : List Loc) (ls : Array Slot), wpX12_critical k 0 t li lj Q → lv_has ls 5 [(0, .ref (bd 0)), (1, .int (li 1)), (2, .int (li 2))] → Hp D A s.heap (wM cI cJ cB cZ bd t) H locs → W p l e { frames := 4, cells := 0, slots := 0, locals := 85 } s m args below meth c H locs 0 0 (MQ below (va_Qi (fun r u => Q r u) (fun u t => xEnd D ((fun u : XT => (wM cI cJ cB cZ bd u)) u) A t) A) args s 0 0 A) (F0 m 0 ls [])) ∧
      (∀ (t : XT) (li : Nat → Int32) (lj : Nat → Int64) (H : Heap) (locs : List Loc) (ls : Array Slot), wpX12_critical k 1 t li lj Q → lv_has ls 5 [(0, .ref (bd 0)), (1, .int (li 1)), (2, .int (li 2))] → Hp D A s.heap (wM cI cJ cB cZ bd t) H locs → W p l e { frames := 4, cells := 0, slots := 0, locals := 85 } s m args below meth c H locs 0 0 (MQ below (va_Qi (fun r u => Q r u) (fun u t => xEnd D ((fun u : XT => (wM cI cJ cB cZ bd u)) u) A t) A) args s 0 0 A) (F0 m 14 ls [])) ∧
      (∀ (t : XT) (li : Nat → Int32) (lj : Nat → Int64) (H : Heap) (locs : List Loc) (ls : Array Slot), wpX12_critical k 2 t li lj Q → lv_has ls 5 [(0, .ref (bd 0)), (1, .int (li 1)), (2, .int (li 2)), (3, .int (li 3)), (4, .int (li 4))] → Hp D A s.heap (wM cI cJ cB cZ bd t) H locs → W p l e { frames := 4, cells := 0, slots := 0, locals := 85 } s m args below meth c H locs 0 0 (MQ below (va_Qi (fun r u => Q r u) (fun u t => xEnd D ((fun u : XT => (wM cI cJ cB cZ bd u)) u) A t) A) args s 0 0 A) (F0 m 21 ls [])) ∧
      (∀ (t : XT) (li : Nat → Int32) (lj : Nat → Int64) (H : Heap) (locs : List Loc) (ls : Array Slot), wpX12_critical k 3 t li lj Q → lv_has ls 5 [(0, .ref (bd 0)), (1, .int (li 1)), (2, .int (li 2)), (3, .int (li 3)), (4, .int (li 4))] → Hp D A s.heap (wM cI cJ cB cZ bd t) H locs → W p l e { frames := 4, cells := 0, slots := 0, locals := 85 } s m args below meth c H locs 0 0 (MQ below (va_Qi (fun r u => Q r u) (fun u t => xEnd D ((fun u : XT => (wM cI cJ cB cZ bd u)) u) A t) A) args s 0 0 A) (F0 m 60 ls [])) := by
    intro k
    induction k with
    | zero => exact ⟨fun _ _ _ _ _ _ hR => False.elim hR, fun _ _ _ _ _ _ hR => False.elim hR, fun _ _ _ _ _ _ hR => False.elim hR, fun _ _ _ _ _ _ hR => False.elim hR⟩
    | succ k ih =>
      refine ⟨?_, ?_, ?_, ?_⟩
      · intro t li lj H locs ls hR hl h
        have hR : wbX12_critical_0 (wpX12_critical k) k t li lj Q := hR
        unfold wbX12_critical_0 at hR
        refine lv_iload_n hx hb dX12_critical_0 rfl (lv_at hl 1 rfl) ?_
        refine lv_iconst (v := 0) hx hb dX12_critical_1 (by decide) ?_
        refine lv_iconst (v := 4) hx hb dX12_critical_2 (by decide) ?_
        refine x_cSIE (n := 3) (As := [.int (li 1), .int 0, .int 4]) (rest := []) B h (wkX12_in l D cI cJ cB cZ bd k (li 1) 0 4 _ hR) ⟨⟨_, rfl⟩, by decide +kernel, Nat.le_of_ble_eq_true rfl, Nat.le_of_ble_eq_true rfl⟩ gX12_critical_X12_in rfl hl.1 rfl (Nat.le_of_ble_eq_true rfl) dX12_critical_3 ⟨Nat.le_of_ble_eq_true rfl, Nat.le_of_ble_eq_true rfl⟩ (fun r_1 _ H locs hR h => ?_)
        refine lv_if_eq (tgt := 14) hx hb dX12_critical_6 (by decide) (fun c_2 => ?_) (fun c_2 => ?_)
        · have hR := hR.1 c_2
          exact ih.2.1 t li lj H locs ls hR (lv_sub hl [0, 1, 2] rfl) h
        · have hR := hR.2 c_2
          refine lv_iload_n hx hb dX12_critical_9 rfl (lv_at hl 2 rfl) ?_
          refine lv_iconst (v := (-1)) hx hb dX12_critical_10 (by decide) ?_
          refine lv_icmp_ge (tgt := 16) hx hb dX12_critical_11 (by decide) (fun c_3 => ?_) (fun c_3 => ?_)
          · have hR := hR.1 c_3
            refine lv_iconst (v := 0) hx hb dX12_critical_16 (by decide) ?_
            refine lv_istore_n (lv' := [(3, .int 0), (0, .ref (bd 0)), (1, .int (li 1)), (2, .int (li 2))]) hx hb dX12_critical_17 rfl hl (by decide) rfl (fun ls hl => ?_)
            refine lv_iconst (v := 0) hx hb dX12_critical_18 (by decide) ?_
            refine lv_istore (lv' := [(4, .int 0), (3, .int 0), (0, .ref (bd 0)), (1, .int (li 1)), (2, .int (li 2))]) hx hb dX12_critical_19 hl (by decide) rfl (fun ls hl => ?_)
            exact ih.2.2.1 t (uI (uI li 3 0) 4 0) lj H locs ls hR (lv_sub hl [2, 3, 4, 1, 0] rfl) h
          · have hR := hR.2 c_3
            exact ih.2.1 t li lj H locs ls hR (lv_sub hl [0, 1, 2] rfl) h
      · intro t li lj H locs ls hR hl h
        have hR : wbX12_critical_1 (wpX12_critical k) k t li lj Q := hR
        unfold wbX12_critical_1 at hR
        refine lv_iconst (v := (-1)) hx hb dX12_critical_14 (by decide) ?_
        exact x_iret (w1 := (fun u : XT => (wM cI cJ cB cZ bd u))) t B h hr rfl hR dX12_critical_15
      · intro t li lj H locs ls hR hl h
        have hR : wbX12_critical_2 (wpX12_critical k) k t li lj Q := hR
        unfold wbX12_critical_2 at hR
        refine lv_iload hx hb dX12_critical_21 (lv_at hl 4 rfl) ?_
        refine lv_aload_n hx hb dX12_critical_23 rfl (lv_at hl 0 rfl) ?_
        refine x_get (ci := 12) (C := RX12) (T := TX12) (N := 31) (v := .int (t.1 3)) B h hin12 0 5 rfl rfl (by decide) (by decide +kernel) rfl dX12_critical_24 ?_
        refine lv_icmp_ge (tgt := 66) hx hb dX12_critical_27 (by decide) (fun c_4 => ?_) (fun c_4 => ?_)
        · have hR := hR.1 c_4
          refine lv_iload_n hx hb dX12_critical_66 rfl (lv_at hl 2 rfl) ?_
          refine lv_iconst (v := (-1)) hx hb dX12_critical_67 (by decide) ?_
          refine lv_icmp_ne (tgt := 75) hx hb dX12_critical_68 (by decide) (fun c_5 => ?_) (fun c_5 => ?_)
          · have hR := hR.1 c_5
            refine lv_bipush (v := (-2)) hx hb dX12_critical_75 (by decide) ?_
            exact x_iret (w1 := (fun u : XT => (wM cI cJ cB cZ bd u))) t B h hr rfl hR dX12_critical_77
          · have hR := hR.2 c_5
            refine lv_iload_n hx hb dX12_critical_71 rfl (lv_at hl 3 rfl) ?_
            refine lv_goto (tgt := 77) hx hb dX12_critical_72 (by decide) ?_
            exact x_iret (w1 := (fun u : XT => (wM cI cJ cB cZ bd u))) t B h hr rfl hR dX12_critical_77
        · have hR := hR.2 c_4
          refine lv_aload_n hx hb dX12_critical_30 rfl (lv_at hl 0 rfl) ?_
          refine lv_iload hx hb dX12_critical_31 (lv_at hl 4 rfl) ?_
          refine x_cVIF (n := 1) (As := [.int (li 4)]) (rest := []) B h (wkX12_isCritical l D cI cJ cB cZ bd k t (li 4) _ hR) ⟨⟨_, rfl⟩, by decide +kernel, Nat.le_of_ble_eq_true rfl, Nat.le_of_ble_eq_true rfl⟩ gX12_critical_X12_isCritical (show ((wM cI cJ cB cZ bd t) : va_W)[0]? = some (_, .inr (12, _)) from rfl) rfl rfl hl.1 rfl (Nat.le_of_ble_eq_true rfl) dX12_critical_33 ⟨Nat.le_of_ble_eq_true rfl, Nat.le_of_ble_eq_true rfl⟩ (fun r_6 t_6 H locs hR h => ?_)
          refine lv_if_eq (tgt := 60) hx hb dX12_critical_36 (by decide) (fun c_7 => ?_) (fun c_7 => ?_)
          · have hR := hR.1 c_7
            exact ih.2.2.2 t_6 li lj H locs ls hR (lv_sub hl [0, 1, 2, 3, 4] rfl) h
          · have hR := hR.2 c_7
            refine lv_aload_n hx hb dX12_critical_39 rfl (lv_at hl 0 rfl) ?_
            refine lv_iload hx hb dX12_critical_40 (lv_at hl 4 rfl) ?_
            refine x_cVIF (n := 1) (As := [.int (li 4)]) (rest := []) B h (wkX12_dimOf l D cI cJ cB cZ bd k t_6 (li 4) _ hR) ⟨⟨_, rfl⟩, by decide +kernel, Nat.le_of_ble_eq_true rfl, Nat.le_of_ble_eq_true rfl⟩ gX12_critical_X12_dimOf (show ((wM cI cJ cB cZ bd t_6) : va_W)[0]? = some (_, .inr (12, _)) from rfl) rfl rfl hl.1 rfl (Nat.le_of_ble_eq_true rfl) dX12_critical_42 ⟨Nat.le_of_ble_eq_true rfl, Nat.le_of_ble_eq_true rfl⟩ (fun r_8 t_8 H locs hR h => ?_)
            refine lv_iload_n hx hb dX12_critical_45 rfl (lv_at hl 1 rfl) ?_
            refine lv_icmp_ne (tgt := 60) hx hb dX12_critical_46 (by decide) (fun c_9 => ?_) (fun c_9 => ?_)
            · have hR := hR.1 c_9
              exact ih.2.2.2 t_8 li lj H locs ls hR (lv_sub hl [0, 1, 2, 3, 4] rfl) h
            · have hR := hR.2 c_9
              refine lv_iload_n hx hb dX12_critical_49 rfl (lv_at hl 3 rfl) ?_
              refine lv_iload_n hx hb dX12_critical_50 rfl (lv_at hl 2 rfl) ?_
              refine lv_icmp_ne (tgt := 57) hx hb dX12_critical_51 (by decide) (fun c_10 => ?_) (fun c_10 => ?_)
              · have hR := hR.1 c_10
                obtain ⟨v_11, ev_11⟩ : ∃ v : Int32, v = (li 3) + Int32.ofInt 1 := ⟨_, rfl⟩
                have hR := hR v_11 ev_11
                refine lv_iinc (v := v_11) (lv' := [(3, .int v_11), (0, .ref (bd 0)), (1, .int (li 1)), (2, .int (li 2)), (4, .int (li 4))]) hx hb dX12_critical_57 hl (k := 3) rfl ev_11.symm (by decide) rfl (fun ls hl => ?_)
                exact ih.2.2.2 t_8 (uI li 3 v_11) lj H locs ls hR (lv_sub hl [1, 2, 3, 0, 4] rfl) h
              · have hR := hR.2 c_10
                refine lv_iload hx hb dX12_critical_54 (lv_at hl 4 rfl) ?_
                exact x_iret (w1 := (fun u : XT => (wM cI cJ cB cZ bd u))) t_8 B h hr rfl hR dX12_critical_56
      · intro t li lj H locs ls hR hl h
        have hR : wbX12_critical_3 (wpX12_critical k) k t li lj Q := hR
        unfold wbX12_critical_3 at hR
        obtain ⟨v_12, ev_12⟩ : ∃ v : Int32, v = (li 4) + Int32.ofInt 1 := ⟨_, rfl⟩
        have hR := hR v_12 ev_12
        refine lv_iinc (v := v_12) (lv' := [(4, .int v_12), (0, .ref (bd 0)), (1, .int (li 1)), (2, .int (li 2)), (3, .int (li 3))]) hx hb dX12_critical_60 hl (k := 4) rfl ev_12.symm (by decide) rfl (fun ls hl => ?_)
        refine lv_goto (tgt := 21) hx hb dX12_critical_63 (by decide) ?_
        exact ih.2.2.1 t (uI li 4 v_12) lj H locs ls hR (lv_sub hl [1, 2, 3, 4, 0] rfl) h
  exact (main k).1 t _ _ s.heap [] ls hR hl h
set_option maxRecDepth 20000 in
theorem ggX12_paths_X12_areEnds : GoodIn wsX12_paths wsX12_areEnds := goodIn_r _ [6, 7, 8, 9, 5, 10, 11, 12, 13, 14, 15, 16, 17, 18, 19, 20, 21, 22, 23, 24, 25, 26, 27, 28, 29, 30, 31, 32, 33, 34, 35, 36, 71, 72, 73, 74, 75, 76, 77, 78, 79, 80, 81, 82, 83, 84, 85, 86, 87, 88, 89, 90, 91, 92, 93, 94, 95, 96, 97, 98, 99, 100, 101] (by decide +kernel) (by decide +kernel)
set_option maxRecDepth 20000 in
theorem gX12_paths_X12_areEnds : GoodIn wsX12_paths (wsV RX12 229 RX12 yX12_areEnds wsX12_areEnds) := goodIn_app (goodIn_of _ (by decide +kernel)) ggX12_paths_X12_areEnds
set_option maxRecDepth 20000 in
theorem ggX12_paths_X12_waysFrom : GoodIn wsX12_paths wsX12_waysFrom := goodIn_r _ [40, 21, 41, 42, 43, 44, 5, 45, 46, 47, 12, 13, 14, 15, 16, 17, 18, 19, 20, 22, 23, 24, 48, 49, 50, 51, 11, 25, 26, 27, 28, 29, 30, 31, 32, 33, 34, 35, 36, 52, 53, 54, 55, 56, 57, 58, 59, 60, 61, 62, 63, 64, 65, 66, 67, 68, 69, 70, 71, 72, 73, 74, 75, 76, 77, 78, 79, 80, 81, 82, 83, 84, 85, 86, 87, 88, 89, 90, 91, 92, 93, 94, 95, 96, 97, 98, 99, 100, 101] (by decide +kernel) (by decide +kernel)
set_option maxRecDepth 20000 in
theorem gX12_paths_X12_waysFrom : GoodIn wsX12_paths (wsV RX12 232 RX12 yX12_waysFrom wsX12_waysFrom) := goodIn_app (goodIn_of _ (by decide +kernel)) ggX12_paths_X12_waysFrom
def wbX12_paths_0 (rec : Nat → XT → (Nat → Int32) → (Nat → Int64) → (Int64 → XT → Prop) → Prop) (k : Nat) (t : XT) (li : Nat → Int32) (lj : Nat → Int64) (Q : Int64 → XT → Prop) : Prop :=
  (wqX12_areEnds k t (li 1) (li 2) (fun r_1 t_1 => ((r_1 = 0) → Q (-1) t_1) ∧ (¬ (r_1 = 0) → (wqX12_waysFrom k t_1 (li 1) (li 2) (fun r_3 t_3 => Q r_3 t_3)))))
def wpX12_paths : Nat → Nat → XT → (Nat → Int32) → (Nat → Int64) → (Int64 → XT → Prop) → Prop
  | 0, _, _, _, _, _ => False
  | k + 1, 0, t, li, lj, Q => wbX12_paths_0 (wpX12_paths k) k t li lj Q
  | _ + 1, _, _, _, _, _ => False
def wqX12_paths (k : Nat) (t : XT) (a1 : Int32) (a2 : Int32) (Q : Int64 → XT → Prop) : Prop := wpX12_paths k 0 t (uI (uI (fun _ => 0) 1 a1) 2 a2) (fun _ => 0) Q
set_option maxHeartbeats 8000000 in
set_option maxRecDepth 100000 in
theorem wkX12_paths (l : Launch) (D : va_G) (cI cJ cB cZ : ClassId) (bd : Nat → Nat) (k : Nat) (t : XT) (a1 : Int32) (a2 : Int32) (Q : Int64 → XT → Prop) (hR : wqX12_paths k t a1 a2 Q) : MetL l yX12_paths wsX12_paths 7 160 0 0 D (TYS cI cJ cB cZ) (wM cI cJ cB cZ bd t) [.ref (bd 0), .int a1, .int a2] (fun r u => Q r u) (fun u : XT => (wM cI cJ cB cZ bd u)) := by
  refine x_startL (ty := .long) (cc := cX12_paths) (by decide) rfl (Nat.le_of_ble_eq_true rfl) ?_
  intro p e s m args below meth c A ls B hr hnm h hl
  have hx := B.1.1
  have hb := B.1.2.1
  have hml := B.1.2.2.1
  have hts := B.1.2.2.2.2
  have hown : s.vm.findClass RX12 = some m.cls := B.1.2.2.2.1
  have main : ∀ k : Nat, (∀ (t : XT) (li : Nat → Int32) (lj : Nat → Int64) (H : Heap) (locs : List Loc) (ls : Array Slot), wpX12_paths k 0 t li lj Q → lv_has ls 3 [(0, .ref (bd 0)), (1, .int (li 1)), (2, .int (li 2))] → Hp D A s.heap (wM cI cJ cB cZ bd t) H locs → W p l e { frames := 7, cells := 0, slots := 0, locals := 160 } s m args below meth c H locs 0 0 (MQ below (va_Ql (fun r u => Q r u) (fun u t => xEnd D ((fun u : XT => (wM cI cJ cB cZ bd u)) u) A t) A) args s 0 0 A) (F0 m 0 ls [])) := by
    intro k
    induction k with
    | zero => exact fun _ _ _ _ _ _ hR => False.elim hR
    | succ k ih =>
      intro t li lj H locs ls hR hl h
      have hR : wbX12_paths_0 (wpX12_paths k) k t li lj Q := hR
      unfold wbX12_paths_0 at hR
      refine lv_aload_n hx hb dX12_paths_0 rfl (lv_at hl 0 rfl) ?_
      refine lv_iload_n hx hb dX12_paths_1 rfl (lv_at hl 1 rfl) ?_
      refine lv_iload_n hx hb dX12_paths_2 rfl (lv_at hl 2 rfl) ?_
      refine x_cVIF (n := 2) (As := [.int (li 1), .int (li 2)]) (rest := []) B h (wkX12_areEnds l D cI cJ cB cZ bd k t (li 1) (li 2) _ hR) ⟨⟨_, rfl⟩, by decide +kernel, Nat.le_of_ble_eq_true rfl, Nat.le_of_ble_eq_true rfl⟩ gX12_paths_X12_areEnds (show ((wM cI cJ cB cZ bd t) : va_W)[0]? = some (_, .inr (12, _)) from rfl) rfl rfl hl.1 rfl (Nat.le_of_ble_eq_true rfl) dX12_paths_3 ⟨Nat.le_of_ble_eq_true rfl, Nat.le_of_ble_eq_true rfl⟩ (fun r_1 t_1 H locs hR h => ?_)
      refine lv_if_eq (tgt := 18) hx hb dX12_paths_6 (by decide) (fun c_2 => ?_) (fun c_2 => ?_)
      · have hR := hR.1 c_2
        refine lv_ldc2 (v := (-1)) hx hb hown (hts (.constantLong RX12 236 (-1)) (by decide +kernel)) dX12_paths_18 ?_
        exact x_lret (w1 := (fun u : XT => (wM cI cJ cB cZ bd u))) t_1 B h hr hR dX12_paths_21
      · have hR := hR.2 c_2
        refine lv_aload_n hx hb dX12_paths_9 rfl (lv_at hl 0 rfl) ?_
        refine lv_iload_n hx hb dX12_paths_10 rfl (lv_at hl 1 rfl) ?_
        refine lv_iload_n hx hb dX12_paths_11 rfl (lv_at hl 2 rfl) ?_
        refine x_cVLF (n := 2) (As := [.int (li 1), .int (li 2)]) (rest := []) B h (wkX12_waysFrom l D cI cJ cB cZ bd k t_1 (li 1) (li 2) _ hR) ⟨⟨_, rfl⟩, by decide +kernel, Nat.le_of_ble_eq_true rfl, Nat.le_of_ble_eq_true rfl⟩ gX12_paths_X12_waysFrom (show ((wM cI cJ cB cZ bd t_1) : va_W)[0]? = some (_, .inr (12, _)) from rfl) rfl rfl hl.1 rfl (Nat.le_of_ble_eq_true rfl) dX12_paths_12 ⟨Nat.le_of_ble_eq_true rfl, Nat.le_of_ble_eq_true rfl⟩ (fun r_3 t_3 H locs hR h => ?_)
        refine lv_goto (tgt := 21) hx hb dX12_paths_15 (by decide) ?_
        exact x_lret (w1 := (fun u : XT => (wM cI cJ cB cZ bd u))) t_3 B h hr hR dX12_paths_21
  exact (main k) t _ _ s.heap [] ls hR hl h
set_option maxRecDepth 20000 in
theorem ggX12_path_X12_areEnds : GoodIn wsX12_path wsX12_areEnds := goodIn_r _ [7, 8, 9, 10, 6, 11, 12, 13, 14, 15, 16, 17, 18, 19, 20, 21, 22, 23, 24, 25, 26, 27, 28, 29, 30, 31, 32, 33, 34, 35, 36, 37, 80, 81, 82, 83, 84, 85, 86, 87, 88, 89, 90, 91, 92, 93, 94, 95, 96, 97, 98, 99, 100, 101, 102, 103, 104, 105, 106, 107, 108, 109, 110] (by decide +kernel) (by decide +kernel)
set_option maxRecDepth 20000 in
theorem gX12_path_X12_areEnds : GoodIn wsX12_path (wsV RX12 229 RX12 yX12_areEnds wsX12_areEnds) := goodIn_app (goodIn_of _ (by decide +kernel)) ggX12_path_X12_areEnds
set_option maxRecDepth 20000 in
theorem ggX12_path_X12_laysPath : GoodIn wsX12_path wsX12_laysPath := goodIn_r _ [41, 1, 42, 12, 43, 44, 45, 6, 46, 22, 47, 48, 49, 50, 51, 52, 13, 14, 15, 16, 17, 18, 19, 20, 21, 23, 24, 25, 53, 54, 55, 56, 26, 27, 28, 29, 30, 31, 32, 33, 34, 35, 36, 37, 57, 58, 59, 60, 61, 62, 63, 64, 65, 66, 67, 68, 69, 70, 71, 72, 73, 74, 75, 76, 77, 78, 79, 2, 80, 81, 82, 83, 84, 85, 86, 87, 88, 89, 90, 91, 92, 93, 94, 95, 96, 97, 98, 99, 100, 101, 102, 103, 104, 105, 106, 107, 108, 109, 110] (by decide +kernel) (by decide +kernel)
set_option maxRecDepth 20000 in
theorem gX12_path_X12_laysPath : GoodIn wsX12_path (wsV RX12 249 RX12 yX12_laysPath wsX12_laysPath) := goodIn_app (goodIn_of _ (by decide +kernel)) ggX12_path_X12_laysPath
def wbX12_path_0 (rec : Nat → XT → (Nat → Int32) → (Nat → Int64) → (Int32 → XT → Prop) → Prop) (k : Nat) (t : XT) (li : Nat → Int32) (lj : Nat → Int64) (Q : Int32 → XT → Prop) : Prop :=
  (wqX12_areEnds k t (li 1) (li 2) (fun r_1 t_1 => ((r_1 = 0) → rec 1 t_1 li lj Q) ∧ (¬ (r_1 = 0) → (((li 3) < 0) → rec 1 t_1 li lj Q) ∧ (¬ ((li 3) < 0) → ((((-1) : Int32) ≤ (li 4)) → (∀ v_5 : Int64, v_5 = (li 3).toInt64 → (wqX12_laysPath k t_1 (li 1) (li 2) v_5 (fun r_6 t_6 => ((¬ r_6 = 0) → ((¬ (li 4) = (-1)) → ((((t_6.1 5) : Int32) ≤ (li 4)) → Q (-2) t_6) ∧ (¬ (((t_6.1 5) : Int32) ≤ (li 4)) → (vp_in (li 4) 122 ∧ (∀ v_10 : Int32, v_10 = (t_6.2.2.1 10) (li 4).toNatClampNeg → Q v_10 t_6)))) ∧ (((li 4) = (-1)) → Q (t_6.1 5) t_6)) ∧ ((r_6 = 0) → Q (-2) t_6))))) ∧ (¬ (((-1) : Int32) ≤ (li 4)) → rec 1 t_1 li lj Q)))))
def wbX12_path_1 (rec : Nat → XT → (Nat → Int32) → (Nat → Int64) → (Int32 → XT → Prop) → Prop) (k : Nat) (t : XT) (li : Nat → Int32) (lj : Nat → Int64) (Q : Int32 → XT → Prop) : Prop :=
  Q (-1) t
def wpX12_path : Nat → Nat → XT → (Nat → Int32) → (Nat → Int64) → (Int32 → XT → Prop) → Prop
  | 0, _, _, _, _, _ => False
  | k + 1, 0, t, li, lj, Q => wbX12_path_0 (wpX12_path k) k t li lj Q
  | k + 1, 1, t, li, lj, Q => wbX12_path_1 (wpX12_path k) k t li lj Q
  | _ + 1, _, _, _, _, _ => False
def wqX12_path (k : Nat) (t : XT) (a1 : Int32) (a2 : Int32) (a3 : Int32) (a4 : Int32) (Q : Int32 → XT → Prop) : Prop := wpX12_path k 0 t (uI (uI (uI (uI (fun _ => 0) 1 a1) 2 a2) 3 a3) 4 a4) (fun _ => 0) Q
set_option maxHeartbeats 8000000 in
set_option maxRecDepth 100000 in
theorem wkX12_path (l : Launch) (D : va_G) (cI cJ cB cZ : ClassId) (bd : Nat → Nat) (k : Nat) (t : XT) (a1 : Int32) (a2 : Int32) (a3 : Int32) (a4 : Int32) (Q : Int32 → XT → Prop) (hR : wqX12_path k t a1 a2 a3 a4 Q) : MetI l yX12_path wsX12_path 8 189 0 0 D (TYS cI cJ cB cZ) (wM cI cJ cB cZ bd t) [.ref (bd 0), .int a1, .int a2, .int a3, .int a4] (fun r u => Q r u) (fun u : XT => (wM cI cJ cB cZ bd u)) := by
  refine x_startI (ty := .int) (cc := cX12_path) (by decide) rfl (Nat.le_of_ble_eq_true rfl) ?_
  intro p e s m args below meth c A ls B hr hnm h hl
  have hx := B.1.1
  have hb := B.1.2.1
  have hml := B.1.2.2.1
  have hts := B.1.2.2.2.2
  have hown : s.vm.findClass RX12 = some m.cls := B.1.2.2.2.1
  have hin12 : ∀ w ∈ u_ws RX12 TX12 31, w ∈ wsX12_path := by decide +kernel
  have main : ∀ k : Nat, (∀ (t : XT) (li : Nat → Int32) (lj : Nat → Int64) (H : Heap) (locs : List Loc) (ls : Array Slot), wpX12_path k 0 t li lj Q → lv_has ls 5 [(0, .ref (bd 0)), (1, .int (li 1)), (2, .int (li 2)), (3, .int (li 3)), (4, .int (li 4))] → Hp D A s.heap (wM cI cJ cB cZ bd t) H locs → W p l e { frames := 8, cells := 0, slots := 0, locals := 189 } s m args below meth c H locs 0 0 (MQ below (va_Qi (fun r u => Q r u) (fun u t => xEnd D ((fun u : XT => (wM cI cJ cB cZ bd u)) u) A t) A) args s 0 0 A) (F0 m 0 ls [])) ∧
      (∀ (t : XT) (li : Nat → Int32) (lj : Nat → Int64) (H : Heap) (locs : List Loc) (ls : Array Slot), wpX12_path k 1 t li lj Q → lv_has ls 5 [(0, .ref (bd 0)), (1, .int (li 1)), (2, .int (li 2)), (3, .int (li 3)), (4, .int (li 4))] → Hp D A s.heap (wM cI cJ cB cZ bd t) H locs → W p l e { frames := 8, cells := 0, slots := 0, locals := 189 } s m args below meth c H locs 0 0 (MQ below (va_Qi (fun r u => Q r u) (fun u t => xEnd D ((fun u : XT => (wM cI cJ cB cZ bd u)) u) A t) A) args s 0 0 A) (F0 m 19 ls [])) := by
    intro k
    induction k with
    | zero => exact ⟨fun _ _ _ _ _ _ hR => False.elim hR, fun _ _ _ _ _ _ hR => False.elim hR⟩
    | succ k ih =>
      refine ⟨?_, ?_⟩
      · intro t li lj H locs ls hR hl h
        have hR : wbX12_path_0 (wpX12_path k) k t li lj Q := hR
        unfold wbX12_path_0 at hR
        refine lv_aload_n hx hb dX12_path_0 rfl (lv_at hl 0 rfl) ?_
        refine lv_iload_n hx hb dX12_path_1 rfl (lv_at hl 1 rfl) ?_
        refine lv_iload_n hx hb dX12_path_2 rfl (lv_at hl 2 rfl) ?_
        refine x_cVIF (n := 2) (As := [.int (li 1), .int (li 2)]) (rest := []) B h (wkX12_areEnds l D cI cJ cB cZ bd k t (li 1) (li 2) _ hR) ⟨⟨_, rfl⟩, by decide +kernel, Nat.le_of_ble_eq_true rfl, Nat.le_of_ble_eq_true rfl⟩ gX12_path_X12_areEnds (show ((wM cI cJ cB cZ bd t) : va_W)[0]? = some (_, .inr (12, _)) from rfl) rfl rfl hl.1 rfl (Nat.le_of_ble_eq_true rfl) dX12_path_3 ⟨Nat.le_of_ble_eq_true rfl, Nat.le_of_ble_eq_true rfl⟩ (fun r_1 t_1 H locs hR h => ?_)
        refine lv_if_eq (tgt := 19) hx hb dX12_path_6 (by decide) (fun c_2 => ?_) (fun c_2 => ?_)
        · have hR := hR.1 c_2
          exact ih.2 t_1 li lj H locs ls hR (lv_sub hl [0, 1, 2, 3, 4] rfl) h
        · have hR := hR.2 c_2
          refine lv_iload_n hx hb dX12_path_9 rfl (lv_at hl 3 rfl) ?_
          refine lv_if_lt (tgt := 19) hx hb dX12_path_10 (by decide) (fun c_3 => ?_) (fun c_3 => ?_)
          · have hR := hR.1 c_3
            exact ih.2 t_1 li lj H locs ls hR (lv_sub hl [0, 1, 2, 3, 4] rfl) h
          · have hR := hR.2 c_3
            refine lv_iload hx hb dX12_path_13 (lv_at hl 4 rfl) ?_
            refine lv_iconst (v := (-1)) hx hb dX12_path_15 (by decide) ?_
            refine lv_icmp_ge (tgt := 21) hx hb dX12_path_16 (by decide) (fun c_4 => ?_) (fun c_4 => ?_)
            · have hR := hR.1 c_4
              refine lv_aload_n hx hb dX12_path_21 rfl (lv_at hl 0 rfl) ?_
              refine lv_iload_n hx hb dX12_path_22 rfl (lv_at hl 1 rfl) ?_
              refine lv_iload_n hx hb dX12_path_23 rfl (lv_at hl 2 rfl) ?_
              refine lv_iload_n hx hb dX12_path_24 rfl (lv_at hl 3 rfl) ?_
              obtain ⟨v_5, ev_5⟩ : ∃ v : Int64, v = (li 3).toInt64 := ⟨_, rfl⟩
              have hR := hR v_5 ev_5
              refine lv_i2l (v := v_5) hx hb dX12_path_25 ev_5.symm ?_
              refine x_cVIF (n := 3) (As := [.int (li 1), .int (li 2), .long v_5]) (rest := []) B h (wkX12_laysPath l D cI cJ cB cZ bd k t_1 (li 1) (li 2) v_5 _ hR) ⟨⟨_, rfl⟩, by decide +kernel, Nat.le_of_ble_eq_true rfl, Nat.le_of_ble_eq_true rfl⟩ gX12_path_X12_laysPath (show ((wM cI cJ cB cZ bd t_1) : va_W)[0]? = some (_, .inr (12, _)) from rfl) rfl rfl hl.1 rfl (Nat.le_of_ble_eq_true rfl) dX12_path_26 ⟨Nat.le_of_ble_eq_true rfl, Nat.le_of_ble_eq_true rfl⟩ (fun r_6 t_6 H locs hR h => ?_)
              refine lv_if_ne (tgt := 35) hx hb dX12_path_29 (by decide) (fun c_7 => ?_) (fun c_7 => ?_)
              · have hR := hR.1 c_7
                refine lv_iload hx hb dX12_path_35 (lv_at hl 4 rfl) ?_
                refine lv_iconst (v := (-1)) hx hb dX12_path_37 (by decide) ?_
                refine lv_icmp_ne (tgt := 48) hx hb dX12_path_38 (by decide) (fun c_8 => ?_) (fun c_8 => ?_)
                · have hR := hR.1 c_8
                  refine lv_iload hx hb dX12_path_48 (lv_at hl 4 rfl) ?_
                  refine lv_aload_n hx hb dX12_path_50 rfl (lv_at hl 0 rfl) ?_
                  refine x_get (ci := 12) (C := RX12) (T := TX12) (N := 31) (v := .int (t_6.1 5)) B h hin12 0 18 rfl rfl (by decide) (by decide +kernel) rfl dX12_path_51 ?_
                  refine lv_icmp_ge (tgt := 67) hx hb dX12_path_54 (by decide) (fun c_9 => ?_) (fun c_9 => ?_)
                  · have hR := hR.1 c_9
                    refine lv_bipush (v := (-2)) hx hb dX12_path_67 (by decide) ?_
                    exact x_iret (w1 := (fun u : XT => (wM cI cJ cB cZ bd u))) t_6 B h hr rfl hR dX12_path_69
                  · have hR := hR.2 c_9
                    refine lv_aload_n hx hb dX12_path_57 rfl (lv_at hl 0 rfl) ?_
                    refine x_get (ci := 12) (C := RX12) (T := TX12) (N := 31) (v := .ref (bd 13)) B h hin12 0 17 rfl rfl (by decide) (by decide +kernel) rfl dX12_path_58 ?_
                    refine lv_iload hx hb dX12_path_61 (lv_at hl 4 rfl) ?_
                    obtain ⟨hb_10, hR⟩ := hR
                    refine va_iald (f := (t_6.2.2.1 10)) hx hb B.2.1 h.1 13 0 rfl rfl hb_10 dX12_path_63 ?_
                    refine lv_topi (fun v_10 ev_10 => ?_)
                    have hR := hR v_10 ev_10
                    refine lv_goto (tgt := 69) hx hb dX12_path_64 (by decide) ?_
                    exact x_iret (w1 := (fun u : XT => (wM cI cJ cB cZ bd u))) t_6 B h hr rfl hR dX12_path_69
                · have hR := hR.2 c_8
                  refine lv_aload_n hx hb dX12_path_41 rfl (lv_at hl 0 rfl) ?_
                  refine x_get (ci := 12) (C := RX12) (T := TX12) (N := 31) (v := .int (t_6.1 5)) B h hin12 0 18 rfl rfl (by decide) (by decide +kernel) rfl dX12_path_42 ?_
                  refine lv_goto (tgt := 69) hx hb dX12_path_45 (by decide) ?_
                  exact x_iret (w1 := (fun u : XT => (wM cI cJ cB cZ bd u))) t_6 B h hr rfl hR dX12_path_69
              · have hR := hR.2 c_7
                refine lv_bipush (v := (-2)) hx hb dX12_path_32 (by decide) ?_
                exact x_iret (w1 := (fun u : XT => (wM cI cJ cB cZ bd u))) t_6 B h hr rfl hR dX12_path_34
            · have hR := hR.2 c_4
              exact ih.2 t_1 li lj H locs ls hR (lv_sub hl [0, 1, 2, 3, 4] rfl) h
      · intro t li lj H locs ls hR hl h
        have hR : wbX12_path_1 (wpX12_path k) k t li lj Q := hR
        unfold wbX12_path_1 at hR
        refine lv_iconst (v := (-1)) hx hb dX12_path_19 (by decide) ?_
        exact x_iret (w1 := (fun u : XT => (wM cI cJ cB cZ bd u))) t B h hr rfl hR dX12_path_20
  exact (main k).1 t _ _ s.heap [] ls hR hl h
set_option maxRecDepth 20000 in
theorem ggX12_incidenceOf_X12_laysWays : GoodIn wsX12_incidenceOf wsX12_laysWays := goodIn_r _ [7, 1, 8, 9, 2, 10, 11, 12, 6, 13, 14, 15, 16, 17, 18, 19, 20, 21, 22, 23, 24, 25, 26, 27, 28, 29, 30, 31, 32, 33, 34, 35, 36, 37, 38, 39, 40, 41, 42, 43, 44, 45, 46, 47, 48, 49, 50, 51, 52, 53, 54, 55, 56, 57, 58, 59, 60, 61, 62, 63, 64, 65, 66, 67, 68, 69, 70, 71, 72, 73, 74, 75, 76, 77, 78, 79, 80, 81, 82, 83, 84, 85, 86, 87, 88] (by decide +kernel) (by decide +kernel)
set_option maxRecDepth 20000 in
theorem gX12_incidenceOf_X12_laysWays : GoodIn wsX12_incidenceOf (wsV RX12 226 RX12 yX12_laysWays wsX12_laysWays) := goodIn_app (goodIn_of _ (by decide +kernel)) ggX12_incidenceOf_X12_laysWays
set_option maxRecDepth 20000 in
theorem ggX12_incidenceOf_X12_isFaceThere : GoodIn wsX12_incidenceOf wsX12_isFaceThere := goodIn_r _ [49, 14, 50, 51, 52, 6, 53, 31, 27, 28, 29, 30, 32, 33, 34, 35, 36, 37, 38, 58, 59, 60, 61, 62, 63, 64, 65, 66, 67, 68, 69, 70, 71, 72, 73, 74, 75, 76, 77, 78, 79, 80, 81, 82, 83, 84, 85, 86, 87, 88] (by decide +kernel) (by decide +kernel)
set_option maxRecDepth 20000 in
theorem gX12_incidenceOf_X12_isFaceThere : GoodIn wsX12_incidenceOf (wsV RX12 162 RX12 yX12_isFaceThere wsX12_isFaceThere) := goodIn_app (goodIn_of _ (by decide +kernel)) ggX12_incidenceOf_X12_isFaceThere
set_option maxRecDepth 20000 in
theorem ggX12_incidenceOf_X12_signOf : GoodIn wsX12_incidenceOf wsX12_signOf := goodIn_r _ [57, 31, 32, 33, 34, 35, 36, 37, 38, 58, 59, 60, 61, 62, 63, 64, 65, 66, 67, 68, 69, 70, 71, 72, 73, 74, 75, 76, 77, 78, 79, 80, 81, 82, 83, 84, 85, 86, 87, 88] (by decide +kernel) (by decide +kernel)
set_option maxRecDepth 20000 in
theorem gX12_incidenceOf_X12_signOf : GoodIn wsX12_incidenceOf (wsV RX12 166 RX12 yX12_signOf wsX12_signOf) := goodIn_app (goodIn_of _ (by decide +kernel)) ggX12_incidenceOf_X12_signOf
def wbX12_incidenceOf_0 (rec : Nat → XT → (Nat → Int32) → (Nat → Int64) → (Int64 → XT → Prop) → Prop) (k : Nat) (t : XT) (li : Nat → Int32) (lj : Nat → Int64) (Q : Int64 → XT → Prop) : Prop :=
  (wqX12_laysWays k t (li 2) (fun t_1 => rec 1 t_1 (uI li 5 0) (uI lj 3 0) Q))
def wbX12_incidenceOf_1 (rec : Nat → XT → (Nat → Int32) → (Nat → Int64) → (Int64 → XT → Prop) → Prop) (k : Nat) (t : XT) (li : Nat → Int32) (lj : Nat → Int64) (Q : Int64 → XT → Prop) : Prop :=
  ((((t.1 3) : Int32) ≤ (li 5)) → Q (lj 3) t) ∧ (¬ (((t.1 3) : Int32) ≤ (li 5)) → (wqX12_isFaceThere k t (li 5) (li 1) (fun r_3 t_3 => ((r_3 = 0) → rec 2 t_3 li (uI (uI lj 101 0) 100 (lj 3)) Q) ∧ (¬ (r_3 = 0) → (wqX12_signOf k t_3 (li 5) (li 1) (fun r_5 t_5 => (∀ v_6 : Int64, v_6 = r_5.toInt64 → (vp_in (li 5) 60 ∧ (∀ v_7 : Int64, v_7 = (t_5.2.2.2 1) (li 5).toNatClampNeg → (∀ v_8 : Int64, v_8 = (v_6 * v_7) → rec 2 t_5 li (uI (uI lj 101 v_8) 100 (lj 3)) Q))))))))))
def wbX12_incidenceOf_2 (rec : Nat → XT → (Nat → Int32) → (Nat → Int64) → (Int64 → XT → Prop) → Prop) (k : Nat) (t : XT) (li : Nat → Int32) (lj : Nat → Int64) (Q : Int64 → XT → Prop) : Prop :=
  (∀ v_9 : Int64, v_9 = ((lj 100) + (lj 101)) → (∀ v_10 : Int32, v_10 = (li 5) + Int32.ofInt 1 → rec 1 t (uI li 5 v_10) (uI lj 3 v_9) Q))
def wpX12_incidenceOf : Nat → Nat → XT → (Nat → Int32) → (Nat → Int64) → (Int64 → XT → Prop) → Prop
  | 0, _, _, _, _, _ => False
  | k + 1, 0, t, li, lj, Q => wbX12_incidenceOf_0 (wpX12_incidenceOf k) k t li lj Q
  | k + 1, 1, t, li, lj, Q => wbX12_incidenceOf_1 (wpX12_incidenceOf k) k t li lj Q
  | k + 1, 2, t, li, lj, Q => wbX12_incidenceOf_2 (wpX12_incidenceOf k) k t li lj Q
  | _ + 1, _, _, _, _, _ => False
def wqX12_incidenceOf (k : Nat) (t : XT) (a1 : Int32) (a2 : Int32) (Q : Int64 → XT → Prop) : Prop := wpX12_incidenceOf k 0 t (uI (uI (fun _ => 0) 1 a1) 2 a2) (fun _ => 0) Q
set_option maxHeartbeats 8000000 in
set_option maxRecDepth 100000 in
theorem wkX12_incidenceOf (l : Launch) (D : va_G) (cI cJ cB cZ : ClassId) (bd : Nat → Nat) (k : Nat) (t : XT) (a1 : Int32) (a2 : Int32) (Q : Int64 → XT → Prop) (hR : wqX12_incidenceOf k t a1 a2 Q) : MetL l yX12_incidenceOf wsX12_incidenceOf 6 135 0 0 D (TYS cI cJ cB cZ) (wM cI cJ cB cZ bd t) [.ref (bd 0), .int a1, .int a2] (fun r u => Q r u) (fun u : XT => (wM cI cJ cB cZ bd u)) := by
  refine x_startL (ty := .long) (cc := cX12_incidenceOf) (by decide) rfl (Nat.le_of_ble_eq_true rfl) ?_
  intro p e s m args below meth c A ls B hr hnm h hl
  have hx := B.1.1
  have hb := B.1.2.1
  have hml := B.1.2.2.1
  have hts := B.1.2.2.2.2
  have hown : s.vm.findClass RX12 = some m.cls := B.1.2.2.2.1
  have hin12 : ∀ w ∈ u_ws RX12 TX12 31, w ∈ wsX12_incidenceOf := by decide +kernel
  have main : ∀ k : Nat, (∀ (t : XT) (li : Nat → Int32) (lj : Nat → Int64) (H : Heap) (locs : List Loc) (ls : Array Slot), wpX12_incidenceOf k 0 t li lj Q → lv_has ls 6 [(0, .ref (bd 0)), (1, .int (li 1)), (2, .int (li 2))] → Hp D A s.heap (wM cI cJ cB cZ bd t) H locs → W p l e { frames := 6, cells := 0, slots := 0, locals := 135 } s m args below meth c H locs 0 0 (MQ below (va_Ql (fun r u => Q r u) (fun u t => xEnd D ((fun u : XT => (wM cI cJ cB cZ bd u)) u) A t) A) args s 0 0 A) (F0 m 0 ls [])) ∧
      (∀ (t : XT) (li : Nat → Int32) (lj : Nat → Int64) (H : Heap) (locs : List Loc) (ls : Array Slot), wpX12_incidenceOf k 1 t li lj Q → lv_has ls 6 [(0, .ref (bd 0)), (1, .int (li 1)), (2, .int (li 2)), (3, .long (lj 3)), (5, .int (li 5))] → Hp D A s.heap (wM cI cJ cB cZ bd t) H locs → W p l e { frames := 6, cells := 0, slots := 0, locals := 135 } s m args below meth c H locs 0 0 (MQ below (va_Ql (fun r u => Q r u) (fun u t => xEnd D ((fun u : XT => (wM cI cJ cB cZ bd u)) u) A t) A) args s 0 0 A) (F0 m 10 ls [])) ∧
      (∀ (t : XT) (li : Nat → Int32) (lj : Nat → Int64) (H : Heap) (locs : List Loc) (ls : Array Slot), wpX12_incidenceOf k 2 t li lj Q → lv_has ls 6 [(0, .ref (bd 0)), (1, .int (li 1)), (2, .int (li 2)), (3, .long (lj 3)), (5, .int (li 5))] → Hp D A s.heap (wM cI cJ cB cZ bd t) H locs → W p l e { frames := 6, cells := 0, slots := 0, locals := 135 } s m args below meth c H locs 0 0 (MQ below (va_Ql (fun r u => Q r u) (fun u t => xEnd D ((fun u : XT => (wM cI cJ cB cZ bd u)) u) A t) A) args s 0 0 A) (F0 m 50 ls [.long (lj 101), .long (lj 100)])) := by
    intro k
    induction k with
    | zero => exact ⟨fun _ _ _ _ _ _ hR => False.elim hR, fun _ _ _ _ _ _ hR => False.elim hR, fun _ _ _ _ _ _ hR => False.elim hR⟩
    | succ k ih =>
      refine ⟨?_, ?_, ?_⟩
      · intro t li lj H locs ls hR hl h
        have hR : wbX12_incidenceOf_0 (wpX12_incidenceOf k) k t li lj Q := hR
        unfold wbX12_incidenceOf_0 at hR
        refine lv_aload_n hx hb dX12_incidenceOf_0 rfl (lv_at hl 0 rfl) ?_
        refine lv_iload_n hx hb dX12_incidenceOf_1 rfl (lv_at hl 2 rfl) ?_
        refine x_cVVF (n := 1) (As := [.int (li 2)]) (rest := []) B h (wkX12_laysWays l D cI cJ cB cZ bd k t (li 2) _ hR) ⟨⟨_, rfl⟩, by decide +kernel, Nat.le_of_ble_eq_true rfl, Nat.le_of_ble_eq_true rfl⟩ gX12_incidenceOf_X12_laysWays (show ((wM cI cJ cB cZ bd t) : va_W)[0]? = some (_, .inr (12, _)) from rfl) rfl rfl hl.1 rfl (Nat.le_of_ble_eq_true rfl) dX12_incidenceOf_2 ⟨Nat.le_of_ble_eq_true rfl, Nat.le_of_ble_eq_true rfl⟩ (fun t_1 H locs hR h => ?_)
        refine lv_lconst (v := 0) hx hb dX12_incidenceOf_5 (by decide) ?_
        refine lv_lstore_n (lv' := [(3, .long 0), (0, .ref (bd 0)), (1, .int (li 1)), (2, .int (li 2))]) hx hb dX12_incidenceOf_6 rfl hl (by decide) rfl (fun ls hl => ?_)
        refine lv_iconst (v := 0) hx hb dX12_incidenceOf_7 (by decide) ?_
        refine lv_istore (lv' := [(5, .int 0), (3, .long 0), (0, .ref (bd 0)), (1, .int (li 1)), (2, .int (li 2))]) hx hb dX12_incidenceOf_8 hl (by decide) rfl (fun ls hl => ?_)
        exact ih.2.1 t_1 (uI li 5 0) (uI lj 3 0) H locs ls hR (lv_sub hl [2, 3, 4, 1, 0] rfl) h
      · intro t li lj H locs ls hR hl h
        have hR : wbX12_incidenceOf_1 (wpX12_incidenceOf k) k t li lj Q := hR
        unfold wbX12_incidenceOf_1 at hR
        refine lv_iload hx hb dX12_incidenceOf_10 (lv_at hl 4 rfl) ?_
        refine lv_aload_n hx hb dX12_incidenceOf_12 rfl (lv_at hl 0 rfl) ?_
        refine x_get (ci := 12) (C := RX12) (T := TX12) (N := 31) (v := .int (t.1 3)) B h hin12 0 5 rfl rfl (by decide) (by decide +kernel) rfl dX12_incidenceOf_13 ?_
        refine lv_icmp_ge (tgt := 58) hx hb dX12_incidenceOf_16 (by decide) (fun c_2 => ?_) (fun c_2 => ?_)
        · have hR := hR.1 c_2
          refine lv_lload_n hx hb dX12_incidenceOf_58 rfl (lv_at hl 3 rfl) ?_
          exact x_lret (w1 := (fun u : XT => (wM cI cJ cB cZ bd u))) t B h hr hR dX12_incidenceOf_59
        · have hR := hR.2 c_2
          refine lv_lload_n hx hb dX12_incidenceOf_19 rfl (lv_at hl 3 rfl) ?_
          refine lv_aload_n hx hb dX12_incidenceOf_20 rfl (lv_at hl 0 rfl) ?_
          refine lv_iload hx hb dX12_incidenceOf_21 (lv_at hl 4 rfl) ?_
          refine lv_iload_n hx hb dX12_incidenceOf_23 rfl (lv_at hl 1 rfl) ?_
          refine x_cVIF (n := 2) (As := [.int (li 5), .int (li 1)]) (rest := [.long (lj 3)]) B h (wkX12_isFaceThere l D cI cJ cB cZ bd k t (li 5) (li 1) _ hR) ⟨⟨_, rfl⟩, by decide +kernel, Nat.le_of_ble_eq_true rfl, Nat.le_of_ble_eq_true rfl⟩ gX12_incidenceOf_X12_isFaceThere (show ((wM cI cJ cB cZ bd t) : va_W)[0]? = some (_, .inr (12, _)) from rfl) rfl rfl hl.1 rfl (Nat.le_of_ble_eq_true rfl) dX12_incidenceOf_24 ⟨Nat.le_of_ble_eq_true rfl, Nat.le_of_ble_eq_true rfl⟩ (fun r_3 t_3 H locs hR h => ?_)
          refine lv_if_eq (tgt := 49) hx hb dX12_incidenceOf_27 (by decide) (fun c_4 => ?_) (fun c_4 => ?_)
          · have hR := hR.1 c_4
            refine lv_lconst (v := 0) hx hb dX12_incidenceOf_49 (by decide) ?_
            exact ih.2.2 t_3 li (uI (uI lj 101 0) 100 (lj 3)) H locs ls hR (lv_sub hl [0, 1, 2, 3, 4] rfl) h
          · have hR := hR.2 c_4
            refine lv_aload_n hx hb dX12_incidenceOf_30 rfl (lv_at hl 0 rfl) ?_
            refine lv_iload hx hb dX12_incidenceOf_31 (lv_at hl 4 rfl) ?_
            refine lv_iload_n hx hb dX12_incidenceOf_33 rfl (lv_at hl 1 rfl) ?_
            refine x_cVIF (n := 2) (As := [.int (li 5), .int (li 1)]) (rest := [.long (lj 3)]) B h (wkX12_signOf l D cI cJ cB cZ bd k t_3 (li 5) (li 1) _ hR) ⟨⟨_, rfl⟩, by decide +kernel, Nat.le_of_ble_eq_true rfl, Nat.le_of_ble_eq_true rfl⟩ gX12_incidenceOf_X12_signOf (show ((wM cI cJ cB cZ bd t_3) : va_W)[0]? = some (_, .inr (12, _)) from rfl) rfl rfl hl.1 rfl (Nat.le_of_ble_eq_true rfl) dX12_incidenceOf_34 ⟨Nat.le_of_ble_eq_true rfl, Nat.le_of_ble_eq_true rfl⟩ (fun r_5 t_5 H locs hR h => ?_)
            obtain ⟨v_6, ev_6⟩ : ∃ v : Int64, v = r_5.toInt64 := ⟨_, rfl⟩
            have hR := hR v_6 ev_6
            refine lv_i2l (v := v_6) hx hb dX12_incidenceOf_37 ev_6.symm ?_
            refine lv_aload_n hx hb dX12_incidenceOf_38 rfl (lv_at hl 0 rfl) ?_
            refine x_get (ci := 12) (C := RX12) (T := TX12) (N := 31) (v := .ref (bd 12)) B h hin12 0 16 rfl rfl (by decide) (by decide +kernel) rfl dX12_incidenceOf_39 ?_
            refine lv_iload hx hb dX12_incidenceOf_42 (lv_at hl 4 rfl) ?_
            obtain ⟨hb_7, hR⟩ := hR
            refine va_lald (f := (t_5.2.2.2 1)) hx hb B.2.1 h.1 12 1 rfl rfl hb_7 dX12_incidenceOf_44 ?_
            refine lv_topl (fun v_7 ev_7 => ?_)
            have hR := hR v_7 ev_7
            refine lv_lmul hx hb dX12_incidenceOf_45 ?_
            refine lv_topl (fun v_8 ev_8 => ?_)
            have hR := hR v_8 ev_8
            refine lv_goto (tgt := 50) hx hb dX12_incidenceOf_46 (by decide) ?_
            exact ih.2.2 t_5 li (uI (uI lj 101 v_8) 100 (lj 3)) H locs ls hR (lv_sub hl [0, 1, 2, 3, 4] rfl) h
      · intro t li lj H locs ls hR hl h
        have hR : wbX12_incidenceOf_2 (wpX12_incidenceOf k) k t li lj Q := hR
        unfold wbX12_incidenceOf_2 at hR
        refine lv_ladd hx hb dX12_incidenceOf_50 ?_
        refine lv_topl (fun v_9 ev_9 => ?_)
        have hR := hR v_9 ev_9
        refine lv_lstore_n (lv' := [(3, .long v_9), (0, .ref (bd 0)), (1, .int (li 1)), (2, .int (li 2)), (5, .int (li 5))]) hx hb dX12_incidenceOf_51 rfl hl (by decide) rfl (fun ls hl => ?_)
        obtain ⟨v_10, ev_10⟩ : ∃ v : Int32, v = (li 5) + Int32.ofInt 1 := ⟨_, rfl⟩
        have hR := hR v_10 ev_10
        refine lv_iinc (v := v_10) (lv' := [(5, .int v_10), (3, .long v_9), (0, .ref (bd 0)), (1, .int (li 1)), (2, .int (li 2))]) hx hb dX12_incidenceOf_52 hl (k := 4) rfl ev_10.symm (by decide) rfl (fun ls hl => ?_)
        refine lv_goto (tgt := 10) hx hb dX12_incidenceOf_55 (by decide) ?_
        exact ih.2.1 t (uI li 5 v_10) (uI lj 3 v_9) H locs ls hR (lv_sub hl [2, 3, 4, 1, 0] rfl) h
  exact (main k).1 t _ _ s.heap [] ls hR hl h
set_option maxRecDepth 20000 in
theorem ggX12_incidence_X12_areEnds : GoodIn wsX12_incidence wsX12_areEnds := goodIn_r _ [6, 7, 8, 9, 5, 10, 11, 12, 13, 14, 15, 16, 17, 18, 19, 20, 21, 22, 23, 24, 25, 26, 27, 28, 29, 30, 31, 32, 33, 34, 35, 36, 71, 72, 73, 74, 75, 76, 77, 78, 79, 80, 81, 82, 83, 84, 85, 86, 87, 88, 89, 90, 91, 92, 93, 94, 95, 96, 97, 98, 99, 100, 101] (by decide +kernel) (by decide +kernel)
set_option maxRecDepth 20000 in
theorem gX12_incidence_X12_areEnds : GoodIn wsX12_incidence (wsV RX12 229 RX12 yX12_areEnds wsX12_areEnds) := goodIn_app (goodIn_of _ (by decide +kernel)) ggX12_incidence_X12_areEnds
set_option maxRecDepth 20000 in
theorem ggX12_incidence_X12_incidenceOf : GoodIn wsX12_incidence wsX12_incidenceOf := goodIn_r _ [40, 21, 41, 42, 43, 44, 5, 45, 46, 47, 12, 13, 14, 15, 16, 17, 18, 19, 20, 22, 23, 24, 48, 49, 50, 51, 11, 25, 26, 27, 28, 29, 30, 31, 32, 33, 34, 35, 36, 52, 53, 54, 55, 56, 57, 58, 59, 60, 61, 62, 63, 64, 65, 66, 67, 68, 69, 70, 71, 72, 73, 74, 75, 76, 77, 78, 79, 80, 81, 82, 83, 84, 85, 86, 87, 88, 89, 90, 91, 92, 93, 94, 95, 96, 97, 98, 99, 100, 101] (by decide +kernel) (by decide +kernel)
set_option maxRecDepth 20000 in
theorem gX12_incidence_X12_incidenceOf : GoodIn wsX12_incidence (wsV RX12 238 RX12 yX12_incidenceOf wsX12_incidenceOf) := goodIn_app (goodIn_of _ (by decide +kernel)) ggX12_incidence_X12_incidenceOf
def wbX12_incidence_0 (rec : Nat → XT → (Nat → Int32) → (Nat → Int64) → (Int64 → XT → Prop) → Prop) (k : Nat) (t : XT) (li : Nat → Int32) (lj : Nat → Int64) (Q : Int64 → XT → Prop) : Prop :=
  (wqX12_areEnds k t (li 1) (li 2) (fun r_1 t_1 => ((r_1 = 0) → Q (-9223372036854775808) t_1) ∧ (¬ (r_1 = 0) → (wqX12_incidenceOf k t_1 (li 1) (li 2) (fun r_3 t_3 => Q r_3 t_3)))))
def wpX12_incidence : Nat → Nat → XT → (Nat → Int32) → (Nat → Int64) → (Int64 → XT → Prop) → Prop
  | 0, _, _, _, _, _ => False
  | k + 1, 0, t, li, lj, Q => wbX12_incidence_0 (wpX12_incidence k) k t li lj Q
  | _ + 1, _, _, _, _, _ => False
def wqX12_incidence (k : Nat) (t : XT) (a1 : Int32) (a2 : Int32) (Q : Int64 → XT → Prop) : Prop := wpX12_incidence k 0 t (uI (uI (fun _ => 0) 1 a1) 2 a2) (fun _ => 0) Q
set_option maxHeartbeats 8000000 in
set_option maxRecDepth 100000 in
theorem wkX12_incidence (l : Launch) (D : va_G) (cI cJ cB cZ : ClassId) (bd : Nat → Nat) (k : Nat) (t : XT) (a1 : Int32) (a2 : Int32) (Q : Int64 → XT → Prop) (hR : wqX12_incidence k t a1 a2 Q) : MetL l yX12_incidence wsX12_incidence 7 160 0 0 D (TYS cI cJ cB cZ) (wM cI cJ cB cZ bd t) [.ref (bd 0), .int a1, .int a2] (fun r u => Q r u) (fun u : XT => (wM cI cJ cB cZ bd u)) := by
  refine x_startL (ty := .long) (cc := cX12_incidence) (by decide) rfl (Nat.le_of_ble_eq_true rfl) ?_
  intro p e s m args below meth c A ls B hr hnm h hl
  have hx := B.1.1
  have hb := B.1.2.1
  have hml := B.1.2.2.1
  have hts := B.1.2.2.2.2
  have hown : s.vm.findClass RX12 = some m.cls := B.1.2.2.2.1
  have main : ∀ k : Nat, (∀ (t : XT) (li : Nat → Int32) (lj : Nat → Int64) (H : Heap) (locs : List Loc) (ls : Array Slot), wpX12_incidence k 0 t li lj Q → lv_has ls 3 [(0, .ref (bd 0)), (1, .int (li 1)), (2, .int (li 2))] → Hp D A s.heap (wM cI cJ cB cZ bd t) H locs → W p l e { frames := 7, cells := 0, slots := 0, locals := 160 } s m args below meth c H locs 0 0 (MQ below (va_Ql (fun r u => Q r u) (fun u t => xEnd D ((fun u : XT => (wM cI cJ cB cZ bd u)) u) A t) A) args s 0 0 A) (F0 m 0 ls [])) := by
    intro k
    induction k with
    | zero => exact fun _ _ _ _ _ _ hR => False.elim hR
    | succ k ih =>
      intro t li lj H locs ls hR hl h
      have hR : wbX12_incidence_0 (wpX12_incidence k) k t li lj Q := hR
      unfold wbX12_incidence_0 at hR
      refine lv_aload_n hx hb dX12_incidence_0 rfl (lv_at hl 0 rfl) ?_
      refine lv_iload_n hx hb dX12_incidence_1 rfl (lv_at hl 1 rfl) ?_
      refine lv_iload_n hx hb dX12_incidence_2 rfl (lv_at hl 2 rfl) ?_
      refine x_cVIF (n := 2) (As := [.int (li 1), .int (li 2)]) (rest := []) B h (wkX12_areEnds l D cI cJ cB cZ bd k t (li 1) (li 2) _ hR) ⟨⟨_, rfl⟩, by decide +kernel, Nat.le_of_ble_eq_true rfl, Nat.le_of_ble_eq_true rfl⟩ gX12_incidence_X12_areEnds (show ((wM cI cJ cB cZ bd t) : va_W)[0]? = some (_, .inr (12, _)) from rfl) rfl rfl hl.1 rfl (Nat.le_of_ble_eq_true rfl) dX12_incidence_3 ⟨Nat.le_of_ble_eq_true rfl, Nat.le_of_ble_eq_true rfl⟩ (fun r_1 t_1 H locs hR h => ?_)
      refine lv_if_eq (tgt := 18) hx hb dX12_incidence_6 (by decide) (fun c_2 => ?_) (fun c_2 => ?_)
      · have hR := hR.1 c_2
        refine lv_ldc2 (v := (-9223372036854775808)) hx hb hown (hts (.constantLong RX12 241 (-9223372036854775808)) (by decide +kernel)) dX12_incidence_18 ?_
        exact x_lret (w1 := (fun u : XT => (wM cI cJ cB cZ bd u))) t_1 B h hr hR dX12_incidence_21
      · have hR := hR.2 c_2
        refine lv_aload_n hx hb dX12_incidence_9 rfl (lv_at hl 0 rfl) ?_
        refine lv_iload_n hx hb dX12_incidence_10 rfl (lv_at hl 1 rfl) ?_
        refine lv_iload_n hx hb dX12_incidence_11 rfl (lv_at hl 2 rfl) ?_
        refine x_cVLF (n := 2) (As := [.int (li 1), .int (li 2)]) (rest := []) B h (wkX12_incidenceOf l D cI cJ cB cZ bd k t_1 (li 1) (li 2) _ hR) ⟨⟨_, rfl⟩, by decide +kernel, Nat.le_of_ble_eq_true rfl, Nat.le_of_ble_eq_true rfl⟩ gX12_incidence_X12_incidenceOf (show ((wM cI cJ cB cZ bd t_1) : va_W)[0]? = some (_, .inr (12, _)) from rfl) rfl rfl hl.1 rfl (Nat.le_of_ble_eq_true rfl) dX12_incidence_12 ⟨Nat.le_of_ble_eq_true rfl, Nat.le_of_ble_eq_true rfl⟩ (fun r_3 t_3 H locs hR h => ?_)
        refine lv_goto (tgt := 21) hx hb dX12_incidence_15 (by decide) ?_
        exact x_lret (w1 := (fun u : XT => (wM cI cJ cB cZ bd u))) t_3 B h hr hR dX12_incidence_21
  exact (main k) t _ _ s.heap [] ls hR hl h
set_option maxRecDepth 20000 in
theorem ggX12_laysLink_X12_isFaceThere : GoodIn wsX12_laysLink wsX12_isFaceThere := goodIn_r _ [9, 10, 11, 12, 13, 8, 14, 15, 16, 17, 18, 19, 20, 21, 22, 23, 24, 25, 26, 31, 32, 33, 34, 35, 36, 37, 38, 39, 40, 41, 42, 43, 44, 45, 46, 47, 48, 49, 50, 51, 52, 53, 54, 55, 56, 57, 58, 59, 60, 61] (by decide +kernel) (by decide +kernel)
set_option maxRecDepth 20000 in
theorem gX12_laysLink_X12_isFaceThere : GoodIn wsX12_laysLink (wsV RX12 162 RX12 yX12_isFaceThere wsX12_isFaceThere) := goodIn_app (goodIn_of _ (by decide +kernel)) ggX12_laysLink_X12_isFaceThere
set_option maxRecDepth 20000 in
theorem ggX12_laysLink_X12_signOf : GoodIn wsX12_laysLink wsX12_signOf := goodIn_r _ [30, 15, 20, 21, 22, 23, 24, 25, 26, 31, 32, 33, 34, 35, 36, 37, 38, 39, 40, 41, 42, 43, 44, 45, 46, 47, 48, 49, 50, 51, 52, 53, 54, 55, 56, 57, 58, 59, 60, 61] (by decide +kernel) (by decide +kernel)
set_option maxRecDepth 20000 in
theorem gX12_laysLink_X12_signOf : GoodIn wsX12_laysLink (wsV RX12 166 RX12 yX12_signOf wsX12_signOf) := goodIn_app (goodIn_of _ (by decide +kernel)) ggX12_laysLink_X12_signOf
def wbX12_laysLink_0 (rec : Nat → XT → (Nat → Int32) → (Nat → Int64) → (Int32 → XT → Prop) → Prop) (k : Nat) (t : XT) (li : Nat → Int32) (lj : Nat → Int64) (Q : Int32 → XT → Prop) : Prop :=
  (vp_in (li 1) 60 ∧ (∀ v_1 : Int32, v_1 = (t.2.2.1 4) (li 1).toNatClampNeg → rec 1 t (uI (uI li 2 v_1) 5 0) (uI lj 3 0) Q))
def wbX12_laysLink_1 (rec : Nat → XT → (Nat → Int32) → (Nat → Int64) → (Int32 → XT → Prop) → Prop) (k : Nat) (t : XT) (li : Nat → Int32) (lj : Nat → Int64) (Q : Int32 → XT → Prop) : Prop :=
  ((((t.1 3) : Int32) ≤ (li 5)) → (wqX12_signOf k t (li 2) (li 1) (fun r_3 t_3 => (∀ v_4 : Int32, v_4 = (-r_3) → (∀ v_5 : Int64, v_5 = v_4.toInt64 → (∀ v_6 : Int64, v_6 = (v_5 * (lj 3)) → (vp_in (li 1) 60 ∧ (∀ t_7 : XT, t_7 = sB t_3 3 (vp_updL (t_3.2.2.2 3) (li 1).toNatClampNeg v_6) → Q 1 t_7)))))))) ∧ (¬ (((t.1 3) : Int32) ≤ (li 5)) → (((li 5) = (li 1)) → rec 2 t li lj Q) ∧ (¬ ((li 5) = (li 1)) → (wqX12_isFaceThere k t (li 2) (li 5) (fun r_9 t_9 => ((¬ r_9 = 0) → (vp_in (li 5) 60 ∧ (∀ v_11 : Int64, v_11 = (t_9.2.2.2 3) (li 5).toNatClampNeg → (∀ v_12 : Int32, v_12 = (lg_cmp v_11 (-9223372036854775807)) → ((¬ v_12 = 0) → (wqX12_signOf k t_9 (li 2) (li 5) (fun r_14 t_14 => (∀ v_15 : Int64, v_15 = r_14.toInt64 → (vp_in (li 5) 60 ∧ (∀ v_16 : Int64, v_16 = (t_14.2.2.2 3) (li 5).toNatClampNeg → (∀ v_17 : Int64, v_17 = (v_15 * v_16) → (∀ v_18 : Int64, v_18 = ((lj 3) + v_17) → rec 2 t_14 li (uI lj 3 v_18) Q)))))))) ∧ ((v_12 = 0) → Q 0 t_9))))) ∧ ((r_9 = 0) → rec 2 t_9 li lj Q)))))
def wbX12_laysLink_2 (rec : Nat → XT → (Nat → Int32) → (Nat → Int64) → (Int32 → XT → Prop) → Prop) (k : Nat) (t : XT) (li : Nat → Int32) (lj : Nat → Int64) (Q : Int32 → XT → Prop) : Prop :=
  (∀ v_19 : Int32, v_19 = (li 5) + Int32.ofInt 1 → rec 1 t (uI li 5 v_19) lj Q)
def wpX12_laysLink : Nat → Nat → XT → (Nat → Int32) → (Nat → Int64) → (Int32 → XT → Prop) → Prop
  | 0, _, _, _, _, _ => False
  | k + 1, 0, t, li, lj, Q => wbX12_laysLink_0 (wpX12_laysLink k) k t li lj Q
  | k + 1, 1, t, li, lj, Q => wbX12_laysLink_1 (wpX12_laysLink k) k t li lj Q
  | k + 1, 2, t, li, lj, Q => wbX12_laysLink_2 (wpX12_laysLink k) k t li lj Q
  | _ + 1, _, _, _, _, _ => False
def wqX12_laysLink (k : Nat) (t : XT) (a1 : Int32) (Q : Int32 → XT → Prop) : Prop := wpX12_laysLink k 0 t (uI (fun _ => 0) 1 a1) (fun _ => 0) Q
set_option maxHeartbeats 8000000 in
set_option maxRecDepth 100000 in
theorem wkX12_laysLink (l : Launch) (D : va_G) (cI cJ cB cZ : ClassId) (bd : Nat → Nat) (k : Nat) (t : XT) (a1 : Int32) (Q : Int32 → XT → Prop) (hR : wqX12_laysLink k t a1 Q) : MetI l yX12_laysLink wsX12_laysLink 4 85 0 0 D (TYS cI cJ cB cZ) (wM cI cJ cB cZ bd t) [.ref (bd 0), .int a1] (fun r u => Q r u) (fun u : XT => (wM cI cJ cB cZ bd u)) := by
  refine x_startI (ty := .boolean) (cc := cX12_laysLink) (by decide) rfl (Nat.le_of_ble_eq_true rfl) ?_
  intro p e s m args below meth c A ls B hr hnm h hl
  have hx := B.1.1
  have hb := B.1.2.1
  have hml := B.1.2.2.1
  have hts := B.1.2.2.2.2
  have hown : s.vm.findClass RX12 = some m.cls := B.1.2.2.2.1
  have hin12 : ∀ w ∈ u_ws RX12 TX12 31, w ∈ wsX12_laysLink := by decide +kernel
  have main : ∀ k : Nat, (∀ (t : XT) (li : Nat → Int32) (lj : Nat → Int64) (H : Heap) (locs : List Loc) (ls : Array Slot), wpX12_laysLink k 0 t li lj Q → lv_has ls 6 [(0, .ref (bd 0)), (1, .int (li 1))] → Hp D A s.heap (wM cI cJ cB cZ bd t) H locs → W p l e { frames := 4, cells := 0, slots := 0, locals := 85 } s m args below meth c H locs 0 0 (MQ below (va_Qi (fun r u => Q r u) (fun u t => xEnd D ((fun u : XT => (wM cI cJ cB cZ bd u)) u) A t) A) args s 0 0 A) (F0 m 0 ls [])) ∧
      (∀ (t : XT) (li : Nat → Int32) (lj : Nat → Int64) (H : Heap) (locs : List Loc) (ls : Array Slot), wpX12_laysLink k 1 t li lj Q → lv_has ls 6 [(0, .ref (bd 0)), (1, .int (li 1)), (2, .int (li 2)), (3, .long (lj 3)), (5, .int (li 5))] → Hp D A s.heap (wM cI cJ cB cZ bd t) H locs → W p l e { frames := 4, cells := 0, slots := 0, locals := 85 } s m args below meth c H locs 0 0 (MQ below (va_Qi (fun r u => Q r u) (fun u t => xEnd D ((fun u : XT => (wM cI cJ cB cZ bd u)) u) A t) A) args s 0 0 A) (F0 m 12 ls [])) ∧
      (∀ (t : XT) (li : Nat → Int32) (lj : Nat → Int64) (H : Heap) (locs : List Loc) (ls : Array Slot), wpX12_laysLink k 2 t li lj Q → lv_has ls 6 [(0, .ref (bd 0)), (1, .int (li 1)), (2, .int (li 2)), (3, .long (lj 3)), (5, .int (li 5))] → Hp D A s.heap (wM cI cJ cB cZ bd t) H locs → W p l e { frames := 4, cells := 0, slots := 0, locals := 85 } s m args below meth c H locs 0 0 (MQ below (va_Qi (fun r u => Q r u) (fun u t => xEnd D ((fun u : XT => (wM cI cJ cB cZ bd u)) u) A t) A) args s 0 0 A) (F0 m 75 ls [])) := by
    intro k
    induction k with
    | zero => exact ⟨fun _ _ _ _ _ _ hR => False.elim hR, fun _ _ _ _ _ _ hR => False.elim hR, fun _ _ _ _ _ _ hR => False.elim hR⟩
    | succ k ih =>
      refine ⟨?_, ?_, ?_⟩
      · intro t li lj H locs ls hR hl h
        have hR : wbX12_laysLink_0 (wpX12_laysLink k) k t li lj Q := hR
        unfold wbX12_laysLink_0 at hR
        refine lv_aload_n hx hb dX12_laysLink_0 rfl (lv_at hl 0 rfl) ?_
        refine x_get (ci := 12) (C := RX12) (T := TX12) (N := 31) (v := .ref (bd 5)) B h hin12 0 8 rfl rfl (by decide) (by decide +kernel) rfl dX12_laysLink_1 ?_
        refine lv_iload_n hx hb dX12_laysLink_4 rfl (lv_at hl 1 rfl) ?_
        obtain ⟨hb_1, hR⟩ := hR
        refine va_iald (f := (t.2.2.1 4)) hx hb B.2.1 h.1 5 0 rfl rfl hb_1 dX12_laysLink_5 ?_
        refine lv_topi (fun v_1 ev_1 => ?_)
        have hR := hR v_1 ev_1
        refine lv_istore_n (lv' := [(2, .int v_1), (0, .ref (bd 0)), (1, .int (li 1))]) hx hb dX12_laysLink_6 rfl hl (by decide) rfl (fun ls hl => ?_)
        refine lv_lconst (v := 0) hx hb dX12_laysLink_7 (by decide) ?_
        refine lv_lstore_n (lv' := [(3, .long 0), (2, .int v_1), (0, .ref (bd 0)), (1, .int (li 1))]) hx hb dX12_laysLink_8 rfl hl (by decide) rfl (fun ls hl => ?_)
        refine lv_iconst (v := 0) hx hb dX12_laysLink_9 (by decide) ?_
        refine lv_istore (lv' := [(5, .int 0), (3, .long 0), (2, .int v_1), (0, .ref (bd 0)), (1, .int (li 1))]) hx hb dX12_laysLink_10 hl (by decide) rfl (fun ls hl => ?_)
        exact ih.2.1 t (uI (uI li 2 v_1) 5 0) (uI lj 3 0) H locs ls hR (lv_sub hl [3, 4, 2, 1, 0] rfl) h
      · intro t li lj H locs ls hR hl h
        have hR : wbX12_laysLink_1 (wpX12_laysLink k) k t li lj Q := hR
        unfold wbX12_laysLink_1 at hR
        refine lv_iload hx hb dX12_laysLink_12 (lv_at hl 4 rfl) ?_
        refine lv_aload_n hx hb dX12_laysLink_14 rfl (lv_at hl 0 rfl) ?_
        refine x_get (ci := 12) (C := RX12) (T := TX12) (N := 31) (v := .int (t.1 3)) B h hin12 0 5 rfl rfl (by decide) (by decide +kernel) rfl dX12_laysLink_15 ?_
        refine lv_icmp_ge (tgt := 81) hx hb dX12_laysLink_18 (by decide) (fun c_2 => ?_) (fun c_2 => ?_)
        · have hR := hR.1 c_2
          refine lv_aload_n hx hb dX12_laysLink_81 rfl (lv_at hl 0 rfl) ?_
          refine x_get (ci := 12) (C := RX12) (T := TX12) (N := 31) (v := .ref (bd 15)) B h hin12 0 20 rfl rfl (by decide) (by decide +kernel) rfl dX12_laysLink_82 ?_
          refine lv_iload_n hx hb dX12_laysLink_85 rfl (lv_at hl 1 rfl) ?_
          refine lv_aload_n hx hb dX12_laysLink_86 rfl (lv_at hl 0 rfl) ?_
          refine lv_iload_n hx hb dX12_laysLink_87 rfl (lv_at hl 2 rfl) ?_
          refine lv_iload_n hx hb dX12_laysLink_88 rfl (lv_at hl 1 rfl) ?_
          refine x_cVIF (n := 2) (As := [.int (li 2), .int (li 1)]) (rest := [.int (li 1), .ref (bd 15)]) B h (wkX12_signOf l D cI cJ cB cZ bd k t (li 2) (li 1) _ hR) ⟨⟨_, rfl⟩, by decide +kernel, Nat.le_of_ble_eq_true rfl, Nat.le_of_ble_eq_true rfl⟩ gX12_laysLink_X12_signOf (show ((wM cI cJ cB cZ bd t) : va_W)[0]? = some (_, .inr (12, _)) from rfl) rfl rfl hl.1 rfl (Nat.le_of_ble_eq_true rfl) dX12_laysLink_89 ⟨Nat.le_of_ble_eq_true rfl, Nat.le_of_ble_eq_true rfl⟩ (fun r_3 t_3 H locs hR h => ?_)
          refine lv_ineg hx hb dX12_laysLink_92 ?_
          refine lv_topi (fun v_4 ev_4 => ?_)
          have hR := hR v_4 ev_4
          obtain ⟨v_5, ev_5⟩ : ∃ v : Int64, v = v_4.toInt64 := ⟨_, rfl⟩
          have hR := hR v_5 ev_5
          refine lv_i2l (v := v_5) hx hb dX12_laysLink_93 ev_5.symm ?_
          refine lv_lload_n hx hb dX12_laysLink_94 rfl (lv_at hl 3 rfl) ?_
          refine lv_lmul hx hb dX12_laysLink_95 ?_
          refine lv_topl (fun v_6 ev_6 => ?_)
          have hR := hR v_6 ev_6
          obtain ⟨hb_7, hR⟩ := hR
          refine z_last (f := (t_3.2.2.2 3)) B h 15 1 rfl rfl hb_7 dX12_laysLink_96 (fun H locs h => ?_)
          obtain ⟨t_7, et_7⟩ : ∃ v : XT, v = sB t_3 3 (vp_updL (t_3.2.2.2 3) (li 1).toNatClampNeg v_6) := ⟨_, rfl⟩
          have hR := hR t_7 et_7
          have h : Hp D A s.heap (wM cI cJ cB cZ bd t_7) H locs := by rw [et_7]; exact h
          refine lv_iconst (v := 1) hx hb dX12_laysLink_97 (by decide) ?_
          exact x_iret (w1 := (fun u : XT => (wM cI cJ cB cZ bd u))) t_7 B h hr rfl hR dX12_laysLink_98
        · have hR := hR.2 c_2
          refine lv_iload hx hb dX12_laysLink_21 (lv_at hl 4 rfl) ?_
          refine lv_iload_n hx hb dX12_laysLink_23 rfl (lv_at hl 1 rfl) ?_
          refine lv_icmp_eq (tgt := 75) hx hb dX12_laysLink_24 (by decide) (fun c_8 => ?_) (fun c_8 => ?_)
          · have hR := hR.1 c_8
            exact ih.2.2 t li lj H locs ls hR (lv_sub hl [0, 1, 2, 3, 4] rfl) h
          · have hR := hR.2 c_8
            refine lv_aload_n hx hb dX12_laysLink_27 rfl (lv_at hl 0 rfl) ?_
            refine lv_iload_n hx hb dX12_laysLink_28 rfl (lv_at hl 2 rfl) ?_
            refine lv_iload hx hb dX12_laysLink_29 (lv_at hl 4 rfl) ?_
            refine x_cVIF (n := 2) (As := [.int (li 2), .int (li 5)]) (rest := []) B h (wkX12_isFaceThere l D cI cJ cB cZ bd k t (li 2) (li 5) _ hR) ⟨⟨_, rfl⟩, by decide +kernel, Nat.le_of_ble_eq_true rfl, Nat.le_of_ble_eq_true rfl⟩ gX12_laysLink_X12_isFaceThere (show ((wM cI cJ cB cZ bd t) : va_W)[0]? = some (_, .inr (12, _)) from rfl) rfl rfl hl.1 rfl (Nat.le_of_ble_eq_true rfl) dX12_laysLink_31 ⟨Nat.le_of_ble_eq_true rfl, Nat.le_of_ble_eq_true rfl⟩ (fun r_9 t_9 H locs hR h => ?_)
            refine lv_if_ne (tgt := 40) hx hb dX12_laysLink_34 (by decide) (fun c_10 => ?_) (fun c_10 => ?_)
            · have hR := hR.1 c_10
              refine lv_aload_n hx hb dX12_laysLink_40 rfl (lv_at hl 0 rfl) ?_
              refine x_get (ci := 12) (C := RX12) (T := TX12) (N := 31) (v := .ref (bd 15)) B h hin12 0 20 rfl rfl (by decide) (by decide +kernel) rfl dX12_laysLink_41 ?_
              refine lv_iload hx hb dX12_laysLink_44 (lv_at hl 4 rfl) ?_
              obtain ⟨hb_11, hR⟩ := hR
              refine va_lald (f := (t_9.2.2.2 3)) hx hb B.2.1 h.1 15 1 rfl rfl hb_11 dX12_laysLink_46 ?_
              refine lv_topl (fun v_11 ev_11 => ?_)
              have hR := hR v_11 ev_11
              refine lv_ldc2 (v := (-9223372036854775807)) hx hb hown (hts (.constantLong RX12 221 (-9223372036854775807)) (by decide +kernel)) dX12_laysLink_47 ?_
              refine W.lcmp hx hb dX12_laysLink_50 ?_
              refine lv_topi (fun v_12 ev_12 => ?_)
              have hR := hR v_12 ev_12
              refine lv_if_ne (tgt := 56) hx hb dX12_laysLink_51 (by decide) (fun c_13 => ?_) (fun c_13 => ?_)
              · have hR := hR.1 c_13
                refine lv_lload_n hx hb dX12_laysLink_56 rfl (lv_at hl 3 rfl) ?_
                refine lv_aload_n hx hb dX12_laysLink_57 rfl (lv_at hl 0 rfl) ?_
                refine lv_iload_n hx hb dX12_laysLink_58 rfl (lv_at hl 2 rfl) ?_
                refine lv_iload hx hb dX12_laysLink_59 (lv_at hl 4 rfl) ?_
                refine x_cVIF (n := 2) (As := [.int (li 2), .int (li 5)]) (rest := [.long (lj 3)]) B h (wkX12_signOf l D cI cJ cB cZ bd k t_9 (li 2) (li 5) _ hR) ⟨⟨_, rfl⟩, by decide +kernel, Nat.le_of_ble_eq_true rfl, Nat.le_of_ble_eq_true rfl⟩ gX12_laysLink_X12_signOf (show ((wM cI cJ cB cZ bd t_9) : va_W)[0]? = some (_, .inr (12, _)) from rfl) rfl rfl hl.1 rfl (Nat.le_of_ble_eq_true rfl) dX12_laysLink_61 ⟨Nat.le_of_ble_eq_true rfl, Nat.le_of_ble_eq_true rfl⟩ (fun r_14 t_14 H locs hR h => ?_)
                obtain ⟨v_15, ev_15⟩ : ∃ v : Int64, v = r_14.toInt64 := ⟨_, rfl⟩
                have hR := hR v_15 ev_15
                refine lv_i2l (v := v_15) hx hb dX12_laysLink_64 ev_15.symm ?_
                refine lv_aload_n hx hb dX12_laysLink_65 rfl (lv_at hl 0 rfl) ?_
                refine x_get (ci := 12) (C := RX12) (T := TX12) (N := 31) (v := .ref (bd 15)) B h hin12 0 20 rfl rfl (by decide) (by decide +kernel) rfl dX12_laysLink_66 ?_
                refine lv_iload hx hb dX12_laysLink_69 (lv_at hl 4 rfl) ?_
                obtain ⟨hb_16, hR⟩ := hR
                refine va_lald (f := (t_14.2.2.2 3)) hx hb B.2.1 h.1 15 1 rfl rfl hb_16 dX12_laysLink_71 ?_
                refine lv_topl (fun v_16 ev_16 => ?_)
                have hR := hR v_16 ev_16
                refine lv_lmul hx hb dX12_laysLink_72 ?_
                refine lv_topl (fun v_17 ev_17 => ?_)
                have hR := hR v_17 ev_17
                refine lv_ladd hx hb dX12_laysLink_73 ?_
                refine lv_topl (fun v_18 ev_18 => ?_)
                have hR := hR v_18 ev_18
                refine lv_lstore_n (lv' := [(3, .long v_18), (0, .ref (bd 0)), (1, .int (li 1)), (2, .int (li 2)), (5, .int (li 5))]) hx hb dX12_laysLink_74 rfl hl (by decide) rfl (fun ls hl => ?_)
                exact ih.2.2 t_14 li (uI lj 3 v_18) H locs ls hR (lv_sub hl [1, 2, 3, 0, 4] rfl) h
              · have hR := hR.2 c_13
                refine lv_iconst (v := 0) hx hb dX12_laysLink_54 (by decide) ?_
                exact x_iret (w1 := (fun u : XT => (wM cI cJ cB cZ bd u))) t_9 B h hr rfl hR dX12_laysLink_55
            · have hR := hR.2 c_10
              refine lv_goto (tgt := 75) hx hb dX12_laysLink_37 (by decide) ?_
              exact ih.2.2 t_9 li lj H locs ls hR (lv_sub hl [0, 1, 2, 3, 4] rfl) h
      · intro t li lj H locs ls hR hl h
        have hR : wbX12_laysLink_2 (wpX12_laysLink k) k t li lj Q := hR
        unfold wbX12_laysLink_2 at hR
        obtain ⟨v_19, ev_19⟩ : ∃ v : Int32, v = (li 5) + Int32.ofInt 1 := ⟨_, rfl⟩
        have hR := hR v_19 ev_19
        refine lv_iinc (v := v_19) (lv' := [(5, .int v_19), (0, .ref (bd 0)), (1, .int (li 1)), (2, .int (li 2)), (3, .long (lj 3))]) hx hb dX12_laysLink_75 hl (k := 4) rfl ev_19.symm (by decide) rfl (fun ls hl => ?_)
        refine lv_goto (tgt := 12) hx hb dX12_laysLink_78 (by decide) ?_
        exact ih.2.1 t (uI li 5 v_19) lj H locs ls hR (lv_sub hl [1, 2, 3, 4, 0] rfl) h
  exact (main k).1 t _ _ s.heap [] ls hR hl h
