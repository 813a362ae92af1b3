set_option maxRecDepth 20000 in
theorem ggX12_isAcyclic_X12_isLower : GoodIn wsX12_isAcyclic wsX12_isLower := goodIn_r _ [7, 8, 32, 33, 34, 35, 36, 37, 38, 39, 40, 41, 42, 43, 44, 45, 46, 47, 48, 49, 50, 51, 52, 53, 54, 55, 56, 57, 58, 59, 60, 61, 62] (by decide +kernel) (by decide +kernel)
set_option maxRecDepth 20000 in
theorem gX12_isAcyclic_X12_isLower : GoodIn wsX12_isAcyclic (wsV RX12 170 RX12 yX12_isLower wsX12_isLower) := goodIn_app (goodIn_of _ (by decide +kernel)) ggX12_isAcyclic_X12_isLower
set_option maxRecDepth 20000 in
theorem ggX12_isAcyclic_X12_truth : GoodIn wsX12_isAcyclic wsX12_truth := goodIn_r _ [11] (by decide +kernel) (by decide +kernel)
set_option maxRecDepth 20000 in
theorem gX12_isAcyclic_X12_truth : GoodIn wsX12_isAcyclic (va_wsS RX12 105 yX12_truth wsX12_truth) := goodIn_app (goodIn_of _ (by decide +kernel)) ggX12_isAcyclic_X12_truth
set_option maxRecDepth 20000 in
theorem ggX12_isAcyclic_X12_leadsOn : GoodIn wsX12_isAcyclic wsX12_leadsOn := goodIn_r _ [15, 1, 2, 8, 16, 17, 18, 6, 19, 20, 21, 22, 23, 24, 25, 26, 27, 28, 29, 30, 31, 32, 33, 34, 35, 36, 37, 38, 39, 40, 41, 42, 43, 44, 45, 46, 47, 48, 49, 50, 51, 52, 53, 54, 55, 56, 57, 58, 59, 60, 61, 62] (by decide +kernel) (by decide +kernel)
set_option maxRecDepth 20000 in
theorem gX12_isAcyclic_X12_leadsOn : GoodIn wsX12_isAcyclic (wsV RX12 179 RX12 yX12_leadsOn wsX12_leadsOn) := goodIn_app (goodIn_of _ (by decide +kernel)) ggX12_isAcyclic_X12_leadsOn
def wbX12_isAcyclic_0 (rec : Nat → XT → (Nat → Int32) → (Nat → Int64) → (Int32 → XT → Prop) → Prop) (k : Nat) (t : XT) (li : Nat → Int32) (lj : Nat → Int64) (Q : Int32 → XT → Prop) : Prop :=
  rec 1 t (uI li 1 0) lj Q
def wbX12_isAcyclic_1 (rec : Nat → XT → (Nat → Int32) → (Nat → Int64) → (Int32 → XT → Prop) → Prop) (k : Nat) (t : XT) (li : Nat → Int32) (lj : Nat → Int64) (Q : Int32 → XT → Prop) : Prop :=
  ((((t.1 3) : Int32) ≤ (li 1)) → rec 2 t (uI li 1 1) lj Q) ∧ (¬ (((t.1 3) : Int32) ≤ (li 1)) → (wqX12_isLower k t (li 1) (fun r_2 t_2 => (wqX12_truth k r_2 (fun r_3 => (vp_in (li 1) 60 ∧ (∀ t_4 : XT, t_4 = sA t_2 7 (upd (t_2.2.2.1 7) (li 1).toNatClampNeg r_3) → (∀ v_5 : Int32, v_5 = (li 1) + Int32.ofInt 1 → rec 1 t_4 (uI li 1 v_5) lj Q))))))))
def wbX12_isAcyclic_2 (rec : Nat → XT → (Nat → Int32) → (Nat → Int64) → (Int32 → XT → Prop) → Prop) (k : Nat) (t : XT) (li : Nat → Int32) (lj : Nat → Int64) (Q : Int32 → XT → Prop) : Prop :=
  (((li 1) = 0) → rec 5 t (uI li 2 0) lj Q) ∧ (¬ ((li 1) = 0) → rec 3 t (uI (uI li 1 0) 2 0) lj Q)
def wbX12_isAcyclic_3 (rec : Nat → XT → (Nat → Int32) → (Nat → Int64) → (Int32 → XT → Prop) → Prop) (k : Nat) (t : XT) (li : Nat → Int32) (lj : Nat → Int64) (Q : Int32 → XT → Prop) : Prop :=
  ((((t.1 3) : Int32) ≤ (li 2)) → rec 2 t li lj Q) ∧ (¬ (((t.1 3) : Int32) ≤ (li 2)) → (vp_in (li 2) 60 ∧ (∀ v_8 : Int32, v_8 = (t.2.2.1 7) (li 2).toNatClampNeg → ((¬ v_8 = 1) → rec 4 t li lj Q) ∧ ((v_8 = 1) → (wqX12_leadsOn k t (li 2) (fun r_10 t_10 => ((¬ r_10 = 0) → rec 4 t_10 li lj Q) ∧ ((r_10 = 0) → (vp_in (li 2) 60 ∧ (∀ t_12 : XT, t_12 = sA t_10 7 (upd (t_10.2.2.1 7) (li 2).toNatClampNeg 0) → rec 4 t_12 (uI li 1 1) lj Q)))))))))
def wbX12_isAcyclic_4 (rec : Nat → XT → (Nat → Int32) → (Nat → Int64) → (Int32 → XT → Prop) → Prop) (k : Nat) (t : XT) (li : Nat → Int32) (lj : Nat → Int64) (Q : Int32 → XT → Prop) : Prop :=
  (∀ v_13 : Int32, v_13 = (li 2) + Int32.ofInt 1 → rec 3 t (uI li 2 v_13) lj Q)
def wbX12_isAcyclic_5 (rec : Nat → XT → (Nat → Int32) → (Nat → Int64) → (Int32 → XT → Prop) → Prop) (k : Nat) (t : XT) (li : Nat → Int32) (lj : Nat → Int64) (Q : Int32 → XT → Prop) : Prop :=
  ((((t.1 3) : Int32) ≤ (li 2)) → Q 1 t) ∧ (¬ (((t.1 3) : Int32) ≤ (li 2)) → (vp_in (li 2) 60 ∧ (∀ v_15 : Int32, v_15 = (t.2.2.1 7) (li 2).toNatClampNeg → ((¬ v_15 = 1) → (∀ v_17 : Int32, v_17 = (li 2) + Int32.ofInt 1 → rec 5 t (uI li 2 v_17) lj Q)) ∧ ((v_15 = 1) → Q 0 t))))
def wpX12_isAcyclic : Nat → Nat → XT → (Nat → Int32) → (Nat → Int64) → (Int32 → XT → Prop) → Prop
  | 0, _, _, _, _, _ => False
  | k + 1, 0, t, li, lj, Q => wbX12_isAcyclic_0 (wpX12_isAcyclic k) k t li lj Q
  | k + 1, 1, t, li, lj, Q => wbX12_isAcyclic_1 (wpX12_isAcyclic k) k t li lj Q
  | k + 1, 2, t, li, lj, Q => wbX12_isAcyclic_2 (wpX12_isAcyclic k) k t li lj Q
  | k + 1, 3, t, li, lj, Q => wbX12_isAcyclic_3 (wpX12_isAcyclic k) k t li lj Q
  | k + 1, 4, t, li, lj, Q => wbX12_isAcyclic_4 (wpX12_isAcyclic k) k t li lj Q
  | k + 1, 5, t, li, lj, Q => wbX12_isAcyclic_5 (wpX12_isAcyclic k) k t li lj Q
  | _ + 1, _, _, _, _, _ => False
def wqX12_isAcyclic (k : Nat) (t : XT)  (Q : Int32 → XT → Prop) : Prop := wpX12_isAcyclic k 0 t (fun _ => 0) (fun _ => 0) Q
set_option maxHeartbeats 8000000 in
set_option maxRecDepth 100000 in
theorem wkX12_isAcyclic (l : Launch) (D : va_G) (cI cJ cB cZ : ClassId) (bd : Nat → Nat) (k : Nat) (t : XT)  (Q : Int32 → XT → Prop) (hR : wqX12_isAcyclic k t  Q) : MetI l yX12_isAcyclic wsX12_isAcyclic 4 85 0 0 D (TYS cI cJ cB cZ) (wM cI cJ cB cZ bd t) [.ref (bd 0)] (fun r u => Q r u) (fun u : XT => (wM cI cJ cB cZ bd u)) := by
  refine x_startI (ty := .boolean) (cc := cX12_isAcyclic) (by decide) rfl (Nat.le_of_ble_eq_true rfl) ?_
  intro p e s m args below meth c A ls B hr hnm h hl
  have hx := B.1.1
  have hb := B.1.2.1
  have hml := B.1.2.2.1
  have hts := B.1.2.2.2.2
  have hown : s.vm.findClass RX12 = some m.cls := B.1.2.2.2.1
  have hin12 : ∀ w ∈ u_ws RX12 TX12 31, w ∈ wsX12_isAcyclic := by decide +kernel
  have main : ∀ k : Nat, (∀ (t : XT) (li : Nat → Int32) (lj : Nat → Int64) (H : Heap) (locs : List Loc) (ls : Array Slot), wpX12_isAcyclic k 0 t li lj Q → lv_has ls 3 [(0, .ref (bd 0))] → Hp D A s.heap (wM cI cJ cB cZ bd t) H locs → W p l e { frames := 4, cells := 0, slots := 0, locals := 85 } s m args below meth c H locs 0 0 (MQ below (va_Qi (fun r u => Q r u) (fun u t => xEnd D ((fun u : XT => (wM cI cJ cB cZ bd u)) u) A t) A) args s 0 0 A) (F0 m 0 ls [])) ∧
      (∀ (t : XT) (li : Nat → Int32) (lj : Nat → Int64) (H : Heap) (locs : List Loc) (ls : Array Slot), wpX12_isAcyclic k 1 t li lj Q → lv_has ls 3 [(0, .ref (bd 0)), (1, .int (li 1))] → Hp D A s.heap (wM cI cJ cB cZ bd t) H locs → W p l e { frames := 4, cells := 0, slots := 0, locals := 85 } s m args below meth c H locs 0 0 (MQ below (va_Qi (fun r u => Q r u) (fun u t => xEnd D ((fun u : XT => (wM cI cJ cB cZ bd u)) u) A t) A) args s 0 0 A) (F0 m 2 ls [])) ∧
      (∀ (t : XT) (li : Nat → Int32) (lj : Nat → Int64) (H : Heap) (locs : List Loc) (ls : Array Slot), wpX12_isAcyclic k 2 t li lj Q → lv_has ls 3 [(0, .ref (bd 0)), (1, .int (li 1))] → Hp D A s.heap (wM cI cJ cB cZ bd t) H locs → W p l e { frames := 4, cells := 0, slots := 0, locals := 85 } s m args below meth c H locs 0 0 (MQ below (va_Qi (fun r u => Q r u) (fun u t => xEnd D ((fun u : XT => (wM cI cJ cB cZ bd u)) u) A t) A) args s 0 0 A) (F0 m 32 ls [])) ∧
      (∀ (t : XT) (li : Nat → Int32) (lj : Nat → Int64) (H : Heap) (locs : List Loc) (ls : Array Slot), wpX12_isAcyclic k 3 t li lj Q → lv_has ls 3 [(0, .ref (bd 0)), (1, .int (li 1)), (2, .int (li 2))] → Hp D A s.heap (wM cI cJ cB cZ bd t) H locs → W p l e { frames := 4, cells := 0, slots := 0, locals := 85 } s m args below meth c H locs 0 0 (MQ below (va_Qi (fun r u => Q r u) (fun u t => xEnd D ((fun u : XT => (wM cI cJ cB cZ bd u)) u) A t) A) args s 0 0 A) (F0 m 40 ls [])) ∧
      (∀ (t : XT) (li : Nat → Int32) (lj : Nat → Int64) (H : Heap) (locs : List Loc) (ls : Array Slot), wpX12_isAcyclic k 4 t li lj Q → lv_has ls 3 [(0, .ref (bd 0)), (1, .int (li 1)), (2, .int (li 2))] → Hp D A s.heap (wM cI cJ cB cZ bd t) H locs → W p l e { frames := 4, cells := 0, slots := 0, locals := 85 } s m args below meth c H locs 0 0 (MQ below (va_Qi (fun r u => Q r u) (fun u t => xEnd D ((fun u : XT => (wM cI cJ cB cZ bd u)) u) A t) A) args s 0 0 A) (F0 m 75 ls [])) ∧
      (∀ (t : XT) (li : Nat → Int32) (lj : Nat → Int64) (H : Heap) (locs : List Loc) (ls : Array Slot), wpX12_isAcyclic k 5 t li lj Q → lv_has ls 3 [(0, .ref (bd 0)), (1, .int (li 1)), (2, .int (li 2))] → Hp D A s.heap (wM cI cJ cB cZ bd t) H locs → W p l e { frames := 4, cells := 0, slots := 0, locals := 85 } s m args below meth c H locs 0 0 (MQ below (va_Qi (fun r u => Q r u) (fun u t => xEnd D ((fun u : XT => (wM cI cJ cB cZ bd u)) u) A t) A) args s 0 0 A) (F0 m 86 ls [])) := by
    intro k
    induction k with
    | zero => exact ⟨fun _ _ _ _ _ _ hR => False.elim hR, fun _ _ _ _ _ _ hR => False.elim hR, fun _ _ _ _ _ _ hR => False.elim hR, fun _ _ _ _ _ _ hR => False.elim hR, fun _ _ _ _ _ _ hR => False.elim hR, fun _ _ _ _ _ _ hR => False.elim hR⟩
    | succ k ih =>
      refine ⟨?_, ?_, ?_, ?_, ?_, ?_⟩
      · intro t li lj H locs ls hR hl h
        have hR : wbX12_isAcyclic_0 (wpX12_isAcyclic k) k t li lj Q := hR
        unfold wbX12_isAcyclic_0 at hR
        refine lv_iconst (v := 0) hx hb dX12_isAcyclic_0 (by decide) ?_
        refine lv_istore_n (lv' := [(1, .int 0), (0, .ref (bd 0))]) hx hb dX12_isAcyclic_1 rfl hl (by decide) rfl (fun ls hl => ?_)
        exact ih.2.1 t (uI li 1 0) lj H locs ls hR (lv_sub hl [1, 0] rfl) h
      · intro t li lj H locs ls hR hl h
        have hR : wbX12_isAcyclic_1 (wpX12_isAcyclic k) k t li lj Q := hR
        unfold wbX12_isAcyclic_1 at hR
        refine lv_iload_n hx hb dX12_isAcyclic_2 rfl (lv_at hl 1 rfl) ?_
        refine lv_aload_n hx hb dX12_isAcyclic_3 rfl (lv_at hl 0 rfl) ?_
        refine x_get (ci := 12) (C := RX12) (T := TX12) (N := 31) (v := .int (t.1 3)) B h hin12 0 5 rfl rfl (by decide) (by decide +kernel) rfl dX12_isAcyclic_4 ?_
        refine lv_icmp_ge (tgt := 30) hx hb dX12_isAcyclic_7 (by decide) (fun c_1 => ?_) (fun c_1 => ?_)
        · have hR := hR.1 c_1
          refine lv_iconst (v := 1) hx hb dX12_isAcyclic_30 (by decide) ?_
          refine lv_istore_n (lv' := [(1, .int 1), (0, .ref (bd 0))]) hx hb dX12_isAcyclic_31 rfl hl (by decide) rfl (fun ls hl => ?_)
          exact ih.2.2.1 t (uI li 1 1) lj H locs ls hR (lv_sub hl [1, 0] rfl) h
        · have hR := hR.2 c_1
          refine lv_aload_n hx hb dX12_isAcyclic_10 rfl (lv_at hl 0 rfl) ?_
          refine x_get (ci := 12) (C := RX12) (T := TX12) (N := 31) (v := .ref (bd 8)) B h hin12 0 11 rfl rfl (by decide) (by decide +kernel) rfl dX12_isAcyclic_11 ?_
          refine lv_iload_n hx hb dX12_isAcyclic_14 rfl (lv_at hl 1 rfl) ?_
          refine lv_aload_n hx hb dX12_isAcyclic_15 rfl (lv_at hl 0 rfl) ?_
          refine lv_iload_n hx hb dX12_isAcyclic_16 rfl (lv_at hl 1 rfl) ?_
          refine x_cVIF (n := 1) (As := [.int (li 1)]) (rest := [.int (li 1), .ref (bd 8)]) B h (wkX12_isLower l D cI cJ cB cZ bd k t (li 1) _ hR) ⟨⟨_, rfl⟩, by decide +kernel, Nat.le_of_ble_eq_true rfl, Nat.le_of_ble_eq_true rfl⟩ gX12_isAcyclic_X12_isLower (show ((wM cI cJ cB cZ bd t) : va_W)[0]? = some (_, .inr (12, _)) from rfl) rfl rfl hl.1 rfl (Nat.le_of_ble_eq_true rfl) dX12_isAcyclic_17 ⟨Nat.le_of_ble_eq_true rfl, Nat.le_of_ble_eq_true rfl⟩ (fun r_2 t_2 H locs hR h => ?_)
          refine x_cSIE (n := 1) (As := [.int r_2]) (rest := [.int (li 1), .ref (bd 8)]) B h (wkX12_truth l D cI cJ cB cZ bd k r_2 _ hR) ⟨⟨_, rfl⟩, by decide +kernel, Nat.le_of_ble_eq_true rfl, Nat.le_of_ble_eq_true rfl⟩ gX12_isAcyclic_X12_truth rfl hl.1 rfl (Nat.le_of_ble_eq_true rfl) dX12_isAcyclic_20 ⟨Nat.le_of_ble_eq_true rfl, Nat.le_of_ble_eq_true rfl⟩ (fun r_3 _ H locs hR h => ?_)
          obtain ⟨hb_4, hR⟩ := hR
          refine z_iast (f := (t_2.2.2.1 7)) B h 8 0 rfl rfl hb_4 dX12_isAcyclic_23 (fun H locs h => ?_)
          obtain ⟨t_4, et_4⟩ : ∃ v : XT, v = sA t_2 7 (upd (t_2.2.2.1 7) (li 1).toNatClampNeg r_3) := ⟨_, rfl⟩
          have hR := hR t_4 et_4
          have h : Hp D A s.heap (wM cI cJ cB cZ bd t_4) H locs := by rw [et_4]; exact h
          obtain ⟨v_5, ev_5⟩ : ∃ v : Int32, v = (li 1) + Int32.ofInt 1 := ⟨_, rfl⟩
          have hR := hR v_5 ev_5
          refine lv_iinc (v := v_5) (lv' := [(1, .int v_5), (0, .ref (bd 0))]) hx hb dX12_isAcyclic_24 hl (k := 1) rfl ev_5.symm (by decide) rfl (fun ls hl => ?_)
          refine lv_goto (tgt := 2) hx hb dX12_isAcyclic_27 (by decide) ?_
          exact ih.2.1 t_4 (uI li 1 v_5) lj H locs ls hR (lv_sub hl [1, 0] rfl) h
      · intro t li lj H locs ls hR hl h
        have hR : wbX12_isAcyclic_2 (wpX12_isAcyclic k) k t li lj Q := hR
        unfold wbX12_isAcyclic_2 at hR
        refine lv_iload_n hx hb dX12_isAcyclic_32 rfl (lv_at hl 1 rfl) ?_
        refine lv_if_eq (tgt := 84) hx hb dX12_isAcyclic_33 (by decide) (fun c_6 => ?_) (fun c_6 => ?_)
        · have hR := hR.1 c_6
          refine lv_iconst (v := 0) hx hb dX12_isAcyclic_84 (by decide) ?_
          refine lv_istore_n (lv' := [(2, .int 0), (0, .ref (bd 0)), (1, .int (li 1))]) hx hb dX12_isAcyclic_85 rfl hl (by decide) rfl (fun ls hl => ?_)
          exact ih.2.2.2.2.2 t (uI li 2 0) lj H locs ls hR (lv_sub hl [1, 2, 0] rfl) h
        · have hR := hR.2 c_6
          refine lv_iconst (v := 0) hx hb dX12_isAcyclic_36 (by decide) ?_
          refine lv_istore_n (lv' := [(1, .int 0), (0, .ref (bd 0))]) hx hb dX12_isAcyclic_37 rfl hl (by decide) rfl (fun ls hl => ?_)
          refine lv_iconst (v := 0) hx hb dX12_isAcyclic_38 (by decide) ?_
          refine lv_istore_n (lv' := [(2, .int 0), (1, .int 0), (0, .ref (bd 0))]) hx hb dX12_isAcyclic_39 rfl hl (by decide) rfl (fun ls hl => ?_)
          exact ih.2.2.2.1 t (uI (uI li 1 0) 2 0) lj H locs ls hR (lv_sub hl [2, 1, 0] rfl) h
      · intro t li lj H locs ls hR hl h
        have hR : wbX12_isAcyclic_3 (wpX12_isAcyclic k) k t li lj Q := hR
        unfold wbX12_isAcyclic_3 at hR
        refine lv_iload_n hx hb dX12_isAcyclic_40 rfl (lv_at hl 2 rfl) ?_
        refine lv_aload_n hx hb dX12_isAcyclic_41 rfl (lv_at hl 0 rfl) ?_
        refine x_get (ci := 12) (C := RX12) (T := TX12) (N := 31) (v := .int (t.1 3)) B h hin12 0 5 rfl rfl (by decide) (by decide +kernel) rfl dX12_isAcyclic_42 ?_
        refine lv_icmp_ge (tgt := 81) hx hb dX12_isAcyclic_45 (by decide) (fun c_7 => ?_) (fun c_7 => ?_)
        · have hR := hR.1 c_7
          refine lv_goto (tgt := 32) hx hb dX12_isAcyclic_81 (by decide) ?_
          exact ih.2.2.1 t li lj H locs ls hR (lv_sub hl [0, 1] rfl) h
        · have hR := hR.2 c_7
          refine lv_aload_n hx hb dX12_isAcyclic_48 rfl (lv_at hl 0 rfl) ?_
          refine x_get (ci := 12) (C := RX12) (T := TX12) (N := 31) (v := .ref (bd 8)) B h hin12 0 11 rfl rfl (by decide) (by decide +kernel) rfl dX12_isAcyclic_49 ?_
          refine lv_iload_n hx hb dX12_isAcyclic_52 rfl (lv_at hl 2 rfl) ?_
          obtain ⟨hb_8, hR⟩ := hR
          refine va_iald (f := (t.2.2.1 7)) hx hb B.2.1 h.1 8 0 rfl rfl hb_8 dX12_isAcyclic_53 ?_
          refine lv_topi (fun v_8 ev_8 => ?_)
          have hR := hR v_8 ev_8
          refine lv_iconst (v := 1) hx hb dX12_isAcyclic_54 (by decide) ?_
          refine lv_icmp_ne (tgt := 75) hx hb dX12_isAcyclic_55 (by decide) (fun c_9 => ?_) (fun c_9 => ?_)
          · have hR := hR.1 c_9
            exact ih.2.2.2.2.1 t li lj H locs ls hR (lv_sub hl [0, 1, 2] rfl) h
          · have hR := hR.2 c_9
            refine lv_aload_n hx hb dX12_isAcyclic_58 rfl (lv_at hl 0 rfl) ?_
            refine lv_iload_n hx hb dX12_isAcyclic_59 rfl (lv_at hl 2 rfl) ?_
            refine x_cVIF (n := 1) (As := [.int (li 2)]) (rest := []) B h (wkX12_leadsOn l D cI cJ cB cZ bd k t (li 2) _ hR) ⟨⟨_, rfl⟩, by decide +kernel, Nat.le_of_ble_eq_true rfl, Nat.le_of_ble_eq_true rfl⟩ gX12_isAcyclic_X12_leadsOn (show ((wM cI cJ cB cZ bd t) : va_W)[0]? = some (_, .inr (12, _)) from rfl) rfl rfl hl.1 rfl (Nat.le_of_ble_eq_true rfl) dX12_isAcyclic_60 ⟨Nat.le_of_ble_eq_true rfl, Nat.le_of_ble_eq_true rfl⟩ (fun r_10 t_10 H locs hR h => ?_)
            refine lv_if_ne (tgt := 75) hx hb dX12_isAcyclic_63 (by decide) (fun c_11 => ?_) (fun c_11 => ?_)
            · have hR := hR.1 c_11
              exact ih.2.2.2.2.1 t_10 li lj H locs ls hR (lv_sub hl [0, 1, 2] rfl) h
            · have hR := hR.2 c_11
              refine lv_aload_n hx hb dX12_isAcyclic_66 rfl (lv_at hl 0 rfl) ?_
              refine x_get (ci := 12) (C := RX12) (T := TX12) (N := 31) (v := .ref (bd 8)) B h hin12 0 11 rfl rfl (by decide) (by decide +kernel) rfl dX12_isAcyclic_67 ?_
              refine lv_iload_n hx hb dX12_isAcyclic_70 rfl (lv_at hl 2 rfl) ?_
              refine lv_iconst (v := 0) hx hb dX12_isAcyclic_71 (by decide) ?_
              obtain ⟨hb_12, hR⟩ := hR
              refine z_iast (f := (t_10.2.2.1 7)) B h 8 0 rfl rfl hb_12 dX12_isAcyclic_72 (fun H locs h => ?_)
              obtain ⟨t_12, et_12⟩ : ∃ v : XT, v = sA t_10 7 (upd (t_10.2.2.1 7) (li 2).toNatClampNeg 0) := ⟨_, rfl⟩
              have hR := hR t_12 et_12
              have h : Hp D A s.heap (wM cI cJ cB cZ bd t_12) H locs := by rw [et_12]; exact h
              refine lv_iconst (v := 1) hx hb dX12_isAcyclic_73 (by decide) ?_
              refine lv_istore_n (lv' := [(1, .int 1), (0, .ref (bd 0)), (2, .int (li 2))]) hx hb dX12_isAcyclic_74 rfl hl (by decide) rfl (fun ls hl => ?_)
              exact ih.2.2.2.2.1 t_12 (uI li 1 1) lj H locs ls hR (lv_sub hl [1, 0, 2] rfl) h
      · intro t li lj H locs ls hR hl h
        have hR : wbX12_isAcyclic_4 (wpX12_isAcyclic k) k t li lj Q := hR
        unfold wbX12_isAcyclic_4 at hR
        obtain ⟨v_13, ev_13⟩ : ∃ v : Int32, v = (li 2) + Int32.ofInt 1 := ⟨_, rfl⟩
        have hR := hR v_13 ev_13
        refine lv_iinc (v := v_13) (lv' := [(2, .int v_13), (0, .ref (bd 0)), (1, .int (li 1))]) hx hb dX12_isAcyclic_75 hl (k := 2) rfl ev_13.symm (by decide) rfl (fun ls hl => ?_)
        refine lv_goto (tgt := 40) hx hb dX12_isAcyclic_78 (by decide) ?_
        exact ih.2.2.2.1 t (uI li 2 v_13) lj H locs ls hR (lv_sub hl [1, 2, 0] rfl) h
      · intro t li lj H locs ls hR hl h
        have hR : wbX12_isAcyclic_5 (wpX12_isAcyclic k) k t li lj Q := hR
        unfold wbX12_isAcyclic_5 at hR
        refine lv_iload_n hx hb dX12_isAcyclic_86 rfl (lv_at hl 2 rfl) ?_
        refine lv_aload_n hx hb dX12_isAcyclic_87 rfl (lv_at hl 0 rfl) ?_
        refine x_get (ci := 12) (C := RX12) (T := TX12) (N := 31) (v := .int (t.1 3)) B h hin12 0 5 rfl rfl (by decide) (by decide +kernel) rfl dX12_isAcyclic_88 ?_
        refine lv_icmp_ge (tgt := 112) hx hb dX12_isAcyclic_91 (by decide) (fun c_14 => ?_) (fun c_14 => ?_)
        · have hR := hR.1 c_14
          refine lv_iconst (v := 1) hx hb dX12_isAcyclic_112 (by decide) ?_
          exact x_iret (w1 := (fun u : XT => (wM cI cJ cB cZ bd u))) t B h hr rfl hR dX12_isAcyclic_113
        · have hR := hR.2 c_14
          refine lv_aload_n hx hb dX12_isAcyclic_94 rfl (lv_at hl 0 rfl) ?_
          refine x_get (ci := 12) (C := RX12) (T := TX12) (N := 31) (v := .ref (bd 8)) B h hin12 0 11 rfl rfl (by decide) (by decide +kernel) rfl dX12_isAcyclic_95 ?_
          refine lv_iload_n hx hb dX12_isAcyclic_98 rfl (lv_at hl 2 rfl) ?_
          obtain ⟨hb_15, hR⟩ := hR
          refine va_iald (f := (t.2.2.1 7)) hx hb B.2.1 h.1 8 0 rfl rfl hb_15 dX12_isAcyclic_99 ?_
          refine lv_topi (fun v_15 ev_15 => ?_)
          have hR := hR v_15 ev_15
          refine lv_iconst (v := 1) hx hb dX12_isAcyclic_100 (by decide) ?_
          refine lv_icmp_ne (tgt := 106) hx hb dX12_isAcyclic_101 (by decide) (fun c_16 => ?_) (fun c_16 => ?_)
          · have hR := hR.1 c_16
            obtain ⟨v_17, ev_17⟩ : ∃ v : Int32, v = (li 2) + Int32.ofInt 1 := ⟨_, rfl⟩
            have hR := hR v_17 ev_17
            refine lv_iinc (v := v_17) (lv' := [(2, .int v_17), (0, .ref (bd 0)), (1, .int (li 1))]) hx hb dX12_isAcyclic_106 hl (k := 2) rfl ev_17.symm (by decide) rfl (fun ls hl => ?_)
            refine lv_goto (tgt := 86) hx hb dX12_isAcyclic_109 (by decide) ?_
            exact ih.2.2.2.2.2 t (uI li 2 v_17) lj H locs ls hR (lv_sub hl [1, 2, 0] rfl) h
          · have hR := hR.2 c_16
            refine lv_iconst (v := 0) hx hb dX12_isAcyclic_104 (by decide) ?_
            exact x_iret (w1 := (fun u : XT => (wM cI cJ cB cZ bd u))) t B h hr rfl hR dX12_isAcyclic_105
  exact (main k).1 t _ _ s.heap [] ls hR hl h
set_option maxRecDepth 20000 in
theorem ggX12_couples_X12_isAcyclic : GoodIn wsX12_couples wsX12_isAcyclic := goodIn_r _ [6, 7, 8, 9, 10, 11, 5, 12, 1, 13, 14, 15, 16, 17, 18, 19, 20, 21, 22, 23, 24, 25, 26, 27, 28, 29, 30, 31, 32, 33, 34, 35, 36, 37, 38, 39, 40, 41, 42, 43, 44, 45, 46, 47, 48, 49, 50, 51, 52, 53, 54, 55, 56, 57, 58, 59, 60, 61, 62, 63, 64, 65, 66] (by decide +kernel) (by decide +kernel)
set_option maxRecDepth 20000 in
theorem gX12_couples_X12_isAcyclic : GoodIn wsX12_couples (wsV RX12 182 RX12 yX12_isAcyclic wsX12_isAcyclic) := goodIn_app (goodIn_of _ (by decide +kernel)) ggX12_couples_X12_isAcyclic
def wbX12_couples_0 (rec : Nat → XT → (Nat → Int32) → (Nat → Int64) → (Int32 → XT → Prop) → Prop) (k : Nat) (t : XT) (li : Nat → Int32) (lj : Nat → Int64) (Q : Int32 → XT → Prop) : Prop :=
  (vp_in (li 1) 60 ∧ (∀ t_1 : XT, t_1 = sA t 4 (upd (t.2.2.1 4) (li 1).toNatClampNeg (li 2)) → (vp_in (li 2) 60 ∧ (∀ t_2 : XT, t_2 = sA t_1 4 (upd (t_1.2.2.1 4) (li 2).toNatClampNeg (li 1)) → (wqX12_isAcyclic k t_2  (fun r_3 t_3 => ((r_3 = 0) → (vp_in (li 1) 60 ∧ (∀ t_5 : XT, t_5 = sA t_3 4 (upd (t_3.2.2.1 4) (li 1).toNatClampNeg (-1)) → (vp_in (li 2) 60 ∧ (∀ t_6 : XT, t_6 = sA t_5 4 (upd (t_5.2.2.1 4) (li 2).toNatClampNeg (-1)) → Q 0 t_6))))) ∧ (¬ (r_3 = 0) → Q 1 t_3)))))))
def wpX12_couples : Nat → Nat → XT → (Nat → Int32) → (Nat → Int64) → (Int32 → XT → Prop) → Prop
  | 0, _, _, _, _, _ => False
  | k + 1, 0, t, li, lj, Q => wbX12_couples_0 (wpX12_couples k) k t li lj Q
  | _ + 1, _, _, _, _, _ => False
def wqX12_couples (k : Nat) (t : XT) (a1 : Int32) (a2 : Int32) (Q : Int32 → XT → Prop) : Prop := wpX12_couples k 0 t (uI (uI (fun _ => 0) 1 a1) 2 a2) (fun _ => 0) Q
set_option maxHeartbeats 8000000 in
set_option maxRecDepth 100000 in
theorem wkX12_couples (l : Launch) (D : va_G) (cI cJ cB cZ : ClassId) (bd : Nat → Nat) (k : Nat) (t : XT) (a1 : Int32) (a2 : Int32) (Q : Int32 → XT → Prop) (hR : wqX12_couples k t a1 a2 Q) : MetI l yX12_couples wsX12_couples 5 107 0 0 D (TYS cI cJ cB cZ) (wM cI cJ cB cZ bd t) [.ref (bd 0), .int a1, .int a2] (fun r u => Q r u) (fun u : XT => (wM cI cJ cB cZ bd u)) := by
  refine x_startI (ty := .boolean) (cc := cX12_couples) (by decide) rfl (Nat.le_of_ble_eq_true rfl) ?_
  intro p e s m args below meth c A ls B hr hnm h hl
  have hx := B.1.1
  have hb := B.1.2.1
  have hml := B.1.2.2.1
  have hts := B.1.2.2.2.2
  have hown : s.vm.findClass RX12 = some m.cls := B.1.2.2.2.1
  have hin12 : ∀ w ∈ u_ws RX12 TX12 31, w ∈ wsX12_couples := by decide +kernel
  have main : ∀ k : Nat, (∀ (t : XT) (li : Nat → Int32) (lj : Nat → Int64) (H : Heap) (locs : List Loc) (ls : Array Slot), wpX12_couples k 0 t li lj Q → lv_has ls 3 [(0, .ref (bd 0)), (1, .int (li 1)), (2, .int (li 2))] → Hp D A s.heap (wM cI cJ cB cZ bd t) H locs → W p l e { frames := 5, cells := 0, slots := 0, locals := 107 } s m args below meth c H locs 0 0 (MQ below (va_Qi (fun r u => Q r u) (fun u t => xEnd D ((fun u : XT => (wM cI cJ cB cZ bd u)) u) A t) A) args s 0 0 A) (F0 m 0 ls [])) := by
    intro k
    induction k with
    | zero => exact fun _ _ _ _ _ _ hR => False.elim hR
    | succ k ih =>
      intro t li lj H locs ls hR hl h
      have hR : wbX12_couples_0 (wpX12_couples k) k t li lj Q := hR
      unfold wbX12_couples_0 at hR
      refine lv_aload_n hx hb dX12_couples_0 rfl (lv_at hl 0 rfl) ?_
      refine x_get (ci := 12) (C := RX12) (T := TX12) (N := 31) (v := .ref (bd 5)) B h hin12 0 8 rfl rfl (by decide) (by decide +kernel) rfl dX12_couples_1 ?_
      refine lv_iload_n hx hb dX12_couples_4 rfl (lv_at hl 1 rfl) ?_
      refine lv_iload_n hx hb dX12_couples_5 rfl (lv_at hl 2 rfl) ?_
      obtain ⟨hb_1, hR⟩ := hR
      refine z_iast (f := (t.2.2.1 4)) B h 5 0 rfl rfl hb_1 dX12_couples_6 (fun H locs h => ?_)
      obtain ⟨t_1, et_1⟩ : ∃ v : XT, v = sA t 4 (upd (t.2.2.1 4) (li 1).toNatClampNeg (li 2)) := ⟨_, rfl⟩
      have hR := hR t_1 et_1
      have h : Hp D A s.heap (wM cI cJ cB cZ bd t_1) H locs := by rw [et_1]; exact h
      refine lv_aload_n hx hb dX12_couples_7 rfl (lv_at hl 0 rfl) ?_
      refine x_get (ci := 12) (C := RX12) (T := TX12) (N := 31) (v := .ref (bd 5)) B h hin12 0 8 rfl rfl (by decide) (by decide +kernel) rfl dX12_couples_8 ?_
      refine lv_iload_n hx hb dX12_couples_11 rfl (lv_at hl 2 rfl) ?_
      refine lv_iload_n hx hb dX12_couples_12 rfl (lv_at hl 1 rfl) ?_
      obtain ⟨hb_2, hR⟩ := hR
      refine z_iast (f := (t_1.2.2.1 4)) B h 5 0 rfl rfl hb_2 dX12_couples_13 (fun H locs h => ?_)
      obtain ⟨t_2, et_2⟩ : ∃ v : XT, v = sA t_1 4 (upd (t_1.2.2.1 4) (li 2).toNatClampNeg (li 1)) := ⟨_, rfl⟩
      have hR := hR t_2 et_2
      have h : Hp D A s.heap (wM cI cJ cB cZ bd t_2) H locs := by rw [et_2]; exact h
      refine lv_aload_n hx hb dX12_couples_14 rfl (lv_at hl 0 rfl) ?_
      refine x_cVIF (n := 0) (As := []) (rest := []) B h (wkX12_isAcyclic l D cI cJ cB cZ bd k t_2  _ hR) ⟨⟨_, rfl⟩, by decide +kernel, Nat.le_of_ble_eq_true rfl, Nat.le_of_ble_eq_true rfl⟩ gX12_couples_X12_isAcyclic (show ((wM cI cJ cB cZ bd t_2) : va_W)[0]? = some (_, .inr (12, _)) from rfl) rfl rfl hl.1 rfl (Nat.le_of_ble_eq_true rfl) dX12_couples_15 ⟨Nat.le_of_ble_eq_true rfl, Nat.le_of_ble_eq_true rfl⟩ (fun r_3 t_3 H locs hR h => ?_)
      refine lv_if_eq (tgt := 23) hx hb dX12_couples_18 (by decide) (fun c_4 => ?_) (fun c_4 => ?_)
      · have hR := hR.1 c_4
        refine lv_aload_n hx hb dX12_couples_23 rfl (lv_at hl 0 rfl) ?_
        refine x_get (ci := 12) (C := RX12) (T := TX12) (N := 31) (v := .ref (bd 5)) B h hin12 0 8 rfl rfl (by decide) (by decide +kernel) rfl dX12_couples_24 ?_
        refine lv_iload_n hx hb dX12_couples_27 rfl (lv_at hl 1 rfl) ?_
        refine lv_iconst (v := (-1)) hx hb dX12_couples_28 (by decide) ?_
        obtain ⟨hb_5, hR⟩ := hR
        refine z_iast (f := (t_3.2.2.1 4)) B h 5 0 rfl rfl hb_5 dX12_couples_29 (fun H locs h => ?_)
        obtain ⟨t_5, et_5⟩ : ∃ v : XT, v = sA t_3 4 (upd (t_3.2.2.1 4) (li 1).toNatClampNeg (-1)) := ⟨_, rfl⟩
        have hR := hR t_5 et_5
        have h : Hp D A s.heap (wM cI cJ cB cZ bd t_5) H locs := by rw [et_5]; exact h
        refine lv_aload_n hx hb dX12_couples_30 rfl (lv_at hl 0 rfl) ?_
        refine x_get (ci := 12) (C := RX12) (T := TX12) (N := 31) (v := .ref (bd 5)) B h hin12 0 8 rfl rfl (by decide) (by decide +kernel) rfl dX12_couples_31 ?_
        refine lv_iload_n hx hb dX12_couples_34 rfl (lv_at hl 2 rfl) ?_
        refine lv_iconst (v := (-1)) hx hb dX12_couples_35 (by decide) ?_
        obtain ⟨hb_6, hR⟩ := hR
        refine z_iast (f := (t_5.2.2.1 4)) B h 5 0 rfl rfl hb_6 dX12_couples_36 (fun H locs h => ?_)
        obtain ⟨t_6, et_6⟩ : ∃ v : XT, v = sA t_5 4 (upd (t_5.2.2.1 4) (li 2).toNatClampNeg (-1)) := ⟨_, rfl⟩
        have hR := hR t_6 et_6
        have h : Hp D A s.heap (wM cI cJ cB cZ bd t_6) H locs := by rw [et_6]; exact h
        refine lv_iconst (v := 0) hx hb dX12_couples_37 (by decide) ?_
        exact x_iret (w1 := (fun u : XT => (wM cI cJ cB cZ bd u))) t_6 B h hr rfl hR dX12_couples_38
      · have hR := hR.2 c_4
        refine lv_iconst (v := 1) hx hb dX12_couples_21 (by decide) ?_
        exact x_iret (w1 := (fun u : XT => (wM cI cJ cB cZ bd u))) t_3 B h hr rfl hR dX12_couples_22
  exact (main k) t _ _ s.heap [] ls hR hl h
def wbX12_frees_0 (rec : Nat → XT → (Nat → Int32) → (Nat → Int64) → (XT → Prop) → Prop) (k : Nat) (t : XT) (li : Nat → Int32) (lj : Nat → Int64) (Q : XT → Prop) : Prop :=
  (vp_in (li 1) 60 ∧ (∀ v_1 : Int32, v_1 = (t.2.2.1 4) (li 1).toNatClampNeg → ((v_1 = (-1)) → Q t) ∧ (¬ (v_1 = (-1)) → (vp_in v_1 60 ∧ (∀ t_3 : XT, t_3 = sA t 4 (upd (t.2.2.1 4) v_1.toNatClampNeg (-1)) → (vp_in (li 1) 60 ∧ (∀ t_4 : XT, t_4 = sA t_3 4 (upd (t_3.2.2.1 4) (li 1).toNatClampNeg (-1)) → Q t_4)))))))
def wpX12_frees : Nat → Nat → XT → (Nat → Int32) → (Nat → Int64) → (XT → Prop) → Prop
  | 0, _, _, _, _, _ => False
  | k + 1, 0, t, li, lj, Q => wbX12_frees_0 (wpX12_frees k) k t li lj Q
  | _ + 1, _, _, _, _, _ => False
def wqX12_frees (k : Nat) (t : XT) (a1 : Int32) (Q : XT → Prop) : Prop := wpX12_frees k 0 t (uI (fun _ => 0) 1 a1) (fun _ => 0) Q
set_option maxHeartbeats 8000000 in
set_option maxRecDepth 100000 in
theorem wkX12_frees (l : Launch) (D : va_G) (cI cJ cB cZ : ClassId) (bd : Nat → Nat) (k : Nat) (t : XT) (a1 : Int32) (Q : XT → Prop) (hR : wqX12_frees k t a1 Q) : MetV l yX12_frees wsX12_frees 0 0 0 0 D (TYS cI cJ cB cZ) (wM cI cJ cB cZ bd t) [.ref (bd 0), .int a1] (fun u => Q u) (fun u : XT => (wM cI cJ cB cZ bd u)) := by
  refine x_startV (ty := .int) (cc := cX12_frees) (by decide) rfl (Nat.le_of_ble_eq_true rfl) ?_
  intro p e s m args below meth c A ls B hr hnm h hl
  have hx := B.1.1
  have hb := B.1.2.1
  have hml := B.1.2.2.1
  have hts := B.1.2.2.2.2
  have hown : s.vm.findClass RX12 = some m.cls := B.1.2.2.2.1
  have hin12 : ∀ w ∈ u_ws RX12 TX12 31, w ∈ wsX12_frees := by decide +kernel
  have main : ∀ k : Nat, (∀ (t : XT) (li : Nat → Int32) (lj : Nat → Int64) (H : Heap) (locs : List Loc) (ls : Array Slot), wpX12_frees k 0 t li lj Q → lv_has ls 3 [(0, .ref (bd 0)), (1, .int (li 1))] → Hp D A s.heap (wM cI cJ cB cZ bd t) H locs → W p l e { frames := 0, cells := 0, slots := 0, locals := 0 } s m args below meth c H locs 0 0 (MQ below (va_Qv (fun u => Q u) (fun u t => xEnd D ((fun u : XT => (wM cI cJ cB cZ bd u)) u) A t) A) args s 0 0 A) (F0 m 0 ls [])) := by
    intro k
    induction k with
    | zero => exact fun _ _ _ _ _ _ hR => False.elim hR
    | succ k ih =>
      intro t li lj H locs ls hR hl h
      have hR : wbX12_frees_0 (wpX12_frees k) k t li lj Q := hR
      unfold wbX12_frees_0 at hR
      refine lv_aload_n hx hb dX12_frees_0 rfl (lv_at hl 0 rfl) ?_
      refine x_get (ci := 12) (C := RX12) (T := TX12) (N := 31) (v := .ref (bd 5)) B h hin12 0 8 rfl rfl (by decide) (by decide +kernel) rfl dX12_frees_1 ?_
      refine lv_iload_n hx hb dX12_frees_4 rfl (lv_at hl 1 rfl) ?_
      obtain ⟨hb_1, hR⟩ := hR
      refine va_iald (f := (t.2.2.1 4)) hx hb B.2.1 h.1 5 0 rfl rfl hb_1 dX12_frees_5 ?_
      refine lv_topi (fun v_1 ev_1 => ?_)
      have hR := hR v_1 ev_1
      refine lv_istore_n (lv' := [(2, .int v_1), (0, .ref (bd 0)), (1, .int (li 1))]) hx hb dX12_frees_6 rfl hl (by decide) rfl (fun ls hl => ?_)
      refine lv_iload_n hx hb dX12_frees_7 rfl (lv_at hl 0 rfl) ?_
      refine lv_iconst (v := (-1)) hx hb dX12_frees_8 (by decide) ?_
      refine lv_icmp_eq (tgt := 26) hx hb dX12_frees_9 (by decide) (fun c_2 => ?_) (fun c_2 => ?_)
      · have hR := hR.1 c_2
        exact x_vret (w1 := (fun u : XT => (wM cI cJ cB cZ bd u))) t B h hr hR dX12_frees_26
      · have hR := hR.2 c_2
        refine lv_aload_n hx hb dX12_frees_12 rfl (lv_at hl 1 rfl) ?_
        refine x_get (ci := 12) (C := RX12) (T := TX12) (N := 31) (v := .ref (bd 5)) B h hin12 0 8 rfl rfl (by decide) (by decide +kernel) rfl dX12_frees_13 ?_
        refine lv_iload_n hx hb dX12_frees_16 rfl (lv_at hl 0 rfl) ?_
        refine lv_iconst (v := (-1)) hx hb dX12_frees_17 (by decide) ?_
        obtain ⟨hb_3, hR⟩ := hR
        refine z_iast (f := (t.2.2.1 4)) B h 5 0 rfl rfl hb_3 dX12_frees_18 (fun H locs h => ?_)
        obtain ⟨t_3, et_3⟩ : ∃ v : XT, v = sA t 4 (upd (t.2.2.1 4) v_1.toNatClampNeg (-1)) := ⟨_, rfl⟩
        have hR := hR t_3 et_3
        have h : Hp D A s.heap (wM cI cJ cB cZ bd t_3) H locs := by rw [et_3]; exact h
        refine lv_aload_n hx hb dX12_frees_19 rfl (lv_at hl 1 rfl) ?_
        refine x_get (ci := 12) (C := RX12) (T := TX12) (N := 31) (v := .ref (bd 5)) B h hin12 0 8 rfl rfl (by decide) (by decide +kernel) rfl dX12_frees_20 ?_
        refine lv_iload_n hx hb dX12_frees_23 rfl (lv_at hl 2 rfl) ?_
        refine lv_iconst (v := (-1)) hx hb dX12_frees_24 (by decide) ?_
        obtain ⟨hb_4, hR⟩ := hR
        refine z_iast (f := (t_3.2.2.1 4)) B h 5 0 rfl rfl hb_4 dX12_frees_25 (fun H locs h => ?_)
        obtain ⟨t_4, et_4⟩ : ∃ v : XT, v = sA t_3 4 (upd (t_3.2.2.1 4) (li 1).toNatClampNeg (-1)) := ⟨_, rfl⟩
        have hR := hR t_4 et_4
        have h : Hp D A s.heap (wM cI cJ cB cZ bd t_4) H locs := by rw [et_4]; exact h
        exact x_vret (w1 := (fun u : XT => (wM cI cJ cB cZ bd u))) t_4 B h hr hR dX12_frees_26
  exact (main k) t _ _ s.heap [] ls hR hl h
set_option maxRecDepth 20000 in
theorem ggX12_remembers_X12_truth : GoodIn wsX12_remembers wsX12_truth := goodIn_r _ [8] (by decide +kernel) (by decide +kernel)
set_option maxRecDepth 20000 in
theorem gX12_remembers_X12_truth : GoodIn wsX12_remembers (va_wsS RX12 105 yX12_truth wsX12_truth) := goodIn_app (goodIn_of _ (by decide +kernel)) ggX12_remembers_X12_truth
def wbX12_remembers_0 (rec : Nat → XT → (Nat → Int32) → (Nat → Int64) → (XT → Prop) → Prop) (k : Nat) (t : XT) (li : Nat → Int32) (lj : Nat → Int64) (Q : XT → Prop) : Prop :=
  ((¬ (t.1 4) = 16) → rec 2 t li lj Q) ∧ (((t.1 4) = 16) → rec 1 t (uI li 1 120) lj Q)
def wbX12_remembers_1 (rec : Nat → XT → (Nat → Int32) → (Nat → Int64) → (XT → Prop) → Prop) (k : Nat) (t : XT) (li : Nat → Int32) (lj : Nat → Int64) (Q : XT → Prop) : Prop :=
  (((1920 : Int32) ≤ (li 1)) → (∀ v_3 : Int32, v_3 = ((t.1 4) - 1) → (∀ t_4 : XT, t_4 = sI t 4 v_3 → rec 2 t_4 li lj Q))) ∧ (¬ ((1920 : Int32) ≤ (li 1)) → (∀ v_5 : Int32, v_5 = ((li 1) - 120) → (vp_in (li 1) 1920 ∧ (∀ v_6 : Int32, v_6 = (t.2.2.1 8) (li 1).toNatClampNeg → (vp_in v_5 1920 ∧ (∀ t_7 : XT, t_7 = sA t 8 (upd (t.2.2.1 8) v_5.toNatClampNeg v_6) → (∀ v_8 : Int32, v_8 = (li 1) + Int32.ofInt 1 → rec 1 t_7 (uI li 1 v_8) lj Q)))))))
def wbX12_remembers_2 (rec : Nat → XT → (Nat → Int32) → (Nat → Int64) → (XT → Prop) → Prop) (k : Nat) (t : XT) (li : Nat → Int32) (lj : Nat → Int64) (Q : XT → Prop) : Prop :=
  (∀ v_9 : Int32, v_9 = (120 * (t.1 4)) → rec 3 t (uI (uI li 1 v_9) 2 0) lj Q)
def wbX12_remembers_3 (rec : Nat → XT → (Nat → Int32) → (Nat → Int64) → (XT → Prop) → Prop) (k : Nat) (t : XT) (li : Nat → Int32) (lj : Nat → Int64) (Q : XT → Prop) : Prop :=
  (((60 : Int32) ≤ (li 2)) → (∀ v_11 : Int32, v_11 = ((t.1 4) + 1) → (∀ t_12 : XT, t_12 = sI t 4 v_11 → Q t_12))) ∧ (¬ ((60 : Int32) ≤ (li 2)) → (∀ v_13 : Int32, v_13 = ((li 1) + (li 2)) → (vp_in (li 2) 60 ∧ (∀ v_14 : Int32, v_14 = (t.2.2.1 4) (li 2).toNatClampNeg → (vp_in v_13 1920 ∧ (∀ t_15 : XT, t_15 = sA t 8 (upd (t.2.2.1 8) v_13.toNatClampNeg v_14) → (∀ v_16 : Int32, v_16 = ((li 1) + 60) → (∀ v_17 : Int32, v_17 = (v_16 + (li 2)) → (vp_in (li 2) 60 ∧ (∀ v_18 : Int32, v_18 = (t_15.2.2.1 5) (li 2).toNatClampNeg → (wqX12_truth k v_18 (fun r_19 => (vp_in v_17 1920 ∧ (∀ t_20 : XT, t_20 = sA t_15 8 (upd (t_15.2.2.1 8) v_17.toNatClampNeg r_19) → (∀ v_21 : Int32, v_21 = (li 2) + Int32.ofInt 1 → rec 3 t_20 (uI li 2 v_21) lj Q)))))))))))))))
def wpX12_remembers : Nat → Nat → XT → (Nat → Int32) → (Nat → Int64) → (XT → Prop) → Prop
  | 0, _, _, _, _, _ => False
  | k + 1, 0, t, li, lj, Q => wbX12_remembers_0 (wpX12_remembers k) k t li lj Q
  | k + 1, 1, t, li, lj, Q => wbX12_remembers_1 (wpX12_remembers k) k t li lj Q
  | k + 1, 2, t, li, lj, Q => wbX12_remembers_2 (wpX12_remembers k) k t li lj Q
  | k + 1, 3, t, li, lj, Q => wbX12_remembers_3 (wpX12_remembers k) k t li lj Q
  | _ + 1, _, _, _, _, _ => False
def wqX12_remembers (k : Nat) (t : XT)  (Q : XT → Prop) : Prop := wpX12_remembers k 0 t (fun _ => 0) (fun _ => 0) Q
set_option maxHeartbeats 8000000 in
set_option maxRecDepth 100000 in
theorem wkX12_remembers (l : Launch) (D : va_G) (cI cJ cB cZ : ClassId) (bd : Nat → Nat) (k : Nat) (t : XT)  (Q : XT → Prop) (hR : wqX12_remembers k t  Q) : MetV l yX12_remembers wsX12_remembers 1 20 0 0 D (TYS cI cJ cB cZ) (wM cI cJ cB cZ bd t) [.ref (bd 0)] (fun u => Q u) (fun u : XT => (wM cI cJ cB cZ bd u)) := by
  refine x_startV (ty := .int) (cc := cX12_remembers) (by decide) rfl (Nat.le_of_ble_eq_true rfl) ?_
  intro p e s m args below meth c A ls B hr hnm h hl
  have hx := B.1.1
  have hb := B.1.2.1
  have hml := B.1.2.2.1
  have hts := B.1.2.2.2.2
  have hown : s.vm.findClass RX12 = some m.cls := B.1.2.2.2.1
  have hin12 : ∀ w ∈ u_ws RX12 TX12 31, w ∈ wsX12_remembers := by decide +kernel
  have main : ∀ k : Nat, (∀ (t : XT) (li : Nat → Int32) (lj : Nat → Int64) (H : Heap) (locs : List Loc) (ls : Array Slot), wpX12_remembers k 0 t li lj Q → lv_has ls 3 [(0, .ref (bd 0))] → Hp D A s.heap (wM cI cJ cB cZ bd t) H locs → W p l e { frames := 1, cells := 0, slots := 0, locals := 20 } s m args below meth c H locs 0 0 (MQ below (va_Qv (fun u => Q u) (fun u t => xEnd D ((fun u : XT => (wM cI cJ cB cZ bd u)) u) A t) A) args s 0 0 A) (F0 m 0 ls [])) ∧
      (∀ (t : XT) (li : Nat → Int32) (lj : Nat → Int64) (H : Heap) (locs : List Loc) (ls : Array Slot), wpX12_remembers k 1 t li lj Q → lv_has ls 3 [(0, .ref (bd 0)), (1, .int (li 1))] → Hp D A s.heap (wM cI cJ cB cZ bd t) H locs → W p l e { frames := 1, cells := 0, slots := 0, locals := 20 } s m args below meth c H locs 0 0 (MQ below (va_Qv (fun u => Q u) (fun u t => xEnd D ((fun u : XT => (wM cI cJ cB cZ bd u)) u) A t) A) args s 0 0 A) (F0 m 12 ls [])) ∧
      (∀ (t : XT) (li : Nat → Int32) (lj : Nat → Int64) (H : Heap) (locs : List Loc) (ls : Array Slot), wpX12_remembers k 2 t li lj Q → lv_has ls 3 [(0, .ref (bd 0))] → Hp D A s.heap (wM cI cJ cB cZ bd t) H locs → W p l e { frames := 1, cells := 0, slots := 0, locals := 20 } s m args below meth c H locs 0 0 (MQ below (va_Qv (fun u => Q u) (fun u t => xEnd D ((fun u : XT => (wM cI cJ cB cZ bd u)) u) A t) A) args s 0 0 A) (F0 m 50 ls [])) ∧
      (∀ (t : XT) (li : Nat → Int32) (lj : Nat → Int64) (H : Heap) (locs : List Loc) (ls : Array Slot), wpX12_remembers k 3 t li lj Q → lv_has ls 3 [(0, .ref (bd 0)), (1, .int (li 1)), (2, .int (li 2))] → Hp D A s.heap (wM cI cJ cB cZ bd t) H locs → W p l e { frames := 1, cells := 0, slots := 0, locals := 20 } s m args below meth c H locs 0 0 (MQ below (va_Qv (fun u => Q u) (fun u t => xEnd D ((fun u : XT => (wM cI cJ cB cZ bd u)) u) A t) A) args s 0 0 A) (F0 m 60 ls [])) := by
    intro k
    induction k with
    | zero => exact ⟨fun _ _ _ _ _ _ hR => False.elim hR, fun _ _ _ _ _ _ hR => False.elim hR, fun _ _ _ _ _ _ hR => False.elim hR, fun _ _ _ _ _ _ hR => False.elim hR⟩
    | succ k ih =>
      refine ⟨?_, ?_, ?_, ?_⟩
      · intro t li lj H locs ls hR hl h
        have hR : wbX12_remembers_0 (wpX12_remembers k) k t li lj Q := hR
        unfold wbX12_remembers_0 at hR
        refine lv_aload_n hx hb dX12_remembers_0 rfl (lv_at hl 0 rfl) ?_
        refine x_get (ci := 12) (C := RX12) (T := TX12) (N := 31) (v := .int (t.1 4)) B h hin12 0 13 rfl rfl (by decide) (by decide +kernel) rfl dX12_remembers_1 ?_
        refine lv_bipush (v := 16) hx hb dX12_remembers_4 (by decide) ?_
        refine lv_icmp_ne (tgt := 50) hx hb dX12_remembers_6 (by decide) (fun c_1 => ?_) (fun c_1 => ?_)
        · have hR := hR.1 c_1
          exact ih.2.2.1 t li lj H locs ls hR (lv_sub hl [0] rfl) h
        · have hR := hR.2 c_1
          refine lv_bipush (v := 120) hx hb dX12_remembers_9 (by decide) ?_
          refine lv_istore_n (lv' := [(1, .int 120), (0, .ref (bd 0))]) hx hb dX12_remembers_11 rfl hl (by decide) rfl (fun ls hl => ?_)
          exact ih.2.1 t (uI li 1 120) lj H locs ls hR (lv_sub hl [1, 0] rfl) h
      · intro t li lj H locs ls hR hl h
        have hR : wbX12_remembers_1 (wpX12_remembers k) k t li lj Q := hR
        unfold wbX12_remembers_1 at hR
        refine lv_iload_n hx hb dX12_remembers_12 rfl (lv_at hl 1 rfl) ?_
        refine lv_sipush (v := 1920) hx hb dX12_remembers_13 (by decide) ?_
        refine lv_icmp_ge (tgt := 40) hx hb dX12_remembers_16 (by decide) (fun c_2 => ?_) (fun c_2 => ?_)
        · have hR := hR.1 c_2
          refine lv_aload_n hx hb dX12_remembers_40 rfl (lv_at hl 0 rfl) ?_
          refine lv_dup hx hb dX12_remembers_41 rfl ?_
          refine x_get (ci := 12) (C := RX12) (T := TX12) (N := 31) (v := .int (t.1 4)) B h hin12 0 13 rfl rfl (by decide) (by decide +kernel) rfl dX12_remembers_42 ?_
          refine lv_iconst (v := 1) hx hb dX12_remembers_45 (by decide) ?_
          refine lv_isub hx hb dX12_remembers_46 ?_
          refine lv_topi (fun v_3 ev_3 => ?_)
          have hR := hR v_3 ev_3
          refine x_put (ci := 12) (C := RX12) (T := TX12) (N := 31) (v := .int v_3) (ty := .int) B h hin12 tyX12 tyX12_ok nmX12 0 13 rfl rfl (by decide) (by decide +kernel) rfl rfl rfl rfl (Nat.le_of_ble_eq_true rfl) dX12_remembers_47 (fun H locs h => ?_)
          obtain ⟨t_4, et_4⟩ : ∃ v : XT, v = sI t 4 v_3 := ⟨_, rfl⟩
          have hR := hR t_4 et_4
          have h : Hp D A s.heap (wM cI cJ cB cZ bd t_4) H locs := by rw [et_4]; exact h
          exact ih.2.2.1 t_4 li lj H locs ls hR (lv_sub hl [0] rfl) h
        · have hR := hR.2 c_2
          refine lv_aload_n hx hb dX12_remembers_19 rfl (lv_at hl 0 rfl) ?_
          refine x_get (ci := 12) (C := RX12) (T := TX12) (N := 31) (v := .ref (bd 9)) B h hin12 0 12 rfl rfl (by decide) (by decide +kernel) rfl dX12_remembers_20 ?_
          refine lv_iload_n hx hb dX12_remembers_23 rfl (lv_at hl 1 rfl) ?_
          refine lv_bipush (v := 120) hx hb dX12_remembers_24 (by decide) ?_
          refine lv_isub hx hb dX12_remembers_26 ?_
          refine lv_topi (fun v_5 ev_5 => ?_)
          have hR := hR v_5 ev_5
          refine lv_aload_n hx hb dX12_remembers_27 rfl (lv_at hl 0 rfl) ?_
          refine x_get (ci := 12) (C := RX12) (T := TX12) (N := 31) (v := .ref (bd 9)) B h hin12 0 12 rfl rfl (by decide) (by decide +kernel) rfl dX12_remembers_28 ?_
          refine lv_iload_n hx hb dX12_remembers_31 rfl (lv_at hl 1 rfl) ?_
          obtain ⟨hb_6, hR⟩ := hR
          refine va_iald (f := (t.2.2.1 8)) hx hb B.2.1 h.1 9 0 rfl rfl hb_6 dX12_remembers_32 ?_
          refine lv_topi (fun v_6 ev_6 => ?_)
          have hR := hR v_6 ev_6
          obtain ⟨hb_7, hR⟩ := hR
          refine z_iast (f := (t.2.2.1 8)) B h 9 0 rfl rfl hb_7 dX12_remembers_33 (fun H locs h => ?_)
          obtain ⟨t_7, et_7⟩ : ∃ v : XT, v = sA t 8 (upd (t.2.2.1 8) v_5.toNatClampNeg v_6) := ⟨_, rfl⟩
          have hR := hR t_7 et_7
          have h : Hp D A s.heap (wM cI cJ cB cZ bd t_7) H locs := by rw [et_7]; exact h
          obtain ⟨v_8, ev_8⟩ : ∃ v : Int32, v = (li 1) + Int32.ofInt 1 := ⟨_, rfl⟩
          have hR := hR v_8 ev_8
          refine lv_iinc (v := v_8) (lv' := [(1, .int v_8), (0, .ref (bd 0))]) hx hb dX12_remembers_34 hl (k := 1) rfl ev_8.symm (by decide) rfl (fun ls hl => ?_)
          refine lv_goto (tgt := 12) hx hb dX12_remembers_37 (by decide) ?_
          exact ih.2.1 t_7 (uI li 1 v_8) lj H locs ls hR (lv_sub hl [1, 0] rfl) h
      · intro t li lj H locs ls hR hl h
        have hR : wbX12_remembers_2 (wpX12_remembers k) k t li lj Q := hR
        unfold wbX12_remembers_2 at hR
        refine lv_bipush (v := 120) hx hb dX12_remembers_50 (by decide) ?_
        refine lv_aload_n hx hb dX12_remembers_52 rfl (lv_at hl 0 rfl) ?_
        refine x_get (ci := 12) (C := RX12) (T := TX12) (N := 31) (v := .int (t.1 4)) B h hin12 0 13 rfl rfl (by decide) (by decide +kernel) rfl dX12_remembers_53 ?_
        refine lv_imul hx hb dX12_remembers_56 ?_
        refine lv_topi (fun v_9 ev_9 => ?_)
        have hR := hR v_9 ev_9
        refine lv_istore_n (lv' := [(1, .int v_9), (0, .ref (bd 0))]) hx hb dX12_remembers_57 rfl hl (by decide) rfl (fun ls hl => ?_)
        refine lv_iconst (v := 0) hx hb dX12_remembers_58 (by decide) ?_
        refine lv_istore_n (lv' := [(2, .int 0), (1, .int v_9), (0, .ref (bd 0))]) hx hb dX12_remembers_59 rfl hl (by decide) rfl (fun ls hl => ?_)
        exact ih.2.2.2 t (uI (uI li 1 v_9) 2 0) lj H locs ls hR (lv_sub hl [2, 1, 0] rfl) h
      · intro t li lj H locs ls hR hl h
        have hR : wbX12_remembers_3 (wpX12_remembers k) k t li lj Q := hR
        unfold wbX12_remembers_3 at hR
        refine lv_iload_n hx hb dX12_remembers_60 rfl (lv_at hl 2 rfl) ?_
        refine lv_bipush (v := 60) hx hb dX12_remembers_61 (by decide) ?_
        refine lv_icmp_ge (tgt := 106) hx hb dX12_remembers_63 (by decide) (fun c_10 => ?_) (fun c_10 => ?_)
        · have hR := hR.1 c_10
          refine lv_aload_n hx hb dX12_remembers_106 rfl (lv_at hl 0 rfl) ?_
          refine lv_dup hx hb dX12_remembers_107 rfl ?_
          refine x_get (ci := 12) (C := RX12) (T := TX12) (N := 31) (v := .int (t.1 4)) B h hin12 0 13 rfl rfl (by decide) (by decide +kernel) rfl dX12_remembers_108 ?_
          refine lv_iconst (v := 1) hx hb dX12_remembers_111 (by decide) ?_
          refine lv_iadd hx hb dX12_remembers_112 ?_
          refine lv_topi (fun v_11 ev_11 => ?_)
          have hR := hR v_11 ev_11
          refine x_put (ci := 12) (C := RX12) (T := TX12) (N := 31) (v := .int v_11) (ty := .int) B h hin12 tyX12 tyX12_ok nmX12 0 13 rfl rfl (by decide) (by decide +kernel) rfl rfl rfl rfl (Nat.le_of_ble_eq_true rfl) dX12_remembers_113 (fun H locs h => ?_)
          obtain ⟨t_12, et_12⟩ : ∃ v : XT, v = sI t 4 v_11 := ⟨_, rfl⟩
          have hR := hR t_12 et_12
          have h : Hp D A s.heap (wM cI cJ cB cZ bd t_12) H locs := by rw [et_12]; exact h
          exact x_vret (w1 := (fun u : XT => (wM cI cJ cB cZ bd u))) t_12 B h hr hR dX12_remembers_116
        · have hR := hR.2 c_10
          refine lv_aload_n hx hb dX12_remembers_66 rfl (lv_at hl 0 rfl) ?_
          refine x_get (ci := 12) (C := RX12) (T := TX12) (N := 31) (v := .ref (bd 9)) B h hin12 0 12 rfl rfl (by decide) (by decide +kernel) rfl dX12_remembers_67 ?_
          refine lv_iload_n hx hb dX12_remembers_70 rfl (lv_at hl 1 rfl) ?_
          refine lv_iload_n hx hb dX12_remembers_71 rfl (lv_at hl 2 rfl) ?_
          refine lv_iadd hx hb dX12_remembers_72 ?_
          refine lv_topi (fun v_13 ev_13 => ?_)
          have hR := hR v_13 ev_13
          refine lv_aload_n hx hb dX12_remembers_73 rfl (lv_at hl 0 rfl) ?_
          refine x_get (ci := 12) (C := RX12) (T := TX12) (N := 31) (v := .ref (bd 5)) B h hin12 0 8 rfl rfl (by decide) (by decide +kernel) rfl dX12_remembers_74 ?_
          refine lv_iload_n hx hb dX12_remembers_77 rfl (lv_at hl 2 rfl) ?_
          obtain ⟨hb_14, hR⟩ := hR
          refine va_iald (f := (t.2.2.1 4)) hx hb B.2.1 h.1 5 0 rfl rfl hb_14 dX12_remembers_78 ?_
          refine lv_topi (fun v_14 ev_14 => ?_)
          have hR := hR v_14 ev_14
          obtain ⟨hb_15, hR⟩ := hR
          refine z_iast (f := (t.2.2.1 8)) B h 9 0 rfl rfl hb_15 dX12_remembers_79 (fun H locs h => ?_)
          obtain ⟨t_15, et_15⟩ : ∃ v : XT, v = sA t 8 (upd (t.2.2.1 8) v_13.toNatClampNeg v_14) := ⟨_, rfl⟩
          have hR := hR t_15 et_15
          have h : Hp D A s.heap (wM cI cJ cB cZ bd t_15) H locs := by rw [et_15]; exact h
          refine lv_aload_n hx hb dX12_remembers_80 rfl (lv_at hl 0 rfl) ?_
          refine x_get (ci := 12) (C := RX12) (T := TX12) (N := 31) (v := .ref (bd 9)) B h hin12 0 12 rfl rfl (by decide) (by decide +kernel) rfl dX12_remembers_81 ?_
          refine lv_iload_n hx hb dX12_remembers_84 rfl (lv_at hl 1 rfl) ?_
          refine lv_bipush (v := 60) hx hb dX12_remembers_85 (by decide) ?_
          refine lv_iadd hx hb dX12_remembers_87 ?_
          refine lv_topi (fun v_16 ev_16 => ?_)
          have hR := hR v_16 ev_16
          refine lv_iload_n hx hb dX12_remembers_88 rfl (lv_at hl 2 rfl) ?_
          refine lv_iadd hx hb dX12_remembers_89 ?_
          refine lv_topi (fun v_17 ev_17 => ?_)
          have hR := hR v_17 ev_17
          refine lv_aload_n hx hb dX12_remembers_90 rfl (lv_at hl 0 rfl) ?_
          refine x_get (ci := 12) (C := RX12) (T := TX12) (N := 31) (v := .ref (bd 6)) B h hin12 0 9 rfl rfl (by decide) (by decide +kernel) rfl dX12_remembers_91 ?_
          refine lv_iload_n hx hb dX12_remembers_94 rfl (lv_at hl 2 rfl) ?_
          obtain ⟨hb_18, hR⟩ := hR
          refine va_zald (f := (t_15.2.2.1 5)) hx hb B.2.1 h.1 6 3 rfl rfl hb_18 dX12_remembers_95 ?_
          refine lv_topi (fun v_18 ev_18 => ?_)
          have hR := hR v_18 ev_18
          refine x_cSIE (n := 1) (As := [.int v_18]) (rest := [.int v_17, .ref (bd 9)]) B h (wkX12_truth l D cI cJ cB cZ bd k v_18 _ hR) ⟨⟨_, rfl⟩, by decide +kernel, Nat.le_of_ble_eq_true rfl, Nat.le_of_ble_eq_true rfl⟩ gX12_remembers_X12_truth rfl hl.1 rfl (Nat.le_of_ble_eq_true rfl) dX12_remembers_96 ⟨Nat.le_of_ble_eq_true rfl, Nat.le_of_ble_eq_true rfl⟩ (fun r_19 _ H locs hR h => ?_)
          obtain ⟨hb_20, hR⟩ := hR
          refine z_iast (f := (t_15.2.2.1 8)) B h 9 0 rfl rfl hb_20 dX12_remembers_99 (fun H locs h => ?_)
          obtain ⟨t_20, et_20⟩ : ∃ v : XT, v = sA t_15 8 (upd (t_15.2.2.1 8) v_17.toNatClampNeg r_19) := ⟨_, rfl⟩
          have hR := hR t_20 et_20
          have h : Hp D A s.heap (wM cI cJ cB cZ bd t_20) H locs := by rw [et_20]; exact h
          obtain ⟨v_21, ev_21⟩ : ∃ v : Int32, v = (li 2) + Int32.ofInt 1 := ⟨_, rfl⟩
          have hR := hR v_21 ev_21
          refine lv_iinc (v := v_21) (lv' := [(2, .int v_21), (0, .ref (bd 0)), (1, .int (li 1))]) hx hb dX12_remembers_100 hl (k := 2) rfl ev_21.symm (by decide) rfl (fun ls hl => ?_)
          refine lv_goto (tgt := 60) hx hb dX12_remembers_103 (by decide) ?_
          exact ih.2.2.2 t_20 (uI li 2 v_21) lj H locs ls hR (lv_sub hl [1, 2, 0] rfl) h
  exact (main k).1 t _ _ s.heap [] ls hR hl h
set_option maxRecDepth 20000 in
theorem ggX12_isCritical_X12_isThere : GoodIn wsX12_isCritical wsX12_isThere := goodIn_r _ [6, 7, 8, 9, 10, 5, 11, 12, 13, 14, 15, 16, 17, 18, 19, 20, 21, 22, 23, 24, 25, 26, 27, 28, 29, 30, 31, 32, 33, 34, 35, 36, 37, 38, 39, 40, 41, 42, 43, 44, 45, 46] (by decide +kernel) (by decide +kernel)
set_option maxRecDepth 20000 in
theorem gX12_isCritical_X12_isThere : GoodIn wsX12_isCritical (wsV RX12 156 RX12 yX12_isThere wsX12_isThere) := goodIn_app (goodIn_of _ (by decide +kernel)) ggX12_isCritical_X12_isThere
def wbX12_isCritical_0 (rec : Nat → XT → (Nat → Int32) → (Nat → Int64) → (Int32 → XT → Prop) → Prop) (k : Nat) (t : XT) (li : Nat → Int32) (lj : Nat → Int64) (Q : Int32 → XT → Prop) : Prop :=
  (wqX12_isThere k t (li 1) (fun r_1 t_1 => ((r_1 = 0) → rec 1 t_1 li lj Q) ∧ (¬ (r_1 = 0) → (vp_in (li 1) 60 ∧ (∀ v_3 : Int32, v_3 = (t_1.2.2.1 4) (li 1).toNatClampNeg → ((¬ v_3 = (-1)) → rec 1 t_1 li lj Q) ∧ ((v_3 = (-1)) → Q 1 t_1))))))
def wbX12_isCritical_1 (rec : Nat → XT → (Nat → Int32) → (Nat → Int64) → (Int32 → XT → Prop) → Prop) (k : Nat) (t : XT) (li : Nat → Int32) (lj : Nat → Int64) (Q : Int32 → XT → Prop) : Prop :=
  Q 0 t
def wpX12_isCritical : Nat → Nat → XT → (Nat → Int32) → (Nat → Int64) → (Int32 → XT → Prop) → Prop
  | 0, _, _, _, _, _ => False
  | k + 1, 0, t, li, lj, Q => wbX12_isCritical_0 (wpX12_isCritical k) k t li lj Q
  | k + 1, 1, t, li, lj, Q => wbX12_isCritical_1 (wpX12_isCritical k) k t li lj Q
  | _ + 1, _, _, _, _, _ => False
def wqX12_isCritical (k : Nat) (t : XT) (a1 : Int32) (Q : Int32 → XT → Prop) : Prop := wpX12_isCritical k 0 t (uI (fun _ => 0) 1 a1) (fun _ => 0) Q
set_option maxHeartbeats 8000000 in
set_option maxRecDepth 100000 in
theorem wkX12_isCritical (l : Launch) (D : va_G) (cI cJ cB cZ : ClassId) (bd : Nat → Nat) (k : Nat) (t : XT) (a1 : Int32) (Q : Int32 → XT → Prop) (hR : wqX12_isCritical k t a1 Q) : MetI l yX12_isCritical wsX12_isCritical 3 64 0 0 D (TYS cI cJ cB cZ) (wM cI cJ cB cZ bd t) [.ref (bd 0), .int a1] (fun r u => Q r u) (fun u : XT => (wM cI cJ cB cZ bd u)) := by
  refine x_startI (ty := .boolean) (cc := cX12_isCritical) (by decide) rfl (Nat.le_of_ble_eq_true rfl) ?_
  intro p e s m args below meth c A ls B hr hnm h hl
  have hx := B.1.1
  have hb := B.1.2.1
  have hml := B.1.2.2.1
  have hts := B.1.2.2.2.2
  have hown : s.vm.findClass RX12 = some m.cls := B.1.2.2.2.1
  have hin12 : ∀ w ∈ u_ws RX12 TX12 31, w ∈ wsX12_isCritical := by decide +kernel
  have main : ∀ k : Nat, (∀ (t : XT) (li : Nat → Int32) (lj : Nat → Int64) (H : Heap) (locs : List Loc) (ls : Array Slot), wpX12_isCritical k 0 t li lj Q → lv_has ls 2 [(0, .ref (bd 0)), (1, .int (li 1))] → Hp D A s.heap (wM cI cJ cB cZ bd t) H locs → W p l e { frames := 3, cells := 0, slots := 0, locals := 64 } s m args below meth c H locs 0 0 (MQ below (va_Qi (fun r u => Q r u) (fun u t => xEnd D ((fun u : XT => (wM cI cJ cB cZ bd u)) u) A t) A) args s 0 0 A) (F0 m 0 ls [])) ∧
      (∀ (t : XT) (li : Nat → Int32) (lj : Nat → Int64) (H : Heap) (locs : List Loc) (ls : Array Slot), wpX12_isCritical k 1 t li lj Q → lv_has ls 2 [(0, .ref (bd 0)), (1, .int (li 1))] → Hp D A s.heap (wM cI cJ cB cZ bd t) H locs → W p l e { frames := 3, cells := 0, slots := 0, locals := 64 } s m args below meth c H locs 0 0 (MQ below (va_Qi (fun r u => Q r u) (fun u t => xEnd D ((fun u : XT => (wM cI cJ cB cZ bd u)) u) A t) A) args s 0 0 A) (F0 m 22 ls [])) := by
    intro k
    induction k with
    | zero => exact ⟨fun _ _ _ _ _ _ hR => False.elim hR, fun _ _ _ _ _ _ hR => False.elim hR⟩
    | succ k ih =>
      refine ⟨?_, ?_⟩
      · intro t li lj H locs ls hR hl h
        have hR : wbX12_isCritical_0 (wpX12_isCritical k) k t li lj Q := hR
        unfold wbX12_isCritical_0 at hR
        refine lv_aload_n hx hb dX12_isCritical_0 rfl (lv_at hl 0 rfl) ?_
        refine lv_iload_n hx hb dX12_isCritical_1 rfl (lv_at hl 1 rfl) ?_
        refine x_cVIF (n := 1) (As := [.int (li 1)]) (rest := []) B h (wkX12_isThere l D cI cJ cB cZ bd k t (li 1) _ hR) ⟨⟨_, rfl⟩, by decide +kernel, Nat.le_of_ble_eq_true rfl, Nat.le_of_ble_eq_true rfl⟩ gX12_isCritical_X12_isThere (show ((wM cI cJ cB cZ bd t) : va_W)[0]? = some (_, .inr (12, _)) from rfl) rfl rfl hl.1 rfl (Nat.le_of_ble_eq_true rfl) dX12_isCritical_2 ⟨Nat.le_of_ble_eq_true rfl, Nat.le_of_ble_eq_true rfl⟩ (fun r_1 t_1 H locs hR h => ?_)
        refine lv_if_eq (tgt := 22) hx hb dX12_isCritical_5 (by decide) (fun c_2 => ?_) (fun c_2 => ?_)
        · have hR := hR.1 c_2
          exact ih.2 t_1 li lj H locs ls hR (lv_sub hl [0, 1] rfl) h
        · have hR := hR.2 c_2
          refine lv_aload_n hx hb dX12_isCritical_8 rfl (lv_at hl 0 rfl) ?_
          refine x_get (ci := 12) (C := RX12) (T := TX12) (N := 31) (v := .ref (bd 5)) B h hin12 0 8 rfl rfl (by decide) (by decide +kernel) rfl dX12_isCritical_9 ?_
          refine lv_iload_n hx hb dX12_isCritical_12 rfl (lv_at hl 1 rfl) ?_
          obtain ⟨hb_3, hR⟩ := hR
          refine va_iald (f := (t_1.2.2.1 4)) hx hb B.2.1 h.1 5 0 rfl rfl hb_3 dX12_isCritical_13 ?_
          refine lv_topi (fun v_3 ev_3 => ?_)
          have hR := hR v_3 ev_3
          refine lv_iconst (v := (-1)) hx hb dX12_isCritical_14 (by decide) ?_
          refine lv_icmp_ne (tgt := 22) hx hb dX12_isCritical_15 (by decide) (fun c_4 => ?_) (fun c_4 => ?_)
          · have hR := hR.1 c_4
            exact ih.2 t_1 li lj H locs ls hR (lv_sub hl [0, 1] rfl) h
          · have hR := hR.2 c_4
            refine lv_iconst (v := 1) hx hb dX12_isCritical_18 (by decide) ?_
            refine lv_goto (tgt := 23) hx hb dX12_isCritical_19 (by decide) ?_
            exact x_iret (w1 := (fun u : XT => (wM cI cJ cB cZ bd u))) t_1 B h hr rfl hR dX12_isCritical_23
      · intro t li lj H locs ls hR hl h
        have hR : wbX12_isCritical_1 (wpX12_isCritical k) k t li lj Q := hR
        unfold wbX12_isCritical_1 at hR
        refine lv_iconst (v := 0) hx hb dX12_isCritical_22 (by decide) ?_
        exact x_iret (w1 := (fun u : XT => (wM cI cJ cB cZ bd u))) t B h hr rfl hR dX12_isCritical_23
  exact (main k).1 t _ _ s.heap [] ls hR hl h
set_option maxRecDepth 20000 in
theorem ggX12_criticalMany_X12_isCritical : GoodIn wsX12_criticalMany wsX12_isCritical := goodIn_r _ [6, 7, 8, 9, 10, 5, 11, 12, 13, 14, 15, 16, 1, 17, 18, 19, 23, 24, 25, 26, 27, 28, 29, 30, 31, 32, 33, 34, 35, 36, 37, 38, 39, 40, 41, 42, 43, 44, 45, 46, 47, 48, 49, 50, 51, 52, 53] (by decide +kernel) (by decide +kernel)
set_option maxRecDepth 20000 in
theorem gX12_criticalMany_X12_isCritical : GoodIn wsX12_criticalMany (wsV RX12 159 RX12 yX12_isCritical wsX12_isCritical) := goodIn_app (goodIn_of _ (by decide +kernel)) ggX12_criticalMany_X12_isCritical
set_option maxRecDepth 20000 in
theorem ggX12_criticalMany_X12_truth : GoodIn wsX12_criticalMany wsX12_truth := goodIn_r _ [22] (by decide +kernel) (by decide +kernel)
set_option maxRecDepth 20000 in
theorem gX12_criticalMany_X12_truth : GoodIn wsX12_criticalMany (va_wsS RX12 105 yX12_truth wsX12_truth) := goodIn_app (goodIn_of _ (by decide +kernel)) ggX12_criticalMany_X12_truth
def wbX12_criticalMany_0 (rec : Nat → XT → (Nat → Int32) → (Nat → Int64) → (Int32 → XT → Prop) → Prop) (k : Nat) (t : XT) (li : Nat → Int32) (lj : Nat → Int64) (Q : Int32 → XT → Prop) : Prop :=
  rec 1 t (uI (uI li 1 0) 2 0) lj Q
def wbX12_criticalMany_1 (rec : Nat → XT → (Nat → Int32) → (Nat → Int64) → (Int32 → XT → Prop) → Prop) (k : Nat) (t : XT) (li : Nat → Int32) (lj : Nat → Int64) (Q : Int32 → XT → Prop) : Prop :=
  ((((t.1 3) : Int32) ≤ (li 2)) → Q (li 1) t) ∧ (¬ (((t.1 3) : Int32) ≤ (li 2)) → (wqX12_isCritical k t (li 2) (fun r_2 t_2 => (wqX12_truth k r_2 (fun r_3 => (∀ v_4 : Int32, v_4 = ((li 1) + r_3) → (∀ v_5 : Int32, v_5 = (li 2) + Int32.ofInt 1 → rec 1 t_2 (uI (uI li 1 v_4) 2 v_5) lj Q)))))))
def wpX12_criticalMany : Nat → Nat → XT → (Nat → Int32) → (Nat → Int64) → (Int32 → XT → Prop) → Prop
  | 0, _, _, _, _, _ => False
  | k + 1, 0, t, li, lj, Q => wbX12_criticalMany_0 (wpX12_criticalMany k) k t li lj Q
  | k + 1, 1, t, li, lj, Q => wbX12_criticalMany_1 (wpX12_criticalMany k) k t li lj Q
  | _ + 1, _, _, _, _, _ => False
def wqX12_criticalMany (k : Nat) (t : XT)  (Q : Int32 → XT → Prop) : Prop := wpX12_criticalMany k 0 t (fun _ => 0) (fun _ => 0) Q
set_option maxHeartbeats 8000000 in
set_option maxRecDepth 100000 in
theorem wkX12_criticalMany (l : Launch) (D : va_G) (cI cJ cB cZ : ClassId) (bd : Nat → Nat) (k : Nat) (t : XT)  (Q : Int32 → XT → Prop) (hR : wqX12_criticalMany k t  Q) : MetI l yX12_criticalMany wsX12_criticalMany 4 85 0 0 D (TYS cI cJ cB cZ) (wM cI cJ cB cZ bd t) [.ref (bd 0)] (fun r u => Q r u) (fun u : XT => (wM cI cJ cB cZ bd u)) := by
  refine x_startI (ty := .int) (cc := cX12_criticalMany) (by decide) rfl (Nat.le_of_ble_eq_true rfl) ?_
  intro p e s m args below meth c A ls B hr hnm h hl
  have hx := B.1.1
  have hb := B.1.2.1
  have hml := B.1.2.2.1
  have hts := B.1.2.2.2.2
  have hown : s.vm.findClass RX12 = some m.cls := B.1.2.2.2.1
  have hin12 : ∀ w ∈ u_ws RX12 TX12 31, w ∈ wsX12_criticalMany := by decide +kernel
  have main : ∀ k : Nat, (∀ (t : XT) (li : Nat → Int32) (lj : Nat → Int64) (H : Heap) (locs : List Loc) (ls : Array Slot), wpX12_criticalMany k 0 t li lj Q → lv_has ls 3 [(0, .ref (bd 0))] → Hp D A s.heap (wM cI cJ cB cZ bd t) H locs → W p l e { frames := 4, cells := 0, slots := 0, locals := 85 } s m args below meth c H locs 0 0 (MQ below (va_Qi (fun r u => Q r u) (fun u t => xEnd D ((fun u : XT => (wM cI cJ cB cZ bd u)) u) A t) A) args s 0 0 A) (F0 m 0 ls [])) ∧
      (∀ (t : XT) (li : Nat → Int32) (lj : Nat → Int64) (H : Heap) (locs : List Loc) (ls : Array Slot), wpX12_criticalMany k 1 t li lj Q → lv_has ls 3 [(0, .ref (bd 0)), (1, .int (li 1)), (2, .int (li 2))] → Hp D A s.heap (wM cI cJ cB cZ bd t) H locs → W p l e { frames := 4, cells := 0, slots := 0, locals := 85 } s m args below meth c H locs 0 0 (MQ below (va_Qi (fun r u => Q r u) (fun u t => xEnd D ((fun u : XT => (wM cI cJ cB cZ bd u)) u) A t) A) args s 0 0 A) (F0 m 4 ls [])) := by
    intro k
    induction k with
    | zero => exact ⟨fun _ _ _ _ _ _ hR => False.elim hR, fun _ _ _ _ _ _ hR => False.elim hR⟩
    | succ k ih =>
      refine ⟨?_, ?_⟩
      · intro t li lj H locs ls hR hl h
        have hR : wbX12_criticalMany_0 (wpX12_criticalMany k) k t li lj Q := hR
        unfold wbX12_criticalMany_0 at hR
        refine lv_iconst (v := 0) hx hb dX12_criticalMany_0 (by decide) ?_
        refine lv_istore_n (lv' := [(1, .int 0), (0, .ref (bd 0))]) hx hb dX12_criticalMany_1 rfl hl (by decide) rfl (fun ls hl => ?_)
        refine lv_iconst (v := 0) hx hb dX12_criticalMany_2 (by decide) ?_
        refine lv_istore_n (lv' := [(2, .int 0), (1, .int 0), (0, .ref (bd 0))]) hx hb dX12_criticalMany_3 rfl hl (by decide) rfl (fun ls hl => ?_)
        exact ih.2 t (uI (uI li 1 0) 2 0) lj H locs ls hR (lv_sub hl [2, 1, 0] rfl) h
      · intro t li lj H locs ls hR hl h
        have hR : wbX12_criticalMany_1 (wpX12_criticalMany k) k t li lj Q := hR
        unfold wbX12_criticalMany_1 at hR
        refine lv_iload_n hx hb dX12_criticalMany_4 rfl (lv_at hl 2 rfl) ?_
        refine lv_aload_n hx hb dX12_criticalMany_5 rfl (lv_at hl 0 rfl) ?_
        refine x_get (ci := 12) (C := RX12) (T := TX12) (N := 31) (v := .int (t.1 3)) B h hin12 0 5 rfl rfl (by decide) (by decide +kernel) rfl dX12_criticalMany_6 ?_
        refine lv_icmp_ge (tgt := 29) hx hb dX12_criticalMany_9 (by decide) (fun c_1 => ?_) (fun c_1 => ?_)
        · have hR := hR.1 c_1
          refine lv_iload_n hx hb dX12_criticalMany_29 rfl (lv_at hl 1 rfl) ?_
          exact x_iret (w1 := (fun u : XT => (wM cI cJ cB cZ bd u))) t B h hr rfl hR dX12_criticalMany_30
        · have hR := hR.2 c_1
          refine lv_iload_n hx hb dX12_criticalMany_12 rfl (lv_at hl 1 rfl) ?_
          refine lv_aload_n hx hb dX12_criticalMany_13 rfl (lv_at hl 0 rfl) ?_
          refine lv_iload_n hx hb dX12_criticalMany_14 rfl (lv_at hl 2 rfl) ?_
          refine x_cVIF (n := 1) (As := [.int (li 2)]) (rest := [.int (li 1)]) B h (wkX12_isCritical l D cI cJ cB cZ bd k t (li 2) _ hR) ⟨⟨_, rfl⟩, by decide +kernel, Nat.le_of_ble_eq_true rfl, Nat.le_of_ble_eq_true rfl⟩ gX12_criticalMany_X12_isCritical (show ((wM cI cJ cB cZ bd t) : va_W)[0]? = some (_, .inr (12, _)) from rfl) rfl rfl hl.1 rfl (Nat.le_of_ble_eq_true rfl) dX12_criticalMany_15 ⟨Nat.le_of_ble_eq_true rfl, Nat.le_of_ble_eq_true rfl⟩ (fun r_2 t_2 H locs hR h => ?_)
          refine x_cSIE (n := 1) (As := [.int r_2]) (rest := [.int (li 1)]) B h (wkX12_truth l D cI cJ cB cZ bd k r_2 _ hR) ⟨⟨_, rfl⟩, by decide +kernel, Nat.le_of_ble_eq_true rfl, Nat.le_of_ble_eq_true rfl⟩ gX12_criticalMany_X12_truth rfl hl.1 rfl (Nat.le_of_ble_eq_true rfl) dX12_criticalMany_18 ⟨Nat.le_of_ble_eq_true rfl, Nat.le_of_ble_eq_true rfl⟩ (fun r_3 _ H locs hR h => ?_)
          refine lv_iadd hx hb dX12_criticalMany_21 ?_
          refine lv_topi (fun v_4 ev_4 => ?_)
          have hR := hR v_4 ev_4
          refine lv_istore_n (lv' := [(1, .int v_4), (0, .ref (bd 0)), (2, .int (li 2))]) hx hb dX12_criticalMany_22 rfl hl (by decide) rfl (fun ls hl => ?_)
          obtain ⟨v_5, ev_5⟩ : ∃ v : Int32, v = (li 2) + Int32.ofInt 1 := ⟨_, rfl⟩
          have hR := hR v_5 ev_5
          refine lv_iinc (v := v_5) (lv' := [(2, .int v_5), (1, .int v_4), (0, .ref (bd 0))]) hx hb dX12_criticalMany_23 hl (k := 2) rfl ev_5.symm (by decide) rfl (fun ls hl => ?_)
          refine lv_goto (tgt := 4) hx hb dX12_criticalMany_26 (by decide) ?_
          exact ih.2 t_2 (uI (uI li 1 v_4) 2 v_5) lj H locs ls hR (lv_sub hl [2, 1, 0] rfl) h
  exact (main k).1 t _ _ s.heap [] ls hR hl h
