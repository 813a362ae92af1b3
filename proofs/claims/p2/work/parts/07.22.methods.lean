set_option maxRecDepth 20000 in
theorem ggX12_takes_X12_isCritical : GoodIn wsX12_takes wsX12_isCritical := goodIn_r _ [8, 9, 10, 11, 12, 7, 13, 3, 14, 15, 16, 17, 1, 18, 19, 20, 21, 22, 23, 24, 25, 26, 27, 28, 29, 30, 31, 32, 33, 34, 35, 36, 37, 38, 39, 40, 41, 42, 43, 44, 45, 46, 47, 48, 49, 50, 51] (by decide +kernel) (by decide +kernel)
set_option maxRecDepth 20000 in
theorem gX12_takes_X12_isCritical : GoodIn wsX12_takes (wsV RX12 159 RX12 yX12_isCritical wsX12_isCritical) := goodIn_app (goodIn_of _ (by decide +kernel)) ggX12_takes_X12_isCritical
def wbX12_takes_0 (rec : Nat → XT → (Nat → Int32) → (Nat → Int64) → (XT → Prop) → Prop) (k : Nat) (t : XT) (li : Nat → Int32) (lj : Nat → Int64) (Q : XT → Prop) : Prop :=
  rec 1 t (uI li 2 0) lj Q
def wbX12_takes_1 (rec : Nat → XT → (Nat → Int32) → (Nat → Int64) → (XT → Prop) → Prop) (k : Nat) (t : XT) (li : Nat → Int32) (lj : Nat → Int64) (Q : XT → Prop) : Prop :=
  ((((t.1 3) : Int32) ≤ (li 2)) → Q t) ∧ (¬ (((t.1 3) : Int32) ≤ (li 2)) → ((¬ (li 1) = 0) → (wqX12_isCritical k t (li 2) (fun r_3 t_3 => rec 2 t_3 (uI (uI li 102 r_3) 101 (li 2)) lj Q))) ∧ (((li 1) = 0) → (vp_in (li 2) 60 ∧ (∀ v_4 : Int32, v_4 = (t.2.2.1 5) (li 2).toNatClampNeg → ((¬ v_4 = 0) → rec 2 t (uI (uI li 102 0) 101 (li 2)) lj Q) ∧ ((v_4 = 0) → rec 2 t (uI (uI li 102 1) 101 (li 2)) lj Q)))))
def wbX12_takes_2 (rec : Nat → XT → (Nat → Int32) → (Nat → Int64) → (XT → Prop) → Prop) (k : Nat) (t : XT) (li : Nat → Int32) (lj : Nat → Int64) (Q : XT → Prop) : Prop :=
  (vp_in (li 101) 60 ∧ (∀ t_6 : XT, t_6 = sA t 11 (upd (t.2.2.1 11) (li 101).toNatClampNeg (vp_nar .boolean (li 102))) → (∀ v_7 : Int32, v_7 = (li 2) + Int32.ofInt 1 → rec 1 t_6 (uI li 2 v_7) lj Q)))
def wpX12_takes : Nat → Nat → XT → (Nat → Int32) → (Nat → Int64) → (XT → Prop) → Prop
  | 0, _, _, _, _, _ => False
  | k + 1, 0, t, li, lj, Q => wbX12_takes_0 (wpX12_takes k) k t li lj Q
  | k + 1, 1, t, li, lj, Q => wbX12_takes_1 (wpX12_takes k) k t li lj Q
  | k + 1, 2, t, li, lj, Q => wbX12_takes_2 (wpX12_takes k) k t li lj Q
  | _ + 1, _, _, _, _, _ => False
def wqX12_takes (k : Nat) (t : XT) (a1 : Int32) (Q : XT → Prop) : Prop := wpX12_takes k 0 t (uI (fun _ => 0) 1 a1) (fun _ => 0) Q
set_option maxHeartbeats 8000000 in
set_option maxRecDepth 100000 in
theorem wkX12_takes (l : Launch) (D : va_G) (cI cJ cB cZ : ClassId) (bd : Nat → Nat) (k : Nat) (t : XT) (a1 : Int32) (Q : XT → Prop) (hR : wqX12_takes k t a1 Q) : MetV l yX12_takes wsX12_takes 4 85 0 0 D (TYS cI cJ cB cZ) (wM cI cJ cB cZ bd t) [.ref (bd 0), .int a1] (fun u => Q u) (fun u : XT => (wM cI cJ cB cZ bd u)) := by
  refine x_startV (ty := .int) (cc := cX12_takes) (by decide) rfl (Nat.le_of_ble_eq_true rfl) ?_
  intro p e s m args below meth c A ls B hr hnm h hl
  have hx := B.1.1
  have hb := B.1.2.1
  have hml := B.1.2.2.1
  have hts := B.1.2.2.2.2
  have hown : s.vm.findClass RX12 = some m.cls := B.1.2.2.2.1
  have hin12 : ∀ w ∈ u_ws RX12 TX12 31, w ∈ wsX12_takes := by decide +kernel
  have main : ∀ k : Nat, (∀ (t : XT) (li : Nat → Int32) (lj : Nat → Int64) (H : Heap) (locs : List Loc) (ls : Array Slot), wpX12_takes k 0 t li lj Q → lv_has ls 3 [(0, .ref (bd 0)), (1, .int (li 1))] → Hp D A s.heap (wM cI cJ cB cZ bd t) H locs → W p l e { frames := 4, cells := 0, slots := 0, locals := 85 } s m args below meth c H locs 0 0 (MQ below (va_Qv (fun u => Q u) (fun u t => xEnd D ((fun u : XT => (wM cI cJ cB cZ bd u)) u) A t) A) args s 0 0 A) (F0 m 0 ls [])) ∧
      (∀ (t : XT) (li : Nat → Int32) (lj : Nat → Int64) (H : Heap) (locs : List Loc) (ls : Array Slot), wpX12_takes k 1 t li lj Q → lv_has ls 3 [(0, .ref (bd 0)), (1, .int (li 1)), (2, .int (li 2))] → Hp D A s.heap (wM cI cJ cB cZ bd t) H locs → W p l e { frames := 4, cells := 0, slots := 0, locals := 85 } s m args below meth c H locs 0 0 (MQ below (va_Qv (fun u => Q u) (fun u t => xEnd D ((fun u : XT => (wM cI cJ cB cZ bd u)) u) A t) A) args s 0 0 A) (F0 m 2 ls [])) ∧
      (∀ (t : XT) (li : Nat → Int32) (lj : Nat → Int64) (H : Heap) (locs : List Loc) (ls : Array Slot), wpX12_takes k 2 t li lj Q → lv_has ls 3 [(0, .ref (bd 0)), (1, .int (li 1)), (2, .int (li 2))] → Hp D A s.heap (wM cI cJ cB cZ bd t) H locs → W p l e { frames := 4, cells := 0, slots := 0, locals := 85 } s m args below meth c H locs 0 0 (MQ below (va_Qv (fun u => Q u) (fun u t => xEnd D ((fun u : XT => (wM cI cJ cB cZ bd u)) u) A t) A) args s 0 0 A) (F0 m 41 ls [.int (li 102), .int (li 101), .ref (bd 16)])) := by
    intro k
    induction k with
    | zero => exact ⟨fun _ _ _ _ _ _ hR => False.elim hR, fun _ _ _ _ _ _ hR => False.elim hR, fun _ _ _ _ _ _ hR => False.elim hR⟩
    | succ k ih =>
      refine ⟨?_, ?_, ?_⟩
      · intro t li lj H locs ls hR hl h
        have hR : wbX12_takes_0 (wpX12_takes k) k t li lj Q := hR
        unfold wbX12_takes_0 at hR
        refine lv_iconst (v := 0) hx hb dX12_takes_0 (by decide) ?_
        refine lv_istore_n (lv' := [(2, .int 0), (0, .ref (bd 0)), (1, .int (li 1))]) hx hb dX12_takes_1 rfl hl (by decide) rfl (fun ls hl => ?_)
        exact ih.2.1 t (uI li 2 0) lj H locs ls hR (lv_sub hl [1, 2, 0] rfl) h
      · intro t li lj H locs ls hR hl h
        have hR : wbX12_takes_1 (wpX12_takes k) k t li lj Q := hR
        unfold wbX12_takes_1 at hR
        refine lv_iload_n hx hb dX12_takes_2 rfl (lv_at hl 2 rfl) ?_
        refine lv_aload_n hx hb dX12_takes_3 rfl (lv_at hl 0 rfl) ?_
        refine x_get (ci := 12) (C := RX12) (T := TX12) (N := 31) (v := .int (t.1 3)) B h hin12 0 5 rfl rfl (by decide) (by decide +kernel) rfl dX12_takes_4 ?_
        refine lv_icmp_ge (tgt := 48) hx hb dX12_takes_7 (by decide) (fun c_1 => ?_) (fun c_1 => ?_)
        · have hR := hR.1 c_1
          exact x_vret (w1 := (fun u : XT => (wM cI cJ cB cZ bd u))) t B h hr hR dX12_takes_48
        · have hR := hR.2 c_1
          refine lv_aload_n hx hb dX12_takes_10 rfl (lv_at hl 0 rfl) ?_
          refine x_get (ci := 12) (C := RX12) (T := TX12) (N := 31) (v := .ref (bd 16)) B h hin12 0 21 rfl rfl (by decide) (by decide +kernel) rfl dX12_takes_11 ?_
          refine lv_iload_n hx hb dX12_takes_14 rfl (lv_at hl 2 rfl) ?_
          refine lv_iload_n hx hb dX12_takes_15 rfl (lv_at hl 1 rfl) ?_
          refine lv_if_ne (tgt := 36) hx hb dX12_takes_16 (by decide) (fun c_2 => ?_) (fun c_2 => ?_)
          · have hR := hR.1 c_2
            refine lv_aload_n hx hb dX12_takes_36 rfl (lv_at hl 0 rfl) ?_
            refine lv_iload_n hx hb dX12_takes_37 rfl (lv_at hl 2 rfl) ?_
            refine x_cVIF (n := 1) (As := [.int (li 2)]) (rest := [.int (li 2), .ref (bd 16)]) B h (wkX12_isCritical l D cI cJ cB cZ bd k t (li 2) _ hR) ⟨⟨_, rfl⟩, by decide +kernel, Nat.le_of_ble_eq_true rfl, Nat.le_of_ble_eq_true rfl⟩ gX12_takes_X12_isCritical (show ((wM cI cJ cB cZ bd t) : va_W)[0]? = some (_, .inr (12, _)) from rfl) rfl rfl hl.1 rfl (Nat.le_of_ble_eq_true rfl) dX12_takes_38 ⟨Nat.le_of_ble_eq_true rfl, Nat.le_of_ble_eq_true rfl⟩ (fun r_3 t_3 H locs hR h => ?_)
            exact ih.2.2 t_3 (uI (uI li 102 r_3) 101 (li 2)) lj H locs ls hR (lv_sub hl [0, 1, 2] rfl) h
          · have hR := hR.2 c_2
            refine lv_aload_n hx hb dX12_takes_19 rfl (lv_at hl 0 rfl) ?_
            refine x_get (ci := 12) (C := RX12) (T := TX12) (N := 31) (v := .ref (bd 6)) B h hin12 0 9 rfl rfl (by decide) (by decide +kernel) rfl dX12_takes_20 ?_
            refine lv_iload_n hx hb dX12_takes_23 rfl (lv_at hl 2 rfl) ?_
            obtain ⟨hb_4, hR⟩ := hR
            refine va_zald (f := (t.2.2.1 5)) hx hb B.2.1 h.1 6 3 rfl rfl hb_4 dX12_takes_24 ?_
            refine lv_topi (fun v_4 ev_4 => ?_)
            have hR := hR v_4 ev_4
            refine lv_if_ne (tgt := 32) hx hb dX12_takes_25 (by decide) (fun c_5 => ?_) (fun c_5 => ?_)
            · have hR := hR.1 c_5
              refine lv_iconst (v := 0) hx hb dX12_takes_32 (by decide) ?_
              refine lv_goto (tgt := 41) hx hb dX12_takes_33 (by decide) ?_
              exact ih.2.2 t (uI (uI li 102 0) 101 (li 2)) lj H locs ls hR (lv_sub hl [0, 1, 2] rfl) h
            · have hR := hR.2 c_5
              refine lv_iconst (v := 1) hx hb dX12_takes_28 (by decide) ?_
              refine lv_goto (tgt := 41) hx hb dX12_takes_29 (by decide) ?_
              exact ih.2.2 t (uI (uI li 102 1) 101 (li 2)) lj H locs ls hR (lv_sub hl [0, 1, 2] rfl) h
      · intro t li lj H locs ls hR hl h
        have hR : wbX12_takes_2 (wpX12_takes k) k t li lj Q := hR
        unfold wbX12_takes_2 at hR
        obtain ⟨hb_6, hR⟩ := hR
        refine z_zast (f := (t.2.2.1 11)) B h 16 3 rfl rfl hb_6 dX12_takes_41 (fun H locs h => ?_)
        obtain ⟨t_6, et_6⟩ : ∃ v : XT, v = sA t 11 (upd (t.2.2.1 11) (li 101).toNatClampNeg (vp_nar .boolean (li 102))) := ⟨_, rfl⟩
        have hR := hR t_6 et_6
        have h : Hp D A s.heap (wM cI cJ cB cZ bd t_6) H locs := by rw [et_6]; exact h
        obtain ⟨v_7, ev_7⟩ : ∃ v : Int32, v = (li 2) + Int32.ofInt 1 := ⟨_, rfl⟩
        have hR := hR v_7 ev_7
        refine lv_iinc (v := v_7) (lv' := [(2, .int v_7), (0, .ref (bd 0)), (1, .int (li 1))]) hx hb dX12_takes_42 hl (k := 2) rfl ev_7.symm (by decide) rfl (fun ls hl => ?_)
        refine lv_goto (tgt := 2) hx hb dX12_takes_45 (by decide) ?_
        exact ih.2.1 t_6 (uI li 2 v_7) lj H locs ls hR (lv_sub hl [1, 2, 0] rfl) h
  exact (main k).1 t _ _ s.heap [] ls hR hl h
set_option maxRecDepth 20000 in
theorem ggX12_takenOf_X12_dimOf : GoodIn wsX12_takenOf wsX12_dimOf := goodIn_r _ [7, 8, 9, 10, 11, 12, 13, 14, 15, 19, 20, 21, 22, 23, 24, 25, 26, 27, 28, 29, 30, 31, 32, 33, 34, 35, 36, 37, 38, 39, 40, 41, 42, 43, 44, 45, 46, 47, 48, 49] (by decide +kernel) (by decide +kernel)
set_option maxRecDepth 20000 in
theorem gX12_takenOf_X12_dimOf : GoodIn wsX12_takenOf (wsV RX12 149 RX12 yX12_dimOf wsX12_dimOf) := goodIn_app (goodIn_of _ (by decide +kernel)) ggX12_takenOf_X12_dimOf
set_option maxRecDepth 20000 in
theorem ggX12_takenOf_X12_truth : GoodIn wsX12_takenOf wsX12_truth := goodIn_r _ [18] (by decide +kernel) (by decide +kernel)
set_option maxRecDepth 20000 in
theorem gX12_takenOf_X12_truth : GoodIn wsX12_takenOf (va_wsS RX12 105 yX12_truth wsX12_truth) := goodIn_app (goodIn_of _ (by decide +kernel)) ggX12_takenOf_X12_truth
def wbX12_takenOf_0 (rec : Nat → XT → (Nat → Int32) → (Nat → Int64) → (Int32 → XT → Prop) → Prop) (k : Nat) (t : XT) (li : Nat → Int32) (lj : Nat → Int64) (Q : Int32 → XT → Prop) : Prop :=
  rec 1 t (uI (uI li 2 0) 3 0) lj Q
def wbX12_takenOf_1 (rec : Nat → XT → (Nat → Int32) → (Nat → Int64) → (Int32 → XT → Prop) → Prop) (k : Nat) (t : XT) (li : Nat → Int32) (lj : Nat → Int64) (Q : Int32 → XT → Prop) : Prop :=
  ((((t.1 3) : Int32) ≤ (li 3)) → Q (li 2) t) ∧ (¬ (((t.1 3) : Int32) ≤ (li 3)) → (vp_in (li 3) 60 ∧ (∀ v_2 : Int32, v_2 = (t.2.2.1 11) (li 3).toNatClampNeg → ((v_2 = 0) → rec 2 t (uI li 100 (li 2)) lj Q) ∧ (¬ (v_2 = 0) → (wqX12_dimOf k t (li 3) (fun r_4 t_4 => ((¬ r_4 = (li 1)) → rec 2 t_4 (uI li 100 (li 2)) lj Q) ∧ ((r_4 = (li 1)) → rec 3 t_4 (uI (uI li 101 1) 100 (li 2)) lj Q)))))))
def wbX12_takenOf_2 (rec : Nat → XT → (Nat → Int32) → (Nat → Int64) → (Int32 → XT → Prop) → Prop) (k : Nat) (t : XT) (li : Nat → Int32) (lj : Nat → Int64) (Q : Int32 → XT → Prop) : Prop :=
  rec 3 t (uI (uI li 101 0) 100 (li 100)) lj Q
def wbX12_takenOf_3 (rec : Nat → XT → (Nat → Int32) → (Nat → Int64) → (Int32 → XT → Prop) → Prop) (k : Nat) (t : XT) (li : Nat → Int32) (lj : Nat → Int64) (Q : Int32 → XT → Prop) : Prop :=
  (wqX12_truth k (li 101) (fun r_6 => (∀ v_7 : Int32, v_7 = ((li 100) + r_6) → (∀ v_8 : Int32, v_8 = (li 3) + Int32.ofInt 1 → rec 1 t (uI (uI li 2 v_7) 3 v_8) lj Q))))
def wpX12_takenOf : Nat → Nat → XT → (Nat → Int32) → (Nat → Int64) → (Int32 → XT → Prop) → Prop
  | 0, _, _, _, _, _ => False
  | k + 1, 0, t, li, lj, Q => wbX12_takenOf_0 (wpX12_takenOf k) k t li lj Q
  | k + 1, 1, t, li, lj, Q => wbX12_takenOf_1 (wpX12_takenOf k) k t li lj Q
  | k + 1, 2, t, li, lj, Q => wbX12_takenOf_2 (wpX12_takenOf k) k t li lj Q
  | k + 1, 3, t, li, lj, Q => wbX12_takenOf_3 (wpX12_takenOf k) k t li lj Q
  | _ + 1, _, _, _, _, _ => False
def wqX12_takenOf (k : Nat) (t : XT) (a1 : Int32) (Q : Int32 → XT → Prop) : Prop := wpX12_takenOf k 0 t (uI (fun _ => 0) 1 a1) (fun _ => 0) Q
set_option maxHeartbeats 8000000 in
set_option maxRecDepth 100000 in
theorem wkX12_takenOf (l : Launch) (D : va_G) (cI cJ cB cZ : ClassId) (bd : Nat → Nat) (k : Nat) (t : XT) (a1 : Int32) (Q : Int32 → XT → Prop) (hR : wqX12_takenOf k t a1 Q) : MetI l yX12_takenOf wsX12_takenOf 2 41 0 0 D (TYS cI cJ cB cZ) (wM cI cJ cB cZ bd t) [.ref (bd 0), .int a1] (fun r u => Q r u) (fun u : XT => (wM cI cJ cB cZ bd u)) := by
  refine x_startI (ty := .int) (cc := cX12_takenOf) (by decide) rfl (Nat.le_of_ble_eq_true rfl) ?_
  intro p e s m args below meth c A ls B hr hnm h hl
  have hx := B.1.1
  have hb := B.1.2.1
  have hml := B.1.2.2.1
  have hts := B.1.2.2.2.2
  have hown : s.vm.findClass RX12 = some m.cls := B.1.2.2.2.1
  have hin12 : ∀ w ∈ u_ws RX12 TX12 31, w ∈ wsX12_takenOf := by decide +kernel
  have main : ∀ k : Nat, (∀ (t : XT) (li : Nat → Int32) (lj : Nat → Int64) (H : Heap) (locs : List Loc) (ls : Array Slot), wpX12_takenOf k 0 t li lj Q → lv_has ls 4 [(0, .ref (bd 0)), (1, .int (li 1))] → Hp D A s.heap (wM cI cJ cB cZ bd t) H locs → W p l e { frames := 2, cells := 0, slots := 0, locals := 41 } s m args below meth c H locs 0 0 (MQ below (va_Qi (fun r u => Q r u) (fun u t => xEnd D ((fun u : XT => (wM cI cJ cB cZ bd u)) u) A t) A) args s 0 0 A) (F0 m 0 ls [])) ∧
      (∀ (t : XT) (li : Nat → Int32) (lj : Nat → Int64) (H : Heap) (locs : List Loc) (ls : Array Slot), wpX12_takenOf k 1 t li lj Q → lv_has ls 4 [(0, .ref (bd 0)), (1, .int (li 1)), (2, .int (li 2)), (3, .int (li 3))] → Hp D A s.heap (wM cI cJ cB cZ bd t) H locs → W p l e { frames := 2, cells := 0, slots := 0, locals := 41 } s m args below meth c H locs 0 0 (MQ below (va_Qi (fun r u => Q r u) (fun u t => xEnd D ((fun u : XT => (wM cI cJ cB cZ bd u)) u) A t) A) args s 0 0 A) (F0 m 4 ls [])) ∧
      (∀ (t : XT) (li : Nat → Int32) (lj : Nat → Int64) (H : Heap) (locs : List Loc) (ls : Array Slot), wpX12_takenOf k 2 t li lj Q → lv_has ls 4 [(0, .ref (bd 0)), (1, .int (li 1)), (2, .int (li 2)), (3, .int (li 3))] → Hp D A s.heap (wM cI cJ cB cZ bd t) H locs → W p l e { frames := 2, cells := 0, slots := 0, locals := 41 } s m args below meth c H locs 0 0 (MQ below (va_Qi (fun r u => Q r u) (fun u t => xEnd D ((fun u : XT => (wM cI cJ cB cZ bd u)) u) A t) A) args s 0 0 A) (F0 m 35 ls [.int (li 100)])) ∧
      (∀ (t : XT) (li : Nat → Int32) (lj : Nat → Int64) (H : Heap) (locs : List Loc) (ls : Array Slot), wpX12_takenOf k 3 t li lj Q → lv_has ls 4 [(0, .ref (bd 0)), (1, .int (li 1)), (2, .int (li 2)), (3, .int (li 3))] → Hp D A s.heap (wM cI cJ cB cZ bd t) H locs → W p l e { frames := 2, cells := 0, slots := 0, locals := 41 } s m args below meth c H locs 0 0 (MQ below (va_Qi (fun r u => Q r u) (fun u t => xEnd D ((fun u : XT => (wM cI cJ cB cZ bd u)) u) A t) A) args s 0 0 A) (F0 m 36 ls [.int (li 101), .int (li 100)])) := by
    intro k
    induction k with
    | zero => exact ⟨fun _ _ _ _ _ _ hR => False.elim hR, fun _ _ _ _ _ _ hR => False.elim hR, fun _ _ _ _ _ _ hR => False.elim hR, fun _ _ _ _ _ _ hR => False.elim hR⟩
    | succ k ih =>
      refine ⟨?_, ?_, ?_, ?_⟩
      · intro t li lj H locs ls hR hl h
        have hR : wbX12_takenOf_0 (wpX12_takenOf k) k t li lj Q := hR
        unfold wbX12_takenOf_0 at hR
        refine lv_iconst (v := 0) hx hb dX12_takenOf_0 (by decide) ?_
        refine lv_istore_n (lv' := [(2, .int 0), (0, .ref (bd 0)), (1, .int (li 1))]) hx hb dX12_takenOf_1 rfl hl (by decide) rfl (fun ls hl => ?_)
        refine lv_iconst (v := 0) hx hb dX12_takenOf_2 (by decide) ?_
        refine lv_istore_n (lv' := [(3, .int 0), (2, .int 0), (0, .ref (bd 0)), (1, .int (li 1))]) hx hb dX12_takenOf_3 rfl hl (by decide) rfl (fun ls hl => ?_)
        exact ih.2.1 t (uI (uI li 2 0) 3 0) lj H locs ls hR (lv_sub hl [2, 3, 1, 0] rfl) h
      · intro t li lj H locs ls hR hl h
        have hR : wbX12_takenOf_1 (wpX12_takenOf k) k t li lj Q := hR
        unfold wbX12_takenOf_1 at hR
        refine lv_iload_n hx hb dX12_takenOf_4 rfl (lv_at hl 3 rfl) ?_
        refine lv_aload_n hx hb dX12_takenOf_5 rfl (lv_at hl 0 rfl) ?_
        refine x_get (ci := 12) (C := RX12) (T := TX12) (N := 31) (v := .int (t.1 3)) B h hin12 0 5 rfl rfl (by decide) (by decide +kernel) rfl dX12_takenOf_6 ?_
        refine lv_icmp_ge (tgt := 47) hx hb dX12_takenOf_9 (by decide) (fun c_1 => ?_) (fun c_1 => ?_)
        · have hR := hR.1 c_1
          refine lv_iload_n hx hb dX12_takenOf_47 rfl (lv_at hl 2 rfl) ?_
          exact x_iret (w1 := (fun u : XT => (wM cI cJ cB cZ bd u))) t B h hr rfl hR dX12_takenOf_48
        · have hR := hR.2 c_1
          refine lv_iload_n hx hb dX12_takenOf_12 rfl (lv_at hl 2 rfl) ?_
          refine lv_aload_n hx hb dX12_takenOf_13 rfl (lv_at hl 0 rfl) ?_
          refine x_get (ci := 12) (C := RX12) (T := TX12) (N := 31) (v := .ref (bd 16)) B h hin12 0 21 rfl rfl (by decide) (by decide +kernel) rfl dX12_takenOf_14 ?_
          refine lv_iload_n hx hb dX12_takenOf_17 rfl (lv_at hl 3 rfl) ?_
          obtain ⟨hb_2, hR⟩ := hR
          refine va_zald (f := (t.2.2.1 11)) hx hb B.2.1 h.1 16 3 rfl rfl hb_2 dX12_takenOf_18 ?_
          refine lv_topi (fun v_2 ev_2 => ?_)
          have hR := hR v_2 ev_2
          refine lv_if_eq (tgt := 35) hx hb dX12_takenOf_19 (by decide) (fun c_3 => ?_) (fun c_3 => ?_)
          · have hR := hR.1 c_3
            exact ih.2.2.1 t (uI li 100 (li 2)) lj H locs ls hR (lv_sub hl [0, 1, 2, 3] rfl) h
          · have hR := hR.2 c_3
            refine lv_aload_n hx hb dX12_takenOf_22 rfl (lv_at hl 0 rfl) ?_
            refine lv_iload_n hx hb dX12_takenOf_23 rfl (lv_at hl 3 rfl) ?_
            refine x_cVIF (n := 1) (As := [.int (li 3)]) (rest := [.int (li 2)]) B h (wkX12_dimOf l D cI cJ cB cZ bd k t (li 3) _ hR) ⟨⟨_, rfl⟩, by decide +kernel, Nat.le_of_ble_eq_true rfl, Nat.le_of_ble_eq_true rfl⟩ gX12_takenOf_X12_dimOf (show ((wM cI cJ cB cZ bd t) : va_W)[0]? = some (_, .inr (12, _)) from rfl) rfl rfl hl.1 rfl (Nat.le_of_ble_eq_true rfl) dX12_takenOf_24 ⟨Nat.le_of_ble_eq_true rfl, Nat.le_of_ble_eq_true rfl⟩ (fun r_4 t_4 H locs hR h => ?_)
            refine lv_iload_n hx hb dX12_takenOf_27 rfl (lv_at hl 1 rfl) ?_
            refine lv_icmp_ne (tgt := 35) hx hb dX12_takenOf_28 (by decide) (fun c_5 => ?_) (fun c_5 => ?_)
            · have hR := hR.1 c_5
              exact ih.2.2.1 t_4 (uI li 100 (li 2)) lj H locs ls hR (lv_sub hl [0, 1, 2, 3] rfl) h
            · have hR := hR.2 c_5
              refine lv_iconst (v := 1) hx hb dX12_takenOf_31 (by decide) ?_
              refine lv_goto (tgt := 36) hx hb dX12_takenOf_32 (by decide) ?_
              exact ih.2.2.2 t_4 (uI (uI li 101 1) 100 (li 2)) lj H locs ls hR (lv_sub hl [0, 1, 2, 3] rfl) h
      · intro t li lj H locs ls hR hl h
        have hR : wbX12_takenOf_2 (wpX12_takenOf k) k t li lj Q := hR
        unfold wbX12_takenOf_2 at hR
        refine lv_iconst (v := 0) hx hb dX12_takenOf_35 (by decide) ?_
        exact ih.2.2.2 t (uI (uI li 101 0) 100 (li 100)) lj H locs ls hR (lv_sub hl [0, 1, 2, 3] rfl) h
      · intro t li lj H locs ls hR hl h
        have hR : wbX12_takenOf_3 (wpX12_takenOf k) k t li lj Q := hR
        unfold wbX12_takenOf_3 at hR
        refine x_cSIE (n := 1) (As := [.int (li 101)]) (rest := [.int (li 100)]) B h (wkX12_truth l D cI cJ cB cZ bd k (li 101) _ hR) ⟨⟨_, rfl⟩, by decide +kernel, Nat.le_of_ble_eq_true rfl, Nat.le_of_ble_eq_true rfl⟩ gX12_takenOf_X12_truth rfl hl.1 rfl (Nat.le_of_ble_eq_true rfl) dX12_takenOf_36 ⟨Nat.le_of_ble_eq_true rfl, Nat.le_of_ble_eq_true rfl⟩ (fun r_6 _ H locs hR h => ?_)
        refine lv_iadd hx hb dX12_takenOf_39 ?_
        refine lv_topi (fun v_7 ev_7 => ?_)
        have hR := hR v_7 ev_7
        refine lv_istore_n (lv' := [(2, .int v_7), (0, .ref (bd 0)), (1, .int (li 1)), (3, .int (li 3))]) hx hb dX12_takenOf_40 rfl hl (by decide) rfl (fun ls hl => ?_)
        obtain ⟨v_8, ev_8⟩ : ∃ v : Int32, v = (li 3) + Int32.ofInt 1 := ⟨_, rfl⟩
        have hR := hR v_8 ev_8
        refine lv_iinc (v := v_8) (lv' := [(3, .int v_8), (2, .int v_7), (0, .ref (bd 0)), (1, .int (li 1))]) hx hb dX12_takenOf_41 hl (k := 3) rfl ev_8.symm (by decide) rfl (fun ls hl => ?_)
        refine lv_goto (tgt := 4) hx hb dX12_takenOf_44 (by decide) ?_
        exact ih.2.1 t (uI (uI li 2 v_7) 3 v_8) lj H locs ls hR (lv_sub hl [2, 3, 1, 0] rfl) h
  exact (main k).1 t _ _ s.heap [] ls hR hl h
set_option maxRecDepth 20000 in
theorem ggX12_laysTable_X12_takenOf : GoodIn wsX12_laysTable wsX12_takenOf := goodIn_r _ [10, 3, 4, 11, 12, 13, 9, 14, 15, 16, 17, 18, 19, 20, 21, 22, 23, 24, 25, 70, 71, 72, 73, 74, 75, 76, 77, 78, 79, 80, 81, 82, 83, 84, 85, 86, 87, 88, 89, 90, 91, 92, 93, 94, 95, 96, 97, 98, 99, 100] (by decide +kernel) (by decide +kernel)
set_option maxRecDepth 20000 in
theorem gX12_laysTable_X12_takenOf : GoodIn wsX12_laysTable (wsV RX12 271 RX12 yX12_takenOf wsX12_takenOf) := goodIn_app (goodIn_of _ (by decide +kernel)) ggX12_laysTable_X12_takenOf
set_option maxRecDepth 20000 in
theorem ggX12_laysTable_X12_dimOf : GoodIn wsX12_laysTable wsX12_dimOf := goodIn_r _ [14, 15, 16, 17, 18, 19, 20, 21, 22, 70, 71, 72, 73, 74, 75, 76, 77, 78, 79, 80, 81, 82, 83, 84, 85, 86, 87, 88, 89, 90, 91, 92, 93, 94, 95, 96, 97, 98, 99, 100] (by decide +kernel) (by decide +kernel)
set_option maxRecDepth 20000 in
theorem gX12_laysTable_X12_dimOf : GoodIn wsX12_laysTable (wsV RX12 149 RX12 yX12_dimOf wsX12_dimOf) := goodIn_app (goodIn_of _ (by decide +kernel)) ggX12_laysTable_X12_dimOf
set_option maxRecDepth 20000 in
theorem ggX12_laysTable_X12_incidenceOf : GoodIn wsX12_laysTable wsX12_incidenceOf := goodIn_r _ [29, 3, 30, 31, 32, 33, 9, 34, 35, 36, 37, 38, 39, 40, 41, 42, 43, 44, 45, 46, 47, 48, 49, 50, 51, 52, 53, 11, 12, 13, 14, 15, 16, 17, 18, 19, 20, 21, 22, 23, 24, 25, 54, 55, 56, 57, 58, 59, 60, 61, 62, 63, 64, 65, 66, 67, 68, 69, 70, 71, 72, 73, 74, 75, 76, 77, 78, 79, 80, 81, 82, 83, 84, 85, 86, 87, 88, 89, 90, 91, 92, 93, 94, 95, 96, 97, 98, 99, 100] (by decide +kernel) (by decide +kernel)
set_option maxRecDepth 20000 in
theorem gX12_laysTable_X12_incidenceOf : GoodIn wsX12_laysTable (wsV RX12 238 RX12 yX12_incidenceOf wsX12_incidenceOf) := goodIn_app (goodIn_of _ (by decide +kernel)) ggX12_laysTable_X12_incidenceOf
set_option maxRecDepth 20000 in
theorem ggX12_laysTable_X12_isFace : GoodIn wsX12_laysTable wsX12_isFace := goodIn_r _ [65, 15, 11, 12, 13, 9, 14, 16, 17, 18, 19, 20, 21, 22, 70, 71, 72, 73, 74, 75, 76, 77, 78, 79, 80, 81, 82, 83, 84, 85, 86, 87, 88, 89, 90, 91, 92, 93, 94, 95, 96, 97, 98, 99, 100] (by decide +kernel) (by decide +kernel)
set_option maxRecDepth 20000 in
theorem gX12_laysTable_X12_isFace : GoodIn wsX12_laysTable (wsV RX12 152 RX12 yX12_isFace wsX12_isFace) := goodIn_app (goodIn_of _ (by decide +kernel)) ggX12_laysTable_X12_isFace
set_option maxRecDepth 20000 in
theorem ggX12_laysTable_X12_signOf : GoodIn wsX12_laysTable wsX12_signOf := goodIn_r _ [69, 15, 16, 17, 18, 19, 20, 21, 22, 70, 71, 72, 73, 74, 75, 76, 77, 78, 79, 80, 81, 82, 83, 84, 85, 86, 87, 88, 89, 90, 91, 92, 93, 94, 95, 96, 97, 98, 99, 100] (by decide +kernel) (by decide +kernel)
set_option maxRecDepth 20000 in
theorem gX12_laysTable_X12_signOf : GoodIn wsX12_laysTable (wsV RX12 166 RX12 yX12_signOf wsX12_signOf) := goodIn_app (goodIn_of _ (by decide +kernel)) ggX12_laysTable_X12_signOf
def wbX12_laysTable_0 (rec : Nat → XT → (Nat → Int32) → (Nat → Int64) → (XT → Prop) → Prop) (k : Nat) (t : XT) (li : Nat → Int32) (lj : Nat → Int64) (Q : XT → Prop) : Prop :=
  (wqX12_takenOf k t (li 1) (fun r_1 t_1 => (∀ t_2 : XT, t_2 = sI t_1 6 r_1 → (∀ v_3 : Int32, v_3 = ((li 1) - 1) → (wqX12_takenOf k t_2 v_3 (fun r_4 t_4 => (∀ t_5 : XT, t_5 = sI t_4 7 r_4 → rec 1 t_5 (uI (uI li 3 0) 4 0) lj Q)))))))
def wbX12_laysTable_1 (rec : Nat → XT → (Nat → Int32) → (Nat → Int64) → (XT → Prop) → Prop) (k : Nat) (t : XT) (li : Nat → Int32) (lj : Nat → Int64) (Q : XT → Prop) : Prop :=
  ((((t.1 3) : Int32) ≤ (li 4)) → Q t) ∧ (¬ (((t.1 3) : Int32) ≤ (li 4)) → (vp_in (li 4) 60 ∧ (∀ v_7 : Int32, v_7 = (t.2.2.1 11) (li 4).toNatClampNeg → ((v_7 = 0) → rec 5 t li lj Q) ∧ (¬ (v_7 = 0) → (wqX12_dimOf k t (li 4) (fun r_9 t_9 => ((r_9 = (li 1)) → rec 2 t_9 (uI (uI li 5 0) 6 0) lj Q) ∧ (¬ (r_9 = (li 1)) → rec 5 t_9 li lj Q)))))))
def wbX12_laysTable_2 (rec : Nat → XT → (Nat → Int32) → (Nat → Int64) → (XT → Prop) → Prop) (k : Nat) (t : XT) (li : Nat → Int32) (lj : Nat → Int64) (Q : XT → Prop) : Prop :=
  ((((t.1 3) : Int32) ≤ (li 6)) → (∀ v_12 : Int32, v_12 = (li 3) + Int32.ofInt 1 → rec 5 t (uI li 3 v_12) lj Q)) ∧ (¬ (((t.1 3) : Int32) ≤ (li 6)) → (vp_in (li 6) 60 ∧ (∀ v_13 : Int32, v_13 = (t.2.2.1 11) (li 6).toNatClampNeg → ((v_13 = 0) → rec 4 t li lj Q) ∧ (¬ (v_13 = 0) → (wqX12_dimOf k t (li 6) (fun r_15 t_15 => (∀ v_16 : Int32, v_16 = ((li 1) - 1) → ((¬ r_15 = v_16) → rec 4 t_15 li lj Q) ∧ ((r_15 = v_16) → (∀ v_18 : Int32, v_18 = (60 * (li 3)) → (∀ v_19 : Int32, v_19 = (v_18 + (li 5)) → ((¬ (li 2) = 1) → (wqX12_isFace k t_15 (li 6) (li 4) (fun r_21 t_21 => ((r_21 = 0) → rec 3 t_21 (uI li 101 v_19) (uI lj 102 0) Q) ∧ (¬ (r_21 = 0) → (wqX12_signOf k t_21 (li 6) (li 4) (fun r_23 t_23 => (∀ v_24 : Int64, v_24 = r_23.toInt64 → rec 3 t_23 (uI li 101 v_19) (uI lj 102 v_24) Q))))))) ∧ (((li 2) = 1) → (wqX12_incidenceOf k t_15 (li 4) (li 6) (fun r_25 t_25 => rec 3 t_25 (uI li 101 v_19) (uI lj 102 r_25) Q)))))))))))))
def wbX12_laysTable_3 (rec : Nat → XT → (Nat → Int32) → (Nat → Int64) → (XT → Prop) → Prop) (k : Nat) (t : XT) (li : Nat → Int32) (lj : Nat → Int64) (Q : XT → Prop) : Prop :=
  (vp_in (li 101) 3600 ∧ (∀ t_26 : XT, t_26 = sB t 4 (vp_updL (t.2.2.2 4) (li 101).toNatClampNeg (lj 102)) → (∀ v_27 : Int32, v_27 = (li 5) + Int32.ofInt 1 → rec 4 t_26 (uI li 5 v_27) lj Q)))
def wbX12_laysTable_4 (rec : Nat → XT → (Nat → Int32) → (Nat → Int64) → (XT → Prop) → Prop) (k : Nat) (t : XT) (li : Nat → Int32) (lj : Nat → Int64) (Q : XT → Prop) : Prop :=
  (∀ v_28 : Int32, v_28 = (li 6) + Int32.ofInt 1 → rec 2 t (uI li 6 v_28) lj Q)
def wbX12_laysTable_5 (rec : Nat → XT → (Nat → Int32) → (Nat → Int64) → (XT → Prop) → Prop) (k : Nat) (t : XT) (li : Nat → Int32) (lj : Nat → Int64) (Q : XT → Prop) : Prop :=
  (∀ v_29 : Int32, v_29 = (li 4) + Int32.ofInt 1 → rec 1 t (uI li 4 v_29) lj Q)
def wpX12_laysTable : Nat → Nat → XT → (Nat → Int32) → (Nat → Int64) → (XT → Prop) → Prop
  | 0, _, _, _, _, _ => False
  | k + 1, 0, t, li, lj, Q => wbX12_laysTable_0 (wpX12_laysTable k) k t li lj Q
  | k + 1, 1, t, li, lj, Q => wbX12_laysTable_1 (wpX12_laysTable k) k t li lj Q
  | k + 1, 2, t, li, lj, Q => wbX12_laysTable_2 (wpX12_laysTable k) k t li lj Q
  | k + 1, 3, t, li, lj, Q => wbX12_laysTable_3 (wpX12_laysTable k) k t li lj Q
  | k + 1, 4, t, li, lj, Q => wbX12_laysTable_4 (wpX12_laysTable k) k t li lj Q
  | k + 1, 5, t, li, lj, Q => wbX12_laysTable_5 (wpX12_laysTable k) k t li lj Q
  | _ + 1, _, _, _, _, _ => False
def wqX12_laysTable (k : Nat) (t : XT) (a1 : Int32) (a2 : Int32) (Q : XT → Prop) : Prop := wpX12_laysTable k 0 t (uI (uI (fun _ => 0) 1 a1) 2 a2) (fun _ => 0) Q
set_option maxHeartbeats 8000000 in
set_option maxRecDepth 100000 in
theorem wkX12_laysTable (l : Launch) (D : va_G) (cI cJ cB cZ : ClassId) (bd : Nat → Nat) (k : Nat) (t : XT) (a1 : Int32) (a2 : Int32) (Q : XT → Prop) (hR : wqX12_laysTable k t a1 a2 Q) : MetV l yX12_laysTable wsX12_laysTable 7 160 0 0 D (TYS cI cJ cB cZ) (wM cI cJ cB cZ bd t) [.ref (bd 0), .int a1, .int a2] (fun u => Q u) (fun u : XT => (wM cI cJ cB cZ bd u)) := by
  refine x_startV (ty := .int) (cc := cX12_laysTable) (by decide) rfl (Nat.le_of_ble_eq_true rfl) ?_
  intro p e s m args below meth c A ls B hr hnm h hl
  have hx := B.1.1
  have hb := B.1.2.1
  have hml := B.1.2.2.1
  have hts := B.1.2.2.2.2
  have hown : s.vm.findClass RX12 = some m.cls := B.1.2.2.2.1
  have hin12 : ∀ w ∈ u_ws RX12 TX12 31, w ∈ wsX12_laysTable := by decide +kernel
  have main : ∀ k : Nat, (∀ (t : XT) (li : Nat → Int32) (lj : Nat → Int64) (H : Heap) (locs : List Loc) (ls : Array Slot), wpX12_laysTable k 0 t li lj Q → lv_has ls 7 [(0, .ref (bd 0)), (1, .int (li 1)), (2, .int (li 2))] → Hp D A s.heap (wM cI cJ cB cZ bd t) H locs → W p l e { frames := 7, cells := 0, slots := 0, locals := 160 } s m args below meth c H locs 0 0 (MQ below (va_Qv (fun u => Q u) (fun u t => xEnd D ((fun u : XT => (wM cI cJ cB cZ bd u)) u) A t) A) args s 0 0 A) (F0 m 0 ls [])) ∧
      (∀ (t : XT) (li : Nat → Int32) (lj : Nat → Int64) (H : Heap) (locs : List Loc) (ls : Array Slot), wpX12_laysTable k 1 t li lj Q → lv_has ls 7 [(0, .ref (bd 0)), (1, .int (li 1)), (2, .int (li 2)), (3, .int (li 3)), (4, .int (li 4))] → Hp D A s.heap (wM cI cJ cB cZ bd t) H locs → W p l e { frames := 7, cells := 0, slots := 0, locals := 160 } s m args below meth c H locs 0 0 (MQ below (va_Qv (fun u => Q u) (fun u t => xEnd D ((fun u : XT => (wM cI cJ cB cZ bd u)) u) A t) A) args s 0 0 A) (F0 m 25 ls [])) ∧
      (∀ (t : XT) (li : Nat → Int32) (lj : Nat → Int64) (H : Heap) (locs : List Loc) (ls : Array Slot), wpX12_laysTable k 2 t li lj Q → lv_has ls 7 [(0, .ref (bd 0)), (1, .int (li 1)), (2, .int (li 2)), (3, .int (li 3)), (4, .int (li 4)), (5, .int (li 5)), (6, .int (li 6))] → Hp D A s.heap (wM cI cJ cB cZ bd t) H locs → W p l e { frames := 7, cells := 0, slots := 0, locals := 160 } s m args below meth c H locs 0 0 (MQ below (va_Qv (fun u => Q u) (fun u t => xEnd D ((fun u : XT => (wM cI cJ cB cZ bd u)) u) A t) A) args s 0 0 A) (F0 m 63 ls [])) ∧
      (∀ (t : XT) (li : Nat → Int32) (lj : Nat → Int64) (H : Heap) (locs : List Loc) (ls : Array Slot), wpX12_laysTable k 3 t li lj Q → lv_has ls 7 [(0, .ref (bd 0)), (1, .int (li 1)), (2, .int (li 2)), (3, .int (li 3)), (4, .int (li 4)), (5, .int (li 5)), (6, .int (li 6))] → Hp D A s.heap (wM cI cJ cB cZ bd t) H locs → W p l e { frames := 7, cells := 0, slots := 0, locals := 160 } s m args below meth c H locs 0 0 (MQ below (va_Qv (fun u => Q u) (fun u t => xEnd D ((fun u : XT => (wM cI cJ cB cZ bd u)) u) A t) A) args s 0 0 A) (F0 m 145 ls [.long (lj 102), .int (li 101), .ref (bd 17)])) ∧
      (∀ (t : XT) (li : Nat → Int32) (lj : Nat → Int64) (H : Heap) (locs : List Loc) (ls : Array Slot), wpX12_laysTable k 4 t li lj Q → lv_has ls 7 [(0, .ref (bd 0)), (1, .int (li 1)), (2, .int (li 2)), (3, .int (li 3)), (4, .int (li 4)), (5, .int (li 5)), (6, .int (li 6))] → Hp D A s.heap (wM cI cJ cB cZ bd t) H locs → W p l e { frames := 7, cells := 0, slots := 0, locals := 160 } s m args below meth c H locs 0 0 (MQ below (va_Qv (fun u => Q u) (fun u t => xEnd D ((fun u : XT => (wM cI cJ cB cZ bd u)) u) A t) A) args s 0 0 A) (F0 m 149 ls [])) ∧
      (∀ (t : XT) (li : Nat → Int32) (lj : Nat → Int64) (H : Heap) (locs : List Loc) (ls : Array Slot), wpX12_laysTable k 5 t li lj Q → lv_has ls 7 [(0, .ref (bd 0)), (1, .int (li 1)), (2, .int (li 2)), (3, .int (li 3)), (4, .int (li 4))] → Hp D A s.heap (wM cI cJ cB cZ bd t) H locs → W p l e { frames := 7, cells := 0, slots := 0, locals := 160 } s m args below meth c H locs 0 0 (MQ below (va_Qv (fun u => Q u) (fun u t => xEnd D ((fun u : XT => (wM cI cJ cB cZ bd u)) u) A t) A) args s 0 0 A) (F0 m 158 ls [])) := by
    intro k
    induction k with
    | zero => exact ⟨fun _ _ _ _ _ _ hR => False.elim hR, fun _ _ _ _ _ _ hR => False.elim hR, fun _ _ _ _ _ _ hR => False.elim hR, fun _ _ _ _ _ _ hR => False.elim hR, fun _ _ _ _ _ _ hR => False.elim hR, fun _ _ _ _ _ _ hR => False.elim hR⟩
    | succ k ih =>
      refine ⟨?_, ?_, ?_, ?_, ?_, ?_⟩
      · intro t li lj H locs ls hR hl h
        have hR : wbX12_laysTable_0 (wpX12_laysTable k) k t li lj Q := hR
        unfold wbX12_laysTable_0 at hR
        refine lv_aload_n hx hb dX12_laysTable_0 rfl (lv_at hl 0 rfl) ?_
        refine lv_aload_n hx hb dX12_laysTable_1 rfl (lv_at hl 0 rfl) ?_
        refine lv_iload_n hx hb dX12_laysTable_2 rfl (lv_at hl 1 rfl) ?_
        refine x_cVIF (n := 1) (As := [.int (li 1)]) (rest := [.ref (bd 0)]) B h (wkX12_takenOf l D cI cJ cB cZ bd k t (li 1) _ hR) ⟨⟨_, rfl⟩, by decide +kernel, Nat.le_of_ble_eq_true rfl, Nat.le_of_ble_eq_true rfl⟩ gX12_laysTable_X12_takenOf (show ((wM cI cJ cB cZ bd t) : va_W)[0]? = some (_, .inr (12, _)) from rfl) rfl rfl hl.1 rfl (Nat.le_of_ble_eq_true rfl) dX12_laysTable_3 ⟨Nat.le_of_ble_eq_true rfl, Nat.le_of_ble_eq_true rfl⟩ (fun r_1 t_1 H locs hR h => ?_)
        refine x_put (ci := 12) (C := RX12) (T := TX12) (N := 31) (v := .int r_1) (ty := .int) B h hin12 tyX12 tyX12_ok nmX12 0 23 rfl rfl (by decide) (by decide +kernel) rfl rfl rfl rfl (Nat.le_of_ble_eq_true rfl) dX12_laysTable_6 (fun H locs h => ?_)
        obtain ⟨t_2, et_2⟩ : ∃ v : XT, v = sI t_1 6 r_1 := ⟨_, rfl⟩
        have hR := hR t_2 et_2
        have h : Hp D A s.heap (wM cI cJ cB cZ bd t_2) H locs := by rw [et_2]; exact h
        refine lv_aload_n hx hb dX12_laysTable_9 rfl (lv_at hl 0 rfl) ?_
        refine lv_aload_n hx hb dX12_laysTable_10 rfl (lv_at hl 0 rfl) ?_
        refine lv_iload_n hx hb dX12_laysTable_11 rfl (lv_at hl 1 rfl) ?_
        refine lv_iconst (v := 1) hx hb dX12_laysTable_12 (by decide) ?_
        refine lv_isub hx hb dX12_laysTable_13 ?_
        refine lv_topi (fun v_3 ev_3 => ?_)
        have hR := hR v_3 ev_3
        refine x_cVIF (n := 1) (As := [.int v_3]) (rest := [.ref (bd 0)]) B h (wkX12_takenOf l D cI cJ cB cZ bd k t_2 v_3 _ hR) ⟨⟨_, rfl⟩, by decide +kernel, Nat.le_of_ble_eq_true rfl, Nat.le_of_ble_eq_true rfl⟩ gX12_laysTable_X12_takenOf (show ((wM cI cJ cB cZ bd t_2) : va_W)[0]? = some (_, .inr (12, _)) from rfl) rfl rfl hl.1 rfl (Nat.le_of_ble_eq_true rfl) dX12_laysTable_14 ⟨Nat.le_of_ble_eq_true rfl, Nat.le_of_ble_eq_true rfl⟩ (fun r_4 t_4 H locs hR h => ?_)
        refine x_put (ci := 12) (C := RX12) (T := TX12) (N := 31) (v := .int r_4) (ty := .int) B h hin12 tyX12 tyX12_ok nmX12 0 24 rfl rfl (by decide) (by decide +kernel) rfl rfl rfl rfl (Nat.le_of_ble_eq_true rfl) dX12_laysTable_17 (fun H locs h => ?_)
        obtain ⟨t_5, et_5⟩ : ∃ v : XT, v = sI t_4 7 r_4 := ⟨_, rfl⟩
        have hR := hR t_5 et_5
        have h : Hp D A s.heap (wM cI cJ cB cZ bd t_5) H locs := by rw [et_5]; exact h
        refine lv_iconst (v := 0) hx hb dX12_laysTable_20 (by decide) ?_
        refine lv_istore_n (lv' := [(3, .int 0), (0, .ref (bd 0)), (1, .int (li 1)), (2, .int (li 2))]) hx hb dX12_laysTable_21 rfl hl (by decide) rfl (fun ls hl => ?_)
        refine lv_iconst (v := 0) hx hb dX12_laysTable_22 (by decide) ?_
        refine lv_istore (lv' := [(4, .int 0), (3, .int 0), (0, .ref (bd 0)), (1, .int (li 1)), (2, .int (li 2))]) hx hb dX12_laysTable_23 hl (by decide) rfl (fun ls hl => ?_)
        exact ih.2.1 t_5 (uI (uI li 3 0) 4 0) lj H locs ls hR (lv_sub hl [2, 3, 4, 1, 0] rfl) h
      · intro t li lj H locs ls hR hl h
        have hR : wbX12_laysTable_1 (wpX12_laysTable k) k t li lj Q := hR
        unfold wbX12_laysTable_1 at hR
        refine lv_iload hx hb dX12_laysTable_25 (lv_at hl 4 rfl) ?_
        refine lv_aload_n hx hb dX12_laysTable_27 rfl (lv_at hl 0 rfl) ?_
        refine x_get (ci := 12) (C := RX12) (T := TX12) (N := 31) (v := .int (t.1 3)) B h hin12 0 5 rfl rfl (by decide) (by decide +kernel) rfl dX12_laysTable_28 ?_
        refine lv_icmp_ge (tgt := 164) hx hb dX12_laysTable_31 (by decide) (fun c_6 => ?_) (fun c_6 => ?_)
        · have hR := hR.1 c_6
          exact x_vret (w1 := (fun u : XT => (wM cI cJ cB cZ bd u))) t B h hr hR dX12_laysTable_164
        · have hR := hR.2 c_6
          refine lv_aload_n hx hb dX12_laysTable_34 rfl (lv_at hl 0 rfl) ?_
          refine x_get (ci := 12) (C := RX12) (T := TX12) (N := 31) (v := .ref (bd 16)) B h hin12 0 21 rfl rfl (by decide) (by decide +kernel) rfl dX12_laysTable_35 ?_
          refine lv_iload hx hb dX12_laysTable_38 (lv_at hl 4 rfl) ?_
          obtain ⟨hb_7, hR⟩ := hR
          refine va_zald (f := (t.2.2.1 11)) hx hb B.2.1 h.1 16 3 rfl rfl hb_7 dX12_laysTable_40 ?_
          refine lv_topi (fun v_7 ev_7 => ?_)
          have hR := hR v_7 ev_7
          refine lv_if_eq (tgt := 158) hx hb dX12_laysTable_41 (by decide) (fun c_8 => ?_) (fun c_8 => ?_)
          · have hR := hR.1 c_8
            exact ih.2.2.2.2.2 t li lj H locs ls hR (lv_sub hl [0, 1, 2, 3, 4] rfl) h
          · have hR := hR.2 c_8
            refine lv_aload_n hx hb dX12_laysTable_44 rfl (lv_at hl 0 rfl) ?_
            refine lv_iload hx hb dX12_laysTable_45 (lv_at hl 4 rfl) ?_
            refine x_cVIF (n := 1) (As := [.int (li 4)]) (rest := []) B h (wkX12_dimOf l D cI cJ cB cZ bd k t (li 4) _ hR) ⟨⟨_, rfl⟩, by decide +kernel, Nat.le_of_ble_eq_true rfl, Nat.le_of_ble_eq_true rfl⟩ gX12_laysTable_X12_dimOf (show ((wM cI cJ cB cZ bd t) : va_W)[0]? = some (_, .inr (12, _)) from rfl) rfl rfl hl.1 rfl (Nat.le_of_ble_eq_true rfl) dX12_laysTable_47 ⟨Nat.le_of_ble_eq_true rfl, Nat.le_of_ble_eq_true rfl⟩ (fun r_9 t_9 H locs hR h => ?_)
            refine lv_iload_n hx hb dX12_laysTable_50 rfl (lv_at hl 1 rfl) ?_
            refine lv_icmp_eq (tgt := 57) hx hb dX12_laysTable_51 (by decide) (fun c_10 => ?_) (fun c_10 => ?_)
            · have hR := hR.1 c_10
              refine lv_iconst (v := 0) hx hb dX12_laysTable_57 (by decide) ?_
              refine lv_istore (lv' := [(5, .int 0), (0, .ref (bd 0)), (1, .int (li 1)), (2, .int (li 2)), (3, .int (li 3)), (4, .int (li 4))]) hx hb dX12_laysTable_58 hl (by decide) rfl (fun ls hl => ?_)
              refine lv_iconst (v := 0) hx hb dX12_laysTable_60 (by decide) ?_
              refine lv_istore (lv' := [(6, .int 0), (5, .int 0), (0, .ref (bd 0)), (1, .int (li 1)), (2, .int (li 2)), (3, .int (li 3)), (4, .int (li 4))]) hx hb dX12_laysTable_61 hl (by decide) rfl (fun ls hl => ?_)
              exact ih.2.2.1 t_9 (uI (uI li 5 0) 6 0) lj H locs ls hR (lv_sub hl [2, 3, 4, 5, 6, 1, 0] rfl) h
            · have hR := hR.2 c_10
              refine lv_goto (tgt := 158) hx hb dX12_laysTable_54 (by decide) ?_
              exact ih.2.2.2.2.2 t_9 li lj H locs ls hR (lv_sub hl [0, 1, 2, 3, 4] rfl) h
      · intro t li lj H locs ls hR hl h
        have hR : wbX12_laysTable_2 (wpX12_laysTable k) k t li lj Q := hR
        unfold wbX12_laysTable_2 at hR
        refine lv_iload hx hb dX12_laysTable_63 (lv_at hl 6 rfl) ?_
        refine lv_aload_n hx hb dX12_laysTable_65 rfl (lv_at hl 0 rfl) ?_
        refine x_get (ci := 12) (C := RX12) (T := TX12) (N := 31) (v := .int (t.1 3)) B h hin12 0 5 rfl rfl (by decide) (by decide +kernel) rfl dX12_laysTable_66 ?_
        refine lv_icmp_ge (tgt := 155) hx hb dX12_laysTable_69 (by decide) (fun c_11 => ?_) (fun c_11 => ?_)
        · have hR := hR.1 c_11
          obtain ⟨v_12, ev_12⟩ : ∃ v : Int32, v = (li 3) + Int32.ofInt 1 := ⟨_, rfl⟩
          have hR := hR v_12 ev_12
          refine lv_iinc (v := v_12) (lv' := [(3, .int v_12), (0, .ref (bd 0)), (1, .int (li 1)), (2, .int (li 2)), (4, .int (li 4)), (5, .int (li 5)), (6, .int (li 6))]) hx hb dX12_laysTable_155 hl (k := 3) rfl ev_12.symm (by decide) rfl (fun ls hl => ?_)
          exact ih.2.2.2.2.2 t (uI li 3 v_12) lj H locs ls hR (lv_sub hl [1, 2, 3, 0, 4] rfl) h
        · have hR := hR.2 c_11
          refine lv_aload_n hx hb dX12_laysTable_72 rfl (lv_at hl 0 rfl) ?_
          refine x_get (ci := 12) (C := RX12) (T := TX12) (N := 31) (v := .ref (bd 16)) B h hin12 0 21 rfl rfl (by decide) (by decide +kernel) rfl dX12_laysTable_73 ?_
          refine lv_iload hx hb dX12_laysTable_76 (lv_at hl 6 rfl) ?_
          obtain ⟨hb_13, hR⟩ := hR
          refine va_zald (f := (t.2.2.1 11)) hx hb B.2.1 h.1 16 3 rfl rfl hb_13 dX12_laysTable_78 ?_
          refine lv_topi (fun v_13 ev_13 => ?_)
          have hR := hR v_13 ev_13
          refine lv_if_eq (tgt := 149) hx hb dX12_laysTable_79 (by decide) (fun c_14 => ?_) (fun c_14 => ?_)
          · have hR := hR.1 c_14
            exact ih.2.2.2.2.1 t li lj H locs ls hR (lv_sub hl [0, 1, 2, 3, 4, 5, 6] rfl) h
          · have hR := hR.2 c_14
            refine lv_aload_n hx hb dX12_laysTable_82 rfl (lv_at hl 0 rfl) ?_
            refine lv_iload hx hb dX12_laysTable_83 (lv_at hl 6 rfl) ?_
            refine x_cVIF (n := 1) (As := [.int (li 6)]) (rest := []) B h (wkX12_dimOf l D cI cJ cB cZ bd k t (li 6) _ hR) ⟨⟨_, rfl⟩, by decide +kernel, Nat.le_of_ble_eq_true rfl, Nat.le_of_ble_eq_true rfl⟩ gX12_laysTable_X12_dimOf (show ((wM cI cJ cB cZ bd t) : va_W)[0]? = some (_, .inr (12, _)) from rfl) rfl rfl hl.1 rfl (Nat.le_of_ble_eq_true rfl) dX12_laysTable_85 ⟨Nat.le_of_ble_eq_true rfl, Nat.le_of_ble_eq_true rfl⟩ (fun r_15 t_15 H locs hR h => ?_)
            refine lv_iload_n hx hb dX12_laysTable_88 rfl (lv_at hl 1 rfl) ?_
            refine lv_iconst (v := 1) hx hb dX12_laysTable_89 (by decide) ?_
            refine lv_isub hx hb dX12_laysTable_90 ?_
            refine lv_topi (fun v_16 ev_16 => ?_)
            have hR := hR v_16 ev_16
            refine lv_icmp_ne (tgt := 149) hx hb dX12_laysTable_91 (by decide) (fun c_17 => ?_) (fun c_17 => ?_)
            · have hR := hR.1 c_17
              exact ih.2.2.2.2.1 t_15 li lj H locs ls hR (lv_sub hl [0, 1, 2, 3, 4, 5, 6] rfl) h
            · have hR := hR.2 c_17
              refine lv_aload_n hx hb dX12_laysTable_94 rfl (lv_at hl 0 rfl) ?_
              refine x_get (ci := 12) (C := RX12) (T := TX12) (N := 31) (v := .ref (bd 17)) B h hin12 0 22 rfl rfl (by decide) (by decide +kernel) rfl dX12_laysTable_95 ?_
              refine lv_bipush (v := 60) hx hb dX12_laysTable_98 (by decide) ?_
              refine lv_iload_n hx hb dX12_laysTable_100 rfl (lv_at hl 3 rfl) ?_
              refine lv_imul hx hb dX12_laysTable_101 ?_
              refine lv_topi (fun v_18 ev_18 => ?_)
              have hR := hR v_18 ev_18
              refine lv_iload hx hb dX12_laysTable_102 (lv_at hl 5 rfl) ?_
              refine lv_iadd hx hb dX12_laysTable_104 ?_
              refine lv_topi (fun v_19 ev_19 => ?_)
              have hR := hR v_19 ev_19
              refine lv_iload_n hx hb dX12_laysTable_105 rfl (lv_at hl 2 rfl) ?_
              refine lv_iconst (v := 1) hx hb dX12_laysTable_106 (by decide) ?_
              refine lv_icmp_ne (tgt := 121) hx hb dX12_laysTable_107 (by decide) (fun c_20 => ?_) (fun c_20 => ?_)
              · have hR := hR.1 c_20
                refine lv_aload_n hx hb dX12_laysTable_121 rfl (lv_at hl 0 rfl) ?_
                refine lv_iload hx hb dX12_laysTable_122 (lv_at hl 6 rfl) ?_
                refine lv_iload hx hb dX12_laysTable_124 (lv_at hl 4 rfl) ?_
                refine x_cVIF (n := 2) (As := [.int (li 6), .int (li 4)]) (rest := [.int v_19, .ref (bd 17)]) B h (wkX12_isFace l D cI cJ cB cZ bd k t_15 (li 6) (li 4) _ hR) ⟨⟨_, rfl⟩, by decide +kernel, Nat.le_of_ble_eq_true rfl, Nat.le_of_ble_eq_true rfl⟩ gX12_laysTable_X12_isFace (show ((wM cI cJ cB cZ bd t_15) : va_W)[0]? = some (_, .inr (12, _)) from rfl) rfl rfl hl.1 rfl (Nat.le_of_ble_eq_true rfl) dX12_laysTable_126 ⟨Nat.le_of_ble_eq_true rfl, Nat.le_of_ble_eq_true rfl⟩ (fun r_21 t_21 H locs hR h => ?_)
                refine lv_if_eq (tgt := 144) hx hb dX12_laysTable_129 (by decide) (fun c_22 => ?_) (fun c_22 => ?_)
                · have hR := hR.1 c_22
                  refine lv_lconst (v := 0) hx hb dX12_laysTable_144 (by decide) ?_
                  exact ih.2.2.2.1 t_21 (uI li 101 v_19) (uI lj 102 0) H locs ls hR (lv_sub hl [0, 1, 2, 3, 4, 5, 6] rfl) h
                · have hR := hR.2 c_22
                  refine lv_aload_n hx hb dX12_laysTable_132 rfl (lv_at hl 0 rfl) ?_
                  refine lv_iload hx hb dX12_laysTable_133 (lv_at hl 6 rfl) ?_
                  refine lv_iload hx hb dX12_laysTable_135 (lv_at hl 4 rfl) ?_
                  refine x_cVIF (n := 2) (As := [.int (li 6), .int (li 4)]) (rest := [.int v_19, .ref (bd 17)]) B h (wkX12_signOf l D cI cJ cB cZ bd k t_21 (li 6) (li 4) _ hR) ⟨⟨_, rfl⟩, by decide +kernel, Nat.le_of_ble_eq_true rfl, Nat.le_of_ble_eq_true rfl⟩ gX12_laysTable_X12_signOf (show ((wM cI cJ cB cZ bd t_21) : va_W)[0]? = some (_, .inr (12, _)) from rfl) rfl rfl hl.1 rfl (Nat.le_of_ble_eq_true rfl) dX12_laysTable_137 ⟨Nat.le_of_ble_eq_true rfl, Nat.le_of_ble_eq_true rfl⟩ (fun r_23 t_23 H locs hR h => ?_)
                  obtain ⟨v_24, ev_24⟩ : ∃ v : Int64, v = r_23.toInt64 := ⟨_, rfl⟩
                  have hR := hR v_24 ev_24
                  refine lv_i2l (v := v_24) hx hb dX12_laysTable_140 ev_24.symm ?_
                  refine lv_goto (tgt := 145) hx hb dX12_laysTable_141 (by decide) ?_
                  exact ih.2.2.2.1 t_23 (uI li 101 v_19) (uI lj 102 v_24) H locs ls hR (lv_sub hl [0, 1, 2, 3, 4, 5, 6] rfl) h
              · have hR := hR.2 c_20
                refine lv_aload_n hx hb dX12_laysTable_110 rfl (lv_at hl 0 rfl) ?_
                refine lv_iload hx hb dX12_laysTable_111 (lv_at hl 4 rfl) ?_
                refine lv_iload hx hb dX12_laysTable_113 (lv_at hl 6 rfl) ?_
                refine x_cVLF (n := 2) (As := [.int (li 4), .int (li 6)]) (rest := [.int v_19, .ref (bd 17)]) B h (wkX12_incidenceOf l D cI cJ cB cZ bd k t_15 (li 4) (li 6) _ hR) ⟨⟨_, rfl⟩, by decide +kernel, Nat.le_of_ble_eq_true rfl, Nat.le_of_ble_eq_true rfl⟩ gX12_laysTable_X12_incidenceOf (show ((wM cI cJ cB cZ bd t_15) : va_W)[0]? = some (_, .inr (12, _)) from rfl) rfl rfl hl.1 rfl (Nat.le_of_ble_eq_true rfl) dX12_laysTable_115 ⟨Nat.le_of_ble_eq_true rfl, Nat.le_of_ble_eq_true rfl⟩ (fun r_25 t_25 H locs hR h => ?_)
                refine lv_goto (tgt := 145) hx hb dX12_laysTable_118 (by decide) ?_
                exact ih.2.2.2.1 t_25 (uI li 101 v_19) (uI lj 102 r_25) H locs ls hR (lv_sub hl [0, 1, 2, 3, 4, 5, 6] rfl) h
      · intro t li lj H locs ls hR hl h
        have hR : wbX12_laysTable_3 (wpX12_laysTable k) k t li lj Q := hR
        unfold wbX12_laysTable_3 at hR
        obtain ⟨hb_26, hR⟩ := hR
        refine z_last (f := (t.2.2.2 4)) B h 17 1 rfl rfl hb_26 dX12_laysTable_145 (fun H locs h => ?_)
        obtain ⟨t_26, et_26⟩ : ∃ v : XT, v = sB t 4 (vp_updL (t.2.2.2 4) (li 101).toNatClampNeg (lj 102)) := ⟨_, rfl⟩
        have hR := hR t_26 et_26
        have h : Hp D A s.heap (wM cI cJ cB cZ bd t_26) H locs := by rw [et_26]; exact h
        obtain ⟨v_27, ev_27⟩ : ∃ v : Int32, v = (li 5) + Int32.ofInt 1 := ⟨_, rfl⟩
        have hR := hR v_27 ev_27
        refine lv_iinc (v := v_27) (lv' := [(5, .int v_27), (0, .ref (bd 0)), (1, .int (li 1)), (2, .int (li 2)), (3, .int (li 3)), (4, .int (li 4)), (6, .int (li 6))]) hx hb dX12_laysTable_146 hl (k := 5) rfl ev_27.symm (by decide) rfl (fun ls hl => ?_)
        exact ih.2.2.2.2.1 t_26 (uI li 5 v_27) lj H locs ls hR (lv_sub hl [1, 2, 3, 4, 5, 0, 6] rfl) h
      · intro t li lj H locs ls hR hl h
        have hR : wbX12_laysTable_4 (wpX12_laysTable k) k t li lj Q := hR
        unfold wbX12_laysTable_4 at hR
        obtain ⟨v_28, ev_28⟩ : ∃ v : Int32, v = (li 6) + Int32.ofInt 1 := ⟨_, rfl⟩
        have hR := hR v_28 ev_28
        refine lv_iinc (v := v_28) (lv' := [(6, .int v_28), (0, .ref (bd 0)), (1, .int (li 1)), (2, .int (li 2)), (3, .int (li 3)), (4, .int (li 4)), (5, .int (li 5))]) hx hb dX12_laysTable_149 hl (k := 6) rfl ev_28.symm (by decide) rfl (fun ls hl => ?_)
        refine lv_goto (tgt := 63) hx hb dX12_laysTable_152 (by decide) ?_
        exact ih.2.2.1 t (uI li 6 v_28) lj H locs ls hR (lv_sub hl [1, 2, 3, 4, 5, 6, 0] rfl) h
      · intro t li lj H locs ls hR hl h
        have hR : wbX12_laysTable_5 (wpX12_laysTable k) k t li lj Q := hR
        unfold wbX12_laysTable_5 at hR
        obtain ⟨v_29, ev_29⟩ : ∃ v : Int32, v = (li 4) + Int32.ofInt 1 := ⟨_, rfl⟩
        have hR := hR v_29 ev_29
        refine lv_iinc (v := v_29) (lv' := [(4, .int v_29), (0, .ref (bd 0)), (1, .int (li 1)), (2, .int (li 2)), (3, .int (li 3))]) hx hb dX12_laysTable_158 hl (k := 4) rfl ev_29.symm (by decide) rfl (fun ls hl => ?_)
        refine lv_goto (tgt := 25) hx hb dX12_laysTable_161 (by decide) ?_
        exact ih.2.1 t (uI li 4 v_29) lj H locs ls hR (lv_sub hl [1, 2, 3, 4, 0] rfl) h
  exact (main k).1 t _ _ s.heap [] ls hR hl h
def wbX12_cell_0 (rec : Nat → XT → (Nat → Int32) → (Nat → Int64) → (Int64 → XT → Prop) → Prop) (k : Nat) (t : XT) (li : Nat → Int32) (lj : Nat → Int64) (Q : Int64 → XT → Prop) : Prop :=
  (∀ v_1 : Int32, v_1 = (60 * (li 1)) → (∀ v_2 : Int32, v_2 = (v_1 + (li 2)) → (vp_in v_2 3600 ∧ (∀ v_3 : Int64, v_3 = (t.2.2.2 4) v_2.toNatClampNeg → Q v_3 t))))
def wpX12_cell : Nat → Nat → XT → (Nat → Int32) → (Nat → Int64) → (Int64 → XT → Prop) → Prop
  | 0, _, _, _, _, _ => False
  | k + 1, 0, t, li, lj, Q => wbX12_cell_0 (wpX12_cell k) k t li lj Q
  | _ + 1, _, _, _, _, _ => False
def wqX12_cell (k : Nat) (t : XT) (a1 : Int32) (a2 : Int32) (Q : Int64 → XT → Prop) : Prop := wpX12_cell k 0 t (uI (uI (fun _ => 0) 1 a1) 2 a2) (fun _ => 0) Q
set_option maxHeartbeats 8000000 in
set_option maxRecDepth 100000 in
theorem wkX12_cell (l : Launch) (D : va_G) (cI cJ cB cZ : ClassId) (bd : Nat → Nat) (k : Nat) (t : XT) (a1 : Int32) (a2 : Int32) (Q : Int64 → XT → Prop) (hR : wqX12_cell k t a1 a2 Q) : MetL l yX12_cell wsX12_cell 0 0 0 0 D (TYS cI cJ cB cZ) (wM cI cJ cB cZ bd t) [.ref (bd 0), .int a1, .int a2] (fun r u => Q r u) (fun u : XT => (wM cI cJ cB cZ bd u)) := by
  refine x_startL (ty := .long) (cc := cX12_cell) (by decide) rfl (Nat.le_of_ble_eq_true rfl) ?_
  intro p e s m args below meth c A ls B hr hnm h hl
  have hx := B.1.1
  have hb := B.1.2.1
  have hml := B.1.2.2.1
  have hts := B.1.2.2.2.2
  have hown : s.vm.findClass RX12 = some m.cls := B.1.2.2.2.1
  have hin12 : ∀ w ∈ u_ws RX12 TX12 31, w ∈ wsX12_cell := by decide +kernel
  have main : ∀ k : Nat, (∀ (t : XT) (li : Nat → Int32) (lj : Nat → Int64) (H : Heap) (locs : List Loc) (ls : Array Slot), wpX12_cell k 0 t li lj Q → lv_has ls 3 [(0, .ref (bd 0)), (1, .int (li 1)), (2, .int (li 2))] → Hp D A s.heap (wM cI cJ cB cZ bd t) H locs → W p l e { frames := 0, cells := 0, slots := 0, locals := 0 } s m args below meth c H locs 0 0 (MQ below (va_Ql (fun r u => Q r u) (fun u t => xEnd D ((fun u : XT => (wM cI cJ cB cZ bd u)) u) A t) A) args s 0 0 A) (F0 m 0 ls [])) := by
    intro k
    induction k with
    | zero => exact fun _ _ _ _ _ _ hR => False.elim hR
    | succ k ih =>
      intro t li lj H locs ls hR hl h
      have hR : wbX12_cell_0 (wpX12_cell k) k t li lj Q := hR
      unfold wbX12_cell_0 at hR
      refine lv_aload_n hx hb dX12_cell_0 rfl (lv_at hl 0 rfl) ?_
      refine x_get (ci := 12) (C := RX12) (T := TX12) (N := 31) (v := .ref (bd 17)) B h hin12 0 22 rfl rfl (by decide) (by decide +kernel) rfl dX12_cell_1 ?_
      refine lv_bipush (v := 60) hx hb dX12_cell_4 (by decide) ?_
      refine lv_iload_n hx hb dX12_cell_6 rfl (lv_at hl 1 rfl) ?_
      refine lv_imul hx hb dX12_cell_7 ?_
      refine lv_topi (fun v_1 ev_1 => ?_)
      have hR := hR v_1 ev_1
      refine lv_iload_n hx hb dX12_cell_8 rfl (lv_at hl 2 rfl) ?_
      refine lv_iadd hx hb dX12_cell_9 ?_
      refine lv_topi (fun v_2 ev_2 => ?_)
      have hR := hR v_2 ev_2
      obtain ⟨hb_3, hR⟩ := hR
      refine va_lald (f := (t.2.2.2 4)) hx hb B.2.1 h.1 17 1 rfl rfl hb_3 dX12_cell_10 ?_
      refine lv_topl (fun v_3 ev_3 => ?_)
      have hR := hR v_3 ev_3
      exact x_lret (w1 := (fun u : XT => (wM cI cJ cB cZ bd u))) t B h hr hR dX12_cell_11
  exact (main k) t _ _ s.heap [] ls hR hl h
set_option maxRecDepth 20000 in
theorem ggX12_swapsRows_X12_cell : GoodIn wsX12_swapsRows wsX12_cell := goodIn_r _ [7, 2, 8, 9, 10, 11, 12, 13, 14, 15, 16, 17, 18, 19, 20, 21, 22, 23, 24, 25, 26, 27, 28, 29, 30, 31, 32, 33, 34, 35, 36, 37, 38] (by decide +kernel) (by decide +kernel)
set_option maxRecDepth 20000 in
theorem gX12_swapsRows_X12_cell : GoodIn wsX12_swapsRows (wsV RX12 280 RX12 yX12_cell wsX12_cell) := goodIn_app (goodIn_of _ (by decide +kernel)) ggX12_swapsRows_X12_cell
def wbX12_swapsRows_0 (rec : Nat → XT → (Nat → Int32) → (Nat → Int64) → (XT → Prop) → Prop) (k : Nat) (t : XT) (li : Nat → Int32) (lj : Nat → Int64) (Q : XT → Prop) : Prop :=
  rec 1 t (uI li 3 0) lj Q
def wbX12_swapsRows_1 (rec : Nat → XT → (Nat → Int32) → (Nat → Int64) → (XT → Prop) → Prop) (k : Nat) (t : XT) (li : Nat → Int32) (lj : Nat → Int64) (Q : XT → Prop) : Prop :=
  ((((t.1 7) : Int32) ≤ (li 3)) → Q t) ∧ (¬ (((t.1 7) : Int32) ≤ (li 3)) → (wqX12_cell k t (li 1) (li 3) (fun r_2 t_2 => (∀ v_3 : Int32, v_3 = (60 * (li 1)) → (∀ v_4 : Int32, v_4 = (v_3 + (li 3)) → (wqX12_cell k t_2 (li 2) (li 3) (fun r_5 t_5 => (vp_in v_4 3600 ∧ (∀ t_6 : XT, t_6 = sB t_5 4 (vp_updL (t_5.2.2.2 4) v_4.toNatClampNeg r_5) → (∀ v_7 : Int32, v_7 = (60 * (li 2)) → (∀ v_8 : Int32, v_8 = (v_7 + (li 3)) → (vp_in v_8 3600 ∧ (∀ t_9 : XT, t_9 = sB t_6 4 (vp_updL (t_6.2.2.2 4) v_8.toNatClampNeg r_2) → (∀ v_10 : Int32, v_10 = (li 3) + Int32.ofInt 1 → rec 1 t_9 (uI li 3 v_10) lj Q))))))))))))))
def wpX12_swapsRows : Nat → Nat → XT → (Nat → Int32) → (Nat → Int64) → (XT → Prop) → Prop
  | 0, _, _, _, _, _ => False
  | k + 1, 0, t, li, lj, Q => wbX12_swapsRows_0 (wpX12_swapsRows k) k t li lj Q
  | k + 1, 1, t, li, lj, Q => wbX12_swapsRows_1 (wpX12_swapsRows k) k t li lj Q
  | _ + 1, _, _, _, _, _ => False
def wqX12_swapsRows (k : Nat) (t : XT) (a1 : Int32) (a2 : Int32) (Q : XT → Prop) : Prop := wpX12_swapsRows k 0 t (uI (uI (fun _ => 0) 1 a1) 2 a2) (fun _ => 0) Q
set_option maxHeartbeats 8000000 in
set_option maxRecDepth 100000 in
theorem wkX12_swapsRows (l : Launch) (D : va_G) (cI cJ cB cZ : ClassId) (bd : Nat → Nat) (k : Nat) (t : XT) (a1 : Int32) (a2 : Int32) (Q : XT → Prop) (hR : wqX12_swapsRows k t a1 a2 Q) : MetV l yX12_swapsRows wsX12_swapsRows 1 22 0 0 D (TYS cI cJ cB cZ) (wM cI cJ cB cZ bd t) [.ref (bd 0), .int a1, .int a2] (fun u => Q u) (fun u : XT => (wM cI cJ cB cZ bd u)) := by
  refine x_startV (ty := .int) (cc := cX12_swapsRows) (by decide) rfl (Nat.le_of_ble_eq_true rfl) ?_
  intro p e s m args below meth c A ls B hr hnm h hl
  have hx := B.1.1
  have hb := B.1.2.1
  have hml := B.1.2.2.1
  have hts := B.1.2.2.2.2
  have hown : s.vm.findClass RX12 = some m.cls := B.1.2.2.2.1
  have hin12 : ∀ w ∈ u_ws RX12 TX12 31, w ∈ wsX12_swapsRows := by decide +kernel
  have main : ∀ k : Nat, (∀ (t : XT) (li : Nat → Int32) (lj : Nat → Int64) (H : Heap) (locs : List Loc) (ls : Array Slot), wpX12_swapsRows k 0 t li lj Q → lv_has ls 6 [(0, .ref (bd 0)), (1, .int (li 1)), (2, .int (li 2))] → Hp D A s.heap (wM cI cJ cB cZ bd t) H locs → W p l e { frames := 1, cells := 0, slots := 0, locals := 22 } s m args below meth c H locs 0 0 (MQ below (va_Qv (fun u => Q u) (fun u t => xEnd D ((fun u : XT => (wM cI cJ cB cZ bd u)) u) A t) A) args s 0 0 A) (F0 m 0 ls [])) ∧
      (∀ (t : XT) (li : Nat → Int32) (lj : Nat → Int64) (H : Heap) (locs : List Loc) (ls : Array Slot), wpX12_swapsRows k 1 t li lj Q → lv_has ls 6 [(0, .ref (bd 0)), (1, .int (li 1)), (2, .int (li 2)), (3, .int (li 3))] → Hp D A s.heap (wM cI cJ cB cZ bd t) H locs → W p l e { frames := 1, cells := 0, slots := 0, locals := 22 } s m args below meth c H locs 0 0 (MQ below (va_Qv (fun u => Q u) (fun u t => xEnd D ((fun u : XT => (wM cI cJ cB cZ bd u)) u) A t) A) args s 0 0 A) (F0 m 2 ls [])) := by
    intro k
    induction k with
    | zero => exact ⟨fun _ _ _ _ _ _ hR => False.elim hR, fun _ _ _ _ _ _ hR => False.elim hR⟩
    | succ k ih =>
      refine ⟨?_, ?_⟩
      · intro t li lj H locs ls hR hl h
        have hR : wbX12_swapsRows_0 (wpX12_swapsRows k) k t li lj Q := hR
        unfold wbX12_swapsRows_0 at hR
        refine lv_iconst (v := 0) hx hb dX12_swapsRows_0 (by decide) ?_
        refine lv_istore_n (lv' := [(3, .int 0), (0, .ref (bd 0)), (1, .int (li 1)), (2, .int (li 2))]) hx hb dX12_swapsRows_1 rfl hl (by decide) rfl (fun ls hl => ?_)
        exact ih.2 t (uI li 3 0) lj H locs ls hR (lv_sub hl [1, 2, 3, 0] rfl) h
      · intro t li lj H locs ls hR hl h
        have hR : wbX12_swapsRows_1 (wpX12_swapsRows k) k t li lj Q := hR
        unfold wbX12_swapsRows_1 at hR
        refine lv_iload_n hx hb dX12_swapsRows_2 rfl (lv_at hl 3 rfl) ?_
        refine lv_aload_n hx hb dX12_swapsRows_3 rfl (lv_at hl 0 rfl) ?_
        refine x_get (ci := 12) (C := RX12) (T := TX12) (N := 31) (v := .int (t.1 7)) B h hin12 0 24 rfl rfl (by decide) (by decide +kernel) rfl dX12_swapsRows_4 ?_
        refine lv_icmp_ge (tgt := 54) hx hb dX12_swapsRows_7 (by decide) (fun c_1 => ?_) (fun c_1 => ?_)
        · have hR := hR.1 c_1
          exact x_vret (w1 := (fun u : XT => (wM cI cJ cB cZ bd u))) t B h hr hR dX12_swapsRows_54
        · have hR := hR.2 c_1
          refine lv_aload_n hx hb dX12_swapsRows_10 rfl (lv_at hl 0 rfl) ?_
          refine lv_iload_n hx hb dX12_swapsRows_11 rfl (lv_at hl 1 rfl) ?_
          refine lv_iload_n hx hb dX12_swapsRows_12 rfl (lv_at hl 3 rfl) ?_
          refine x_cVLF (n := 2) (As := [.int (li 1), .int (li 3)]) (rest := []) B h (wkX12_cell l D cI cJ cB cZ bd k t (li 1) (li 3) _ hR) ⟨⟨_, rfl⟩, by decide +kernel, Nat.le_of_ble_eq_true rfl, Nat.le_of_ble_eq_true rfl⟩ gX12_swapsRows_X12_cell (show ((wM cI cJ cB cZ bd t) : va_W)[0]? = some (_, .inr (12, _)) from rfl) rfl rfl hl.1 rfl (Nat.le_of_ble_eq_true rfl) dX12_swapsRows_13 ⟨Nat.le_of_ble_eq_true rfl, Nat.le_of_ble_eq_true rfl⟩ (fun r_2 t_2 H locs hR h => ?_)
          refine lv_lstore (lv' := [(4, .long r_2), (0, .ref (bd 0)), (1, .int (li 1)), (2, .int (li 2)), (3, .int (li 3))]) hx hb dX12_swapsRows_16 hl (by decide) rfl (fun ls hl => ?_)
          refine lv_aload_n hx hb dX12_swapsRows_18 rfl (lv_at hl 1 rfl) ?_
          refine x_get (ci := 12) (C := RX12) (T := TX12) (N := 31) (v := .ref (bd 17)) B h hin12 0 22 rfl rfl (by decide) (by decide +kernel) rfl dX12_swapsRows_19 ?_
          refine lv_bipush (v := 60) hx hb dX12_swapsRows_22 (by decide) ?_
          refine lv_iload_n hx hb dX12_swapsRows_24 rfl (lv_at hl 2 rfl) ?_
          refine lv_imul hx hb dX12_swapsRows_25 ?_
          refine lv_topi (fun v_3 ev_3 => ?_)
          have hR := hR v_3 ev_3
          refine lv_iload_n hx hb dX12_swapsRows_26 rfl (lv_at hl 4 rfl) ?_
          refine lv_iadd hx hb dX12_swapsRows_27 ?_
          refine lv_topi (fun v_4 ev_4 => ?_)
          have hR := hR v_4 ev_4
          refine lv_aload_n hx hb dX12_swapsRows_28 rfl (lv_at hl 1 rfl) ?_
          refine lv_iload_n hx hb dX12_swapsRows_29 rfl (lv_at hl 3 rfl) ?_
          refine lv_iload_n hx hb dX12_swapsRows_30 rfl (lv_at hl 4 rfl) ?_
          refine x_cVLF (n := 2) (As := [.int (li 2), .int (li 3)]) (rest := [.int v_4, .ref (bd 17)]) B h (wkX12_cell l D cI cJ cB cZ bd k t_2 (li 2) (li 3) _ hR) ⟨⟨_, rfl⟩, by decide +kernel, Nat.le_of_ble_eq_true rfl, Nat.le_of_ble_eq_true rfl⟩ gX12_swapsRows_X12_cell (show ((wM cI cJ cB cZ bd t_2) : va_W)[0]? = some (_, .inr (12, _)) from rfl) rfl rfl hl.1 rfl (Nat.le_of_ble_eq_true rfl) dX12_swapsRows_31 ⟨Nat.le_of_ble_eq_true rfl, Nat.le_of_ble_eq_true rfl⟩ (fun r_5 t_5 H locs hR h => ?_)
          obtain ⟨hb_6, hR⟩ := hR
          refine z_last (f := (t_5.2.2.2 4)) B h 17 1 rfl rfl hb_6 dX12_swapsRows_34 (fun H locs h => ?_)
          obtain ⟨t_6, et_6⟩ : ∃ v : XT, v = sB t_5 4 (vp_updL (t_5.2.2.2 4) v_4.toNatClampNeg r_5) := ⟨_, rfl⟩
          have hR := hR t_6 et_6
          have h : Hp D A s.heap (wM cI cJ cB cZ bd t_6) H locs := by rw [et_6]; exact h
          refine lv_aload_n hx hb dX12_swapsRows_35 rfl (lv_at hl 1 rfl) ?_
          refine x_get (ci := 12) (C := RX12) (T := TX12) (N := 31) (v := .ref (bd 17)) B h hin12 0 22 rfl rfl (by decide) (by decide +kernel) rfl dX12_swapsRows_36 ?_
          refine lv_bipush (v := 60) hx hb dX12_swapsRows_39 (by decide) ?_
          refine lv_iload_n hx hb dX12_swapsRows_41 rfl (lv_at hl 3 rfl) ?_
          refine lv_imul hx hb dX12_swapsRows_42 ?_
          refine lv_topi (fun v_7 ev_7 => ?_)
          have hR := hR v_7 ev_7
          refine lv_iload_n hx hb dX12_swapsRows_43 rfl (lv_at hl 4 rfl) ?_
          refine lv_iadd hx hb dX12_swapsRows_44 ?_
          refine lv_topi (fun v_8 ev_8 => ?_)
          have hR := hR v_8 ev_8
          refine lv_lload hx hb dX12_swapsRows_45 (lv_at hl 0 rfl) ?_
          obtain ⟨hb_9, hR⟩ := hR
          refine z_last (f := (t_6.2.2.2 4)) B h 17 1 rfl rfl hb_9 dX12_swapsRows_47 (fun H locs h => ?_)
          obtain ⟨t_9, et_9⟩ : ∃ v : XT, v = sB t_6 4 (vp_updL (t_6.2.2.2 4) v_8.toNatClampNeg r_2) := ⟨_, rfl⟩
          have hR := hR t_9 et_9
          have h : Hp D A s.heap (wM cI cJ cB cZ bd t_9) H locs := by rw [et_9]; exact h
          obtain ⟨v_10, ev_10⟩ : ∃ v : Int32, v = (li 3) + Int32.ofInt 1 := ⟨_, rfl⟩
          have hR := hR v_10 ev_10
          refine lv_iinc (v := v_10) (lv' := [(3, .int v_10), (4, .long r_2), (0, .ref (bd 0)), (1, .int (li 1)), (2, .int (li 2))]) hx hb dX12_swapsRows_48 hl (k := 4) rfl ev_10.symm (by decide) rfl (fun ls hl => ?_)
          refine lv_goto (tgt := 2) hx hb dX12_swapsRows_51 (by decide) ?_
          exact ih.2 t_9 (uI li 3 v_10) lj H locs ls hR (lv_sub hl [2, 3, 4, 0] rfl) h
  exact (main k).1 t _ _ s.heap [] ls hR hl h
