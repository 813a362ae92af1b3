def wbX12_numbers_0 (rec : Nat → XT → (Nat → Int32) → (Nat → Int64) → (XT → Prop) → Prop) (k : Nat) (t : XT) (li : Nat → Int32) (lj : Nat → Int64) (Q : XT → Prop) : Prop :=
  (∀ t_1 : XT, t_1 = sI t 3 0 → rec 1 t_1 (uI li 1 1) lj Q)
def wbX12_numbers_1 (rec : Nat → XT → (Nat → Int32) → (Nat → Int64) → (XT → Prop) → Prop) (k : Nat) (t : XT) (li : Nat → Int32) (lj : Nat → Int64) (Q : XT → Prop) : Prop :=
  (((5 : Int32) < (li 1)) → rec 4 t (uI li 1 0) lj Q) ∧ (¬ ((5 : Int32) < (li 1)) → rec 2 t (uI li 2 1) lj Q)
def wbX12_numbers_2 (rec : Nat → XT → (Nat → Int32) → (Nat → Int64) → (XT → Prop) → Prop) (k : Nat) (t : XT) (li : Nat → Int32) (lj : Nat → Int64) (Q : XT → Prop) : Prop :=
  (((256 : Int32) ≤ (li 2)) → (∀ v_4 : Int32, v_4 = (li 1) + Int32.ofInt 1 → rec 1 t (uI li 1 v_4) lj Q)) ∧ (¬ ((256 : Int32) ≤ (li 2)) → (vp_in (li 2) 256 ∧ (∀ v_5 : Int32, v_5 = (t.2.2.1 1) (li 2).toNatClampNeg → ((v_5 = 0) → rec 3 t li lj Q) ∧ (¬ (v_5 = 0) → (wqJ6_bitCount_0f7a4 k (li 2) (fun r_7 => ((¬ r_7 = (li 1)) → rec 3 t li lj Q) ∧ ((r_7 = (li 1)) → (vp_in (t.1 3) 60 ∧ (∀ t_9 : XT, t_9 = sA t 2 (upd (t.2.2.1 2) (t.1 3).toNatClampNeg (li 2)) → (∀ v_10 : Int32, v_10 = ((t_9.1 3) + 1) → (∀ t_11 : XT, t_11 = sI t_9 3 v_10 → rec 3 t_11 li lj Q)))))))))))
def wbX12_numbers_3 (rec : Nat → XT → (Nat → Int32) → (Nat → Int64) → (XT → Prop) → Prop) (k : Nat) (t : XT) (li : Nat → Int32) (lj : Nat → Int64) (Q : XT → Prop) : Prop :=
  (∀ v_12 : Int32, v_12 = (li 2) + Int32.ofInt 1 → rec 2 t (uI li 2 v_12) lj Q)
def wbX12_numbers_4 (rec : Nat → XT → (Nat → Int32) → (Nat → Int64) → (XT → Prop) → Prop) (k : Nat) (t : XT) (li : Nat → Int32) (lj : Nat → Int64) (Q : XT → Prop) : Prop :=
  (((256 : Int32) ≤ (li 1)) → rec 5 t (uI li 1 0) lj Q) ∧ (¬ ((256 : Int32) ≤ (li 1)) → (vp_in (li 1) 256 ∧ (∀ t_14 : XT, t_14 = sA t 3 (upd (t.2.2.1 3) (li 1).toNatClampNeg (-1)) → (∀ v_15 : Int32, v_15 = (li 1) + Int32.ofInt 1 → rec 4 t_14 (uI li 1 v_15) lj Q))))
def wbX12_numbers_5 (rec : Nat → XT → (Nat → Int32) → (Nat → Int64) → (XT → Prop) → Prop) (k : Nat) (t : XT) (li : Nat → Int32) (lj : Nat → Int64) (Q : XT → Prop) : Prop :=
  ((((t.1 3) : Int32) ≤ (li 1)) → rec 6 t (uI li 1 0) lj Q) ∧ (¬ (((t.1 3) : Int32) ≤ (li 1)) → (vp_in (li 1) 60 ∧ (∀ v_17 : Int32, v_17 = (t.2.2.1 2) (li 1).toNatClampNeg → (vp_in v_17 256 ∧ (∀ t_18 : XT, t_18 = sA t 3 (upd (t.2.2.1 3) v_17.toNatClampNeg (li 1)) → (vp_in (li 1) 60 ∧ (∀ t_19 : XT, t_19 = sA t_18 4 (upd (t_18.2.2.1 4) (li 1).toNatClampNeg (-1)) → (vp_in (li 1) 60 ∧ (∀ t_20 : XT, t_20 = sA t_19 5 (upd (t_19.2.2.1 5) (li 1).toNatClampNeg (vp_nar .boolean 0)) → (∀ v_21 : Int32, v_21 = (li 1) + Int32.ofInt 1 → rec 5 t_20 (uI li 1 v_21) lj Q))))))))))
def wbX12_numbers_6 (rec : Nat → XT → (Nat → Int32) → (Nat → Int64) → (XT → Prop) → Prop) (k : Nat) (t : XT) (li : Nat → Int32) (lj : Nat → Int64) (Q : XT → Prop) : Prop :=
  (((3 : Int32) ≤ (li 1)) → (∀ t_23 : XT, t_23 = sI t 4 0 → Q t_23)) ∧ (¬ ((3 : Int32) ≤ (li 1)) → (vp_in (li 1) 3 ∧ (∀ t_24 : XT, t_24 = sA t 14 (upd (t.2.2.1 14) (li 1).toNatClampNeg (vp_nar .boolean 0)) → (∀ v_25 : Int32, v_25 = (li 1) + Int32.ofInt 1 → rec 6 t_24 (uI li 1 v_25) lj Q))))
def wpX12_numbers : Nat → Nat → XT → (Nat → Int32) → (Nat → Int64) → (XT → Prop) → Prop
  | 0, _, _, _, _, _ => False
  | k + 1, 0, t, li, lj, Q => wbX12_numbers_0 (wpX12_numbers k) k t li lj Q
  | k + 1, 1, t, li, lj, Q => wbX12_numbers_1 (wpX12_numbers k) k t li lj Q
  | k + 1, 2, t, li, lj, Q => wbX12_numbers_2 (wpX12_numbers k) k t li lj Q
  | k + 1, 3, t, li, lj, Q => wbX12_numbers_3 (wpX12_numbers k) k t li lj Q
  | k + 1, 4, t, li, lj, Q => wbX12_numbers_4 (wpX12_numbers k) k t li lj Q
  | k + 1, 5, t, li, lj, Q => wbX12_numbers_5 (wpX12_numbers k) k t li lj Q
  | k + 1, 6, t, li, lj, Q => wbX12_numbers_6 (wpX12_numbers k) k t li lj Q
  | _ + 1, _, _, _, _, _ => False
def wqX12_numbers (k : Nat) (t : XT)  (Q : XT → Prop) : Prop := wpX12_numbers k 0 t (fun _ => 0) (fun _ => 0) Q
set_option maxHeartbeats 8000000 in
set_option maxRecDepth 100000 in
theorem wkX12_numbers (l : Launch) (D : va_G) (cI cJ cB cZ : ClassId) (bd : Nat → Nat) (k : Nat) (t : XT)  (Q : XT → Prop) (hR : wqX12_numbers k t  Q) : MetV l yX12_numbers wsX12_numbers 1 20 0 0 D (TYS cI cJ cB cZ) (wM cI cJ cB cZ bd t) [.ref (bd 0)] (fun u => Q u) (fun u : XT => (wM cI cJ cB cZ bd u)) := by
  refine x_startV (ty := .int) (cc := cX12_numbers) (by decide) rfl (Nat.le_of_ble_eq_true rfl) ?_
  intro p e s m args below meth c A ls B hr hnm h hl
  have hx := B.1.1
  have hb := B.1.2.1
  have hml := B.1.2.2.1
  have hts := B.1.2.2.2.2
  have hown : s.vm.findClass RX12 = some m.cls := B.1.2.2.2.1
  have hin12 : ∀ w ∈ u_ws RX12 TX12 31, w ∈ wsX12_numbers := by decide +kernel
  have main : ∀ k : Nat, (∀ (t : XT) (li : Nat → Int32) (lj : Nat → Int64) (H : Heap) (locs : List Loc) (ls : Array Slot), wpX12_numbers k 0 t li lj Q → lv_has ls 3 [(0, .ref (bd 0))] → Hp D A s.heap (wM cI cJ cB cZ bd t) H locs → W p l e { frames := 1, cells := 0, slots := 0, locals := 20 } s m args below meth c H locs 0 0 (MQ below (va_Qv (fun u => Q u) (fun u t => xEnd D ((fun u : XT => (wM cI cJ cB cZ bd u)) u) A t) A) args s 0 0 A) (F0 m 0 ls [])) ∧
      (∀ (t : XT) (li : Nat → Int32) (lj : Nat → Int64) (H : Heap) (locs : List Loc) (ls : Array Slot), wpX12_numbers k 1 t li lj Q → lv_has ls 3 [(0, .ref (bd 0)), (1, .int (li 1))] → Hp D A s.heap (wM cI cJ cB cZ bd t) H locs → W p l e { frames := 1, cells := 0, slots := 0, locals := 20 } s m args below meth c H locs 0 0 (MQ below (va_Qv (fun u => Q u) (fun u t => xEnd D ((fun u : XT => (wM cI cJ cB cZ bd u)) u) A t) A) args s 0 0 A) (F0 m 7 ls [])) ∧
      (∀ (t : XT) (li : Nat → Int32) (lj : Nat → Int64) (H : Heap) (locs : List Loc) (ls : Array Slot), wpX12_numbers k 2 t li lj Q → lv_has ls 3 [(0, .ref (bd 0)), (1, .int (li 1)), (2, .int (li 2))] → Hp D A s.heap (wM cI cJ cB cZ bd t) H locs → W p l e { frames := 1, cells := 0, slots := 0, locals := 20 } s m args below meth c H locs 0 0 (MQ below (va_Qv (fun u => Q u) (fun u t => xEnd D ((fun u : XT => (wM cI cJ cB cZ bd u)) u) A t) A) args s 0 0 A) (F0 m 14 ls [])) ∧
      (∀ (t : XT) (li : Nat → Int32) (lj : Nat → Int64) (H : Heap) (locs : List Loc) (ls : Array Slot), wpX12_numbers k 3 t li lj Q → lv_has ls 3 [(0, .ref (bd 0)), (1, .int (li 1)), (2, .int (li 2))] → Hp D A s.heap (wM cI cJ cB cZ bd t) H locs → W p l e { frames := 1, cells := 0, slots := 0, locals := 20 } s m args below meth c H locs 0 0 (MQ below (va_Qv (fun u => Q u) (fun u t => xEnd D ((fun u : XT => (wM cI cJ cB cZ bd u)) u) A t) A) args s 0 0 A) (F0 m 58 ls [])) ∧
      (∀ (t : XT) (li : Nat → Int32) (lj : Nat → Int64) (H : Heap) (locs : List Loc) (ls : Array Slot), wpX12_numbers k 4 t li lj Q → lv_has ls 3 [(0, .ref (bd 0)), (1, .int (li 1))] → Hp D A s.heap (wM cI cJ cB cZ bd t) H locs → W p l e { frames := 1, cells := 0, slots := 0, locals := 20 } s m args below meth c H locs 0 0 (MQ below (va_Qv (fun u => Q u) (fun u t => xEnd D ((fun u : XT => (wM cI cJ cB cZ bd u)) u) A t) A) args s 0 0 A) (F0 m 72 ls [])) ∧
      (∀ (t : XT) (li : Nat → Int32) (lj : Nat → Int64) (H : Heap) (locs : List Loc) (ls : Array Slot), wpX12_numbers k 5 t li lj Q → lv_has ls 3 [(0, .ref (bd 0)), (1, .int (li 1))] → Hp D A s.heap (wM cI cJ cB cZ bd t) H locs → W p l e { frames := 1, cells := 0, slots := 0, locals := 20 } s m args below meth c H locs 0 0 (MQ below (va_Qv (fun u => Q u) (fun u t => xEnd D ((fun u : XT => (wM cI cJ cB cZ bd u)) u) A t) A) args s 0 0 A) (F0 m 94 ls [])) ∧
      (∀ (t : XT) (li : Nat → Int32) (lj : Nat → Int64) (H : Heap) (locs : List Loc) (ls : Array Slot), wpX12_numbers k 6 t li lj Q → lv_has ls 3 [(0, .ref (bd 0)), (1, .int (li 1))] → Hp D A s.heap (wM cI cJ cB cZ bd t) H locs → W p l e { frames := 1, cells := 0, slots := 0, locals := 20 } s m args below meth c H locs 0 0 (MQ below (va_Qv (fun u => Q u) (fun u t => xEnd D ((fun u : XT => (wM cI cJ cB cZ bd u)) u) A t) A) args s 0 0 A) (F0 m 136 ls [])) := by
    intro k
    induction k with
    | zero => exact ⟨fun _ _ _ _ _ _ hR => False.elim hR, fun _ _ _ _ _ _ hR => False.elim hR, fun _ _ _ _ _ _ hR => False.elim hR, fun _ _ _ _ _ _ hR => False.elim hR, fun _ _ _ _ _ _ hR => False.elim hR, fun _ _ _ _ _ _ hR => False.elim hR, fun _ _ _ _ _ _ hR => False.elim hR⟩
    | succ k ih =>
      refine ⟨?_, ?_, ?_, ?_, ?_, ?_, ?_⟩
      · intro t li lj H locs ls hR hl h
        have hR : wbX12_numbers_0 (wpX12_numbers k) k t li lj Q := hR
        unfold wbX12_numbers_0 at hR
        refine lv_aload_n hx hb dX12_numbers_0 rfl (lv_at hl 0 rfl) ?_
        refine lv_iconst (v := 0) hx hb dX12_numbers_1 (by decide) ?_
        refine x_put (ci := 12) (C := RX12) (T := TX12) (N := 31) (v := .int 0) (ty := .int) B h hin12 tyX12 tyX12_ok nmX12 0 5 rfl rfl (by decide) (by decide +kernel) rfl rfl rfl rfl (Nat.le_of_ble_eq_true rfl) dX12_numbers_2 (fun H locs h => ?_)
        obtain ⟨t_1, et_1⟩ : ∃ v : XT, v = sI t 3 0 := ⟨_, rfl⟩
        have hR := hR t_1 et_1
        have h : Hp D A s.heap (wM cI cJ cB cZ bd t_1) H locs := by rw [et_1]; exact h
        refine lv_iconst (v := 1) hx hb dX12_numbers_5 (by decide) ?_
        refine lv_istore_n (lv' := [(1, .int 1), (0, .ref (bd 0))]) hx hb dX12_numbers_6 rfl hl (by decide) rfl (fun ls hl => ?_)
        exact ih.2.1 t_1 (uI li 1 1) lj H locs ls hR (lv_sub hl [1, 0] rfl) h
      · intro t li lj H locs ls hR hl h
        have hR : wbX12_numbers_1 (wpX12_numbers k) k t li lj Q := hR
        unfold wbX12_numbers_1 at hR
        refine lv_iload_n hx hb dX12_numbers_7 rfl (lv_at hl 1 rfl) ?_
        refine lv_iconst (v := 5) hx hb dX12_numbers_8 (by decide) ?_
        refine lv_icmp_gt (tgt := 70) hx hb dX12_numbers_9 (by decide) (fun c_2 => ?_) (fun c_2 => ?_)
        · have hR := hR.1 c_2
          refine lv_iconst (v := 0) hx hb dX12_numbers_70 (by decide) ?_
          refine lv_istore_n (lv' := [(1, .int 0), (0, .ref (bd 0))]) hx hb dX12_numbers_71 rfl hl (by decide) rfl (fun ls hl => ?_)
          exact ih.2.2.2.2.1 t (uI li 1 0) lj H locs ls hR (lv_sub hl [1, 0] rfl) h
        · have hR := hR.2 c_2
          refine lv_iconst (v := 1) hx hb dX12_numbers_12 (by decide) ?_
          refine lv_istore_n (lv' := [(2, .int 1), (0, .ref (bd 0)), (1, .int (li 1))]) hx hb dX12_numbers_13 rfl hl (by decide) rfl (fun ls hl => ?_)
          exact ih.2.2.1 t (uI li 2 1) lj H locs ls hR (lv_sub hl [1, 2, 0] rfl) h
      · intro t li lj H locs ls hR hl h
        have hR : wbX12_numbers_2 (wpX12_numbers k) k t li lj Q := hR
        unfold wbX12_numbers_2 at hR
        refine lv_iload_n hx hb dX12_numbers_14 rfl (lv_at hl 2 rfl) ?_
        refine lv_sipush (v := 256) hx hb dX12_numbers_15 (by decide) ?_
        refine lv_icmp_ge (tgt := 64) hx hb dX12_numbers_18 (by decide) (fun c_3 => ?_) (fun c_3 => ?_)
        · have hR := hR.1 c_3
          obtain ⟨v_4, ev_4⟩ : ∃ v : Int32, v = (li 1) + Int32.ofInt 1 := ⟨_, rfl⟩
          have hR := hR v_4 ev_4
          refine lv_iinc (v := v_4) (lv' := [(1, .int v_4), (0, .ref (bd 0)), (2, .int (li 2))]) hx hb dX12_numbers_64 hl (k := 1) rfl ev_4.symm (by decide) rfl (fun ls hl => ?_)
          refine lv_goto (tgt := 7) hx hb dX12_numbers_67 (by decide) ?_
          exact ih.2.1 t (uI li 1 v_4) lj H locs ls hR (lv_sub hl [1, 0] rfl) h
        · have hR := hR.2 c_3
          refine lv_aload_n hx hb dX12_numbers_21 rfl (lv_at hl 0 rfl) ?_
          refine x_get (ci := 12) (C := RX12) (T := TX12) (N := 31) (v := .ref (bd 2)) B h hin12 0 4 rfl rfl (by decide) (by decide +kernel) rfl dX12_numbers_22 ?_
          refine lv_iload_n hx hb dX12_numbers_25 rfl (lv_at hl 2 rfl) ?_
          obtain ⟨hb_5, hR⟩ := hR
          refine va_zald (f := (t.2.2.1 1)) hx hb B.2.1 h.1 2 3 rfl rfl hb_5 dX12_numbers_26 ?_
          refine lv_topi (fun v_5 ev_5 => ?_)
          have hR := hR v_5 ev_5
          refine lv_if_eq (tgt := 58) hx hb dX12_numbers_27 (by decide) (fun c_6 => ?_) (fun c_6 => ?_)
          · have hR := hR.1 c_6
            exact ih.2.2.2.1 t li lj H locs ls hR (lv_sub hl [0, 1, 2] rfl) h
          · have hR := hR.2 c_6
            refine lv_iload_n hx hb dX12_numbers_30 rfl (lv_at hl 2 rfl) ?_
            refine x_cSIE (n := 1) (As := [.int (li 2)]) (rest := []) B h (wkJ6_bitCount_0f7a4 l D cI cJ cB cZ bd k (li 2) _ hR) ⟨⟨_, rfl⟩, by decide +kernel, Nat.le_of_ble_eq_true rfl, Nat.le_of_ble_eq_true rfl⟩ gX12_numbers_J6_bitCount_0f7a4 rfl hl.1 rfl (Nat.le_of_ble_eq_true rfl) dX12_numbers_31 ⟨Nat.le_of_ble_eq_true rfl, Nat.le_of_ble_eq_true rfl⟩ (fun r_7 _ H locs hR h => ?_)
            refine lv_iload_n hx hb dX12_numbers_34 rfl (lv_at hl 1 rfl) ?_
            refine lv_icmp_ne (tgt := 58) hx hb dX12_numbers_35 (by decide) (fun c_8 => ?_) (fun c_8 => ?_)
            · have hR := hR.1 c_8
              exact ih.2.2.2.1 t li lj H locs ls hR (lv_sub hl [0, 1, 2] rfl) h
            · have hR := hR.2 c_8
              refine lv_aload_n hx hb dX12_numbers_38 rfl (lv_at hl 0 rfl) ?_
              refine x_get (ci := 12) (C := RX12) (T := TX12) (N := 31) (v := .ref (bd 3)) B h hin12 0 6 rfl rfl (by decide) (by decide +kernel) rfl dX12_numbers_39 ?_
              refine lv_aload_n hx hb dX12_numbers_42 rfl (lv_at hl 0 rfl) ?_
              refine x_get (ci := 12) (C := RX12) (T := TX12) (N := 31) (v := .int (t.1 3)) B h hin12 0 5 rfl rfl (by decide) (by decide +kernel) rfl dX12_numbers_43 ?_
              refine lv_iload_n hx hb dX12_numbers_46 rfl (lv_at hl 2 rfl) ?_
              obtain ⟨hb_9, hR⟩ := hR
              refine z_iast (f := (t.2.2.1 2)) B h 3 0 rfl rfl hb_9 dX12_numbers_47 (fun H locs h => ?_)
              obtain ⟨t_9, et_9⟩ : ∃ v : XT, v = sA t 2 (upd (t.2.2.1 2) (t.1 3).toNatClampNeg (li 2)) := ⟨_, rfl⟩
              have hR := hR t_9 et_9
              have h : Hp D A s.heap (wM cI cJ cB cZ bd t_9) H locs := by rw [et_9]; exact h
              refine lv_aload_n hx hb dX12_numbers_48 rfl (lv_at hl 0 rfl) ?_
              refine lv_dup hx hb dX12_numbers_49 rfl ?_
              refine x_get (ci := 12) (C := RX12) (T := TX12) (N := 31) (v := .int (t_9.1 3)) B h hin12 0 5 rfl rfl (by decide) (by decide +kernel) rfl dX12_numbers_50 ?_
              refine lv_iconst (v := 1) hx hb dX12_numbers_53 (by decide) ?_
              refine lv_iadd hx hb dX12_numbers_54 ?_
              refine lv_topi (fun v_10 ev_10 => ?_)
              have hR := hR v_10 ev_10
              refine x_put (ci := 12) (C := RX12) (T := TX12) (N := 31) (v := .int v_10) (ty := .int) B h hin12 tyX12 tyX12_ok nmX12 0 5 rfl rfl (by decide) (by decide +kernel) rfl rfl rfl rfl (Nat.le_of_ble_eq_true rfl) dX12_numbers_55 (fun H locs h => ?_)
              obtain ⟨t_11, et_11⟩ : ∃ v : XT, v = sI t_9 3 v_10 := ⟨_, rfl⟩
              have hR := hR t_11 et_11
              have h : Hp D A s.heap (wM cI cJ cB cZ bd t_11) H locs := by rw [et_11]; exact h
              exact ih.2.2.2.1 t_11 li lj H locs ls hR (lv_sub hl [0, 1, 2] rfl) h
      · intro t li lj H locs ls hR hl h
        have hR : wbX12_numbers_3 (wpX12_numbers k) k t li lj Q := hR
        unfold wbX12_numbers_3 at hR
        obtain ⟨v_12, ev_12⟩ : ∃ v : Int32, v = (li 2) + Int32.ofInt 1 := ⟨_, rfl⟩
        have hR := hR v_12 ev_12
        refine lv_iinc (v := v_12) (lv' := [(2, .int v_12), (0, .ref (bd 0)), (1, .int (li 1))]) hx hb dX12_numbers_58 hl (k := 2) rfl ev_12.symm (by decide) rfl (fun ls hl => ?_)
        refine lv_goto (tgt := 14) hx hb dX12_numbers_61 (by decide) ?_
        exact ih.2.2.1 t (uI li 2 v_12) lj H locs ls hR (lv_sub hl [1, 2, 0] rfl) h
      · intro t li lj H locs ls hR hl h
        have hR : wbX12_numbers_4 (wpX12_numbers k) k t li lj Q := hR
        unfold wbX12_numbers_4 at hR
        refine lv_iload_n hx hb dX12_numbers_72 rfl (lv_at hl 1 rfl) ?_
        refine lv_sipush (v := 256) hx hb dX12_numbers_73 (by decide) ?_
        refine lv_icmp_ge (tgt := 92) hx hb dX12_numbers_76 (by decide) (fun c_13 => ?_) (fun c_13 => ?_)
        · have hR := hR.1 c_13
          refine lv_iconst (v := 0) hx hb dX12_numbers_92 (by decide) ?_
          refine lv_istore_n (lv' := [(1, .int 0), (0, .ref (bd 0))]) hx hb dX12_numbers_93 rfl hl (by decide) rfl (fun ls hl => ?_)
          exact ih.2.2.2.2.2.1 t (uI li 1 0) lj H locs ls hR (lv_sub hl [1, 0] rfl) h
        · have hR := hR.2 c_13
          refine lv_aload_n hx hb dX12_numbers_79 rfl (lv_at hl 0 rfl) ?_
          refine x_get (ci := 12) (C := RX12) (T := TX12) (N := 31) (v := .ref (bd 4)) B h hin12 0 7 rfl rfl (by decide) (by decide +kernel) rfl dX12_numbers_80 ?_
          refine lv_iload_n hx hb dX12_numbers_83 rfl (lv_at hl 1 rfl) ?_
          refine lv_iconst (v := (-1)) hx hb dX12_numbers_84 (by decide) ?_
          obtain ⟨hb_14, hR⟩ := hR
          refine z_iast (f := (t.2.2.1 3)) B h 4 0 rfl rfl hb_14 dX12_numbers_85 (fun H locs h => ?_)
          obtain ⟨t_14, et_14⟩ : ∃ v : XT, v = sA t 3 (upd (t.2.2.1 3) (li 1).toNatClampNeg (-1)) := ⟨_, rfl⟩
          have hR := hR t_14 et_14
          have h : Hp D A s.heap (wM cI cJ cB cZ bd t_14) H locs := by rw [et_14]; exact h
          obtain ⟨v_15, ev_15⟩ : ∃ v : Int32, v = (li 1) + Int32.ofInt 1 := ⟨_, rfl⟩
          have hR := hR v_15 ev_15
          refine lv_iinc (v := v_15) (lv' := [(1, .int v_15), (0, .ref (bd 0))]) hx hb dX12_numbers_86 hl (k := 1) rfl ev_15.symm (by decide) rfl (fun ls hl => ?_)
          refine lv_goto (tgt := 72) hx hb dX12_numbers_89 (by decide) ?_
          exact ih.2.2.2.2.1 t_14 (uI li 1 v_15) lj H locs ls hR (lv_sub hl [1, 0] rfl) h
      · intro t li lj H locs ls hR hl h
        have hR : wbX12_numbers_5 (wpX12_numbers k) k t li lj Q := hR
        unfold wbX12_numbers_5 at hR
        refine lv_iload_n hx hb dX12_numbers_94 rfl (lv_at hl 1 rfl) ?_
        refine lv_aload_n hx hb dX12_numbers_95 rfl (lv_at hl 0 rfl) ?_
        refine x_get (ci := 12) (C := RX12) (T := TX12) (N := 31) (v := .int (t.1 3)) B h hin12 0 5 rfl rfl (by decide) (by decide +kernel) rfl dX12_numbers_96 ?_
        refine lv_icmp_ge (tgt := 134) hx hb dX12_numbers_99 (by decide) (fun c_16 => ?_) (fun c_16 => ?_)
        · have hR := hR.1 c_16
          refine lv_iconst (v := 0) hx hb dX12_numbers_134 (by decide) ?_
          refine lv_istore_n (lv' := [(1, .int 0), (0, .ref (bd 0))]) hx hb dX12_numbers_135 rfl hl (by decide) rfl (fun ls hl => ?_)
          exact ih.2.2.2.2.2.2 t (uI li 1 0) lj H locs ls hR (lv_sub hl [1, 0] rfl) h
        · have hR := hR.2 c_16
          refine lv_aload_n hx hb dX12_numbers_102 rfl (lv_at hl 0 rfl) ?_
          refine x_get (ci := 12) (C := RX12) (T := TX12) (N := 31) (v := .ref (bd 4)) B h hin12 0 7 rfl rfl (by decide) (by decide +kernel) rfl dX12_numbers_103 ?_
          refine lv_aload_n hx hb dX12_numbers_106 rfl (lv_at hl 0 rfl) ?_
          refine x_get (ci := 12) (C := RX12) (T := TX12) (N := 31) (v := .ref (bd 3)) B h hin12 0 6 rfl rfl (by decide) (by decide +kernel) rfl dX12_numbers_107 ?_
          refine lv_iload_n hx hb dX12_numbers_110 rfl (lv_at hl 1 rfl) ?_
          obtain ⟨hb_17, hR⟩ := hR
          refine va_iald (f := (t.2.2.1 2)) hx hb B.2.1 h.1 3 0 rfl rfl hb_17 dX12_numbers_111 ?_
          refine lv_topi (fun v_17 ev_17 => ?_)
          have hR := hR v_17 ev_17
          refine lv_iload_n hx hb dX12_numbers_112 rfl (lv_at hl 1 rfl) ?_
          obtain ⟨hb_18, hR⟩ := hR
          refine z_iast (f := (t.2.2.1 3)) B h 4 0 rfl rfl hb_18 dX12_numbers_113 (fun H locs h => ?_)
          obtain ⟨t_18, et_18⟩ : ∃ v : XT, v = sA t 3 (upd (t.2.2.1 3) v_17.toNatClampNeg (li 1)) := ⟨_, rfl⟩
          have hR := hR t_18 et_18
          have h : Hp D A s.heap (wM cI cJ cB cZ bd t_18) H locs := by rw [et_18]; exact h
          refine lv_aload_n hx hb dX12_numbers_114 rfl (lv_at hl 0 rfl) ?_
          refine x_get (ci := 12) (C := RX12) (T := TX12) (N := 31) (v := .ref (bd 5)) B h hin12 0 8 rfl rfl (by decide) (by decide +kernel) rfl dX12_numbers_115 ?_
          refine lv_iload_n hx hb dX12_numbers_118 rfl (lv_at hl 1 rfl) ?_
          refine lv_iconst (v := (-1)) hx hb dX12_numbers_119 (by decide) ?_
          obtain ⟨hb_19, hR⟩ := hR
          refine z_iast (f := (t_18.2.2.1 4)) B h 5 0 rfl rfl hb_19 dX12_numbers_120 (fun H locs h => ?_)
          obtain ⟨t_19, et_19⟩ : ∃ v : XT, v = sA t_18 4 (upd (t_18.2.2.1 4) (li 1).toNatClampNeg (-1)) := ⟨_, rfl⟩
          have hR := hR t_19 et_19
          have h : Hp D A s.heap (wM cI cJ cB cZ bd t_19) H locs := by rw [et_19]; exact h
          refine lv_aload_n hx hb dX12_numbers_121 rfl (lv_at hl 0 rfl) ?_
          refine x_get (ci := 12) (C := RX12) (T := TX12) (N := 31) (v := .ref (bd 6)) B h hin12 0 9 rfl rfl (by decide) (by decide +kernel) rfl dX12_numbers_122 ?_
          refine lv_iload_n hx hb dX12_numbers_125 rfl (lv_at hl 1 rfl) ?_
          refine lv_iconst (v := 0) hx hb dX12_numbers_126 (by decide) ?_
          obtain ⟨hb_20, hR⟩ := hR
          refine z_zast (f := (t_19.2.2.1 5)) B h 6 3 rfl rfl hb_20 dX12_numbers_127 (fun H locs h => ?_)
          obtain ⟨t_20, et_20⟩ : ∃ v : XT, v = sA t_19 5 (upd (t_19.2.2.1 5) (li 1).toNatClampNeg (vp_nar .boolean 0)) := ⟨_, rfl⟩
          have hR := hR t_20 et_20
          have h : Hp D A s.heap (wM cI cJ cB cZ bd t_20) H locs := by rw [et_20]; exact h
          obtain ⟨v_21, ev_21⟩ : ∃ v : Int32, v = (li 1) + Int32.ofInt 1 := ⟨_, rfl⟩
          have hR := hR v_21 ev_21
          refine lv_iinc (v := v_21) (lv' := [(1, .int v_21), (0, .ref (bd 0))]) hx hb dX12_numbers_128 hl (k := 1) rfl ev_21.symm (by decide) rfl (fun ls hl => ?_)
          refine lv_goto (tgt := 94) hx hb dX12_numbers_131 (by decide) ?_
          exact ih.2.2.2.2.2.1 t_20 (uI li 1 v_21) lj H locs ls hR (lv_sub hl [1, 0] rfl) h
      · intro t li lj H locs ls hR hl h
        have hR : wbX12_numbers_6 (wpX12_numbers k) k t li lj Q := hR
        unfold wbX12_numbers_6 at hR
        refine lv_iload_n hx hb dX12_numbers_136 rfl (lv_at hl 1 rfl) ?_
        refine lv_iconst (v := 3) hx hb dX12_numbers_137 (by decide) ?_
        refine lv_icmp_ge (tgt := 154) hx hb dX12_numbers_138 (by decide) (fun c_22 => ?_) (fun c_22 => ?_)
        · have hR := hR.1 c_22
          refine lv_aload_n hx hb dX12_numbers_154 rfl (lv_at hl 0 rfl) ?_
          refine lv_iconst (v := 0) hx hb dX12_numbers_155 (by decide) ?_
          refine x_put (ci := 12) (C := RX12) (T := TX12) (N := 31) (v := .int 0) (ty := .int) B h hin12 tyX12 tyX12_ok nmX12 0 13 rfl rfl (by decide) (by decide +kernel) rfl rfl rfl rfl (Nat.le_of_ble_eq_true rfl) dX12_numbers_156 (fun H locs h => ?_)
          obtain ⟨t_23, et_23⟩ : ∃ v : XT, v = sI t 4 0 := ⟨_, rfl⟩
          have hR := hR t_23 et_23
          have h : Hp D A s.heap (wM cI cJ cB cZ bd t_23) H locs := by rw [et_23]; exact h
          exact x_vret (w1 := (fun u : XT => (wM cI cJ cB cZ bd u))) t_23 B h hr hR dX12_numbers_159
        · have hR := hR.2 c_22
          refine lv_aload_n hx hb dX12_numbers_141 rfl (lv_at hl 0 rfl) ?_
          refine x_get (ci := 12) (C := RX12) (T := TX12) (N := 31) (v := .ref (bd 21)) B h hin12 0 29 rfl rfl (by decide) (by decide +kernel) rfl dX12_numbers_142 ?_
          refine lv_iload_n hx hb dX12_numbers_145 rfl (lv_at hl 1 rfl) ?_
          refine lv_iconst (v := 0) hx hb dX12_numbers_146 (by decide) ?_
          obtain ⟨hb_24, hR⟩ := hR
          refine z_zast (f := (t.2.2.1 14)) B h 21 3 rfl rfl hb_24 dX12_numbers_147 (fun H locs h => ?_)
          obtain ⟨t_24, et_24⟩ : ∃ v : XT, v = sA t 14 (upd (t.2.2.1 14) (li 1).toNatClampNeg (vp_nar .boolean 0)) := ⟨_, rfl⟩
          have hR := hR t_24 et_24
          have h : Hp D A s.heap (wM cI cJ cB cZ bd t_24) H locs := by rw [et_24]; exact h
          obtain ⟨v_25, ev_25⟩ : ∃ v : Int32, v = (li 1) + Int32.ofInt 1 := ⟨_, rfl⟩
          have hR := hR v_25 ev_25
          refine lv_iinc (v := v_25) (lv' := [(1, .int v_25), (0, .ref (bd 0))]) hx hb dX12_numbers_148 hl (k := 1) rfl ev_25.symm (by decide) rfl (fun ls hl => ?_)
          refine lv_goto (tgt := 136) hx hb dX12_numbers_151 (by decide) ?_
          exact ih.2.2.2.2.2.2 t_24 (uI li 1 v_25) lj H locs ls hR (lv_sub hl [1, 0] rfl) h
  exact (main k).1 t _ _ s.heap [] ls hR hl h
def wbX12_complex_0 (rec : Nat → XT → (Nat → Int32) → (Nat → Int64) → (Int32 → XT → Prop) → Prop) (k : Nat) (t : XT) (li : Nat → Int32) (lj : Nat → Int64) (Q : Int32 → XT → Prop) : Prop :=
  (∀ t_1 : XT, t_1 = sI t 1 0 → (∀ t_2 : XT, t_2 = sI t_1 2 (-1) → rec 1 t_2 (uI li 1 0) lj Q))
def wbX12_complex_1 (rec : Nat → XT → (Nat → Int32) → (Nat → Int64) → (Int32 → XT → Prop) → Prop) (k : Nat) (t : XT) (li : Nat → Int32) (lj : Nat → Int64) (Q : Int32 → XT → Prop) : Prop :=
  (((256 : Int32) ≤ (li 1)) → rec 2 t (uI (uI li 1 0) 2 1) lj Q) ∧ (¬ ((256 : Int32) ≤ (li 1)) → (vp_in (li 1) 256 ∧ (∀ t_4 : XT, t_4 = sA t 1 (upd (t.2.2.1 1) (li 1).toNatClampNeg (vp_nar .boolean 0)) → (∀ v_5 : Int32, v_5 = (li 1) + Int32.ofInt 1 → rec 1 t_4 (uI li 1 v_5) lj Q))))
def wbX12_complex_2 (rec : Nat → XT → (Nat → Int32) → (Nat → Int64) → (Int32 → XT → Prop) → Prop) (k : Nat) (t : XT) (li : Nat → Int32) (lj : Nat → Int64) (Q : Int32 → XT → Prop) : Prop :=
  (((li 2) = 0) → (wqX12_isRight k t  (fun r_7 t_7 => ((r_7 = 0) → rec 5 t_7 li lj Q) ∧ (¬ (r_7 = 0) → (wqX12_byteNow k t_7  (fun r_9 t_9 => ((r_9 = (-1)) → rec 5 t_9 li lj Q) ∧ (¬ (r_9 = (-1)) → (wqX12_fails k t_9 1 (t_9.1 1) (fun t_11 => rec 5 t_11 li lj Q))))))))) ∧ (¬ ((li 2) = 0) → (wqX12_readsFacet k t (li 1) (fun t_12 => (∀ v_13 : Int32, v_13 = (li 1) + Int32.ofInt 1 → (wqX12_isRight k t_12  (fun r_14 t_14 => ((r_14 = 0) → rec 3 t_14 (uI li 1 v_13) lj Q) ∧ (¬ (r_14 = 0) → (wqX12_byteNow k t_14  (fun r_16 t_16 => ((¬ r_16 = 44) → rec 3 t_16 (uI li 1 v_13) lj Q) ∧ ((r_16 = 44) → rec 4 t_16 (uI (uI li 1 v_13) 100 1) lj Q))))))))))
def wbX12_complex_3 (rec : Nat → XT → (Nat → Int32) → (Nat → Int64) → (Int32 → XT → Prop) → Prop) (k : Nat) (t : XT) (li : Nat → Int32) (lj : Nat → Int64) (Q : Int32 → XT → Prop) : Prop :=
  rec 4 t (uI li 100 0) lj Q
def wbX12_complex_4 (rec : Nat → XT → (Nat → Int32) → (Nat → Int64) → (Int32 → XT → Prop) → Prop) (k : Nat) (t : XT) (li : Nat → Int32) (lj : Nat → Int64) (Q : Int32 → XT → Prop) : Prop :=
  (wqX12_truth k (li 100) (fun r_18 => (∀ v_19 : Int32, v_19 = ((t.1 1) + r_18) → (∀ t_20 : XT, t_20 = sI t 1 v_19 → rec 2 t_20 (uI li 2 (li 100)) lj Q))))
def wbX12_complex_5 (rec : Nat → XT → (Nat → Int32) → (Nat → Int64) → (Int32 → XT → Prop) → Prop) (k : Nat) (t : XT) (li : Nat → Int32) (lj : Nat → Int64) (Q : Int32 → XT → Prop) : Prop :=
  (∀ t_21 : XT, t_21 = sI t 0 0 → (wqX12_isRight k t_21  (fun r_22 t_22 => ((¬ r_22 = 0) → (wqX12_numbers k t_22  (fun t_24 => Q (t_24.1 3) t_24))) ∧ ((r_22 = 0) → (∀ v_25 : Int32, v_25 = ((-2) - (t_22.1 2)) → Q v_25 t_22)))))
def wpX12_complex : Nat → Nat → XT → (Nat → Int32) → (Nat → Int64) → (Int32 → XT → Prop) → Prop
  | 0, _, _, _, _, _ => False
  | k + 1, 0, t, li, lj, Q => wbX12_complex_0 (wpX12_complex k) k t li lj Q
  | k + 1, 1, t, li, lj, Q => wbX12_complex_1 (wpX12_complex k) k t li lj Q
  | k + 1, 2, t, li, lj, Q => wbX12_complex_2 (wpX12_complex k) k t li lj Q
  | k + 1, 3, t, li, lj, Q => wbX12_complex_3 (wpX12_complex k) k t li lj Q
  | k + 1, 4, t, li, lj, Q => wbX12_complex_4 (wpX12_complex k) k t li lj Q
  | k + 1, 5, t, li, lj, Q => wbX12_complex_5 (wpX12_complex k) k t li lj Q
  | _ + 1, _, _, _, _, _ => False
def wqX12_complex (k : Nat) (t : XT)  (Q : Int32 → XT → Prop) : Prop := wpX12_complex k 0 t (fun _ => 0) (fun _ => 0) Q
set_option maxHeartbeats 8000000 in
set_option maxRecDepth 100000 in
theorem wkX12_complex (l : Launch) (D : va_G) (cI cJ cB cZ : ClassId) (bd : Nat → Nat) (k : Nat) (t : XT)  (Q : Int32 → XT → Prop) (hR : wqX12_complex k t  Q) : MetI l yX12_complex wsX12_complex 3 66 0 0 D (TYS cI cJ cB cZ) (wM cI cJ cB cZ bd t) [.ref (bd 0)] (fun r u => Q r u) (fun u : XT => (wM cI cJ cB cZ bd u)) := by
  refine x_startI (ty := .int) (cc := cX12_complex) (by decide) rfl (Nat.le_of_ble_eq_true rfl) ?_
  intro p e s m args below meth c A ls B hr hnm h hl
  have hx := B.1.1
  have hb := B.1.2.1
  have hml := B.1.2.2.1
  have hts := B.1.2.2.2.2
  have hown : s.vm.findClass RX12 = some m.cls := B.1.2.2.2.1
  have hin12 : ∀ w ∈ u_ws RX12 TX12 31, w ∈ wsX12_complex := by decide +kernel
  have main : ∀ k : Nat, (∀ (t : XT) (li : Nat → Int32) (lj : Nat → Int64) (H : Heap) (locs : List Loc) (ls : Array Slot), wpX12_complex k 0 t li lj Q → lv_has ls 3 [(0, .ref (bd 0))] → Hp D A s.heap (wM cI cJ cB cZ bd t) H locs → W p l e { frames := 3, cells := 0, slots := 0, locals := 66 } s m args below meth c H locs 0 0 (MQ below (va_Qi (fun r u => Q r u) (fun u t => xEnd D ((fun u : XT => (wM cI cJ cB cZ bd u)) u) A t) A) args s 0 0 A) (F0 m 0 ls [])) ∧
      (∀ (t : XT) (li : Nat → Int32) (lj : Nat → Int64) (H : Heap) (locs : List Loc) (ls : Array Slot), wpX12_complex k 1 t li lj Q → lv_has ls 3 [(0, .ref (bd 0)), (1, .int (li 1))] → Hp D A s.heap (wM cI cJ cB cZ bd t) H locs → W p l e { frames := 3, cells := 0, slots := 0, locals := 66 } s m args below meth c H locs 0 0 (MQ below (va_Qi (fun r u => Q r u) (fun u t => xEnd D ((fun u : XT => (wM cI cJ cB cZ bd u)) u) A t) A) args s 0 0 A) (F0 m 12 ls [])) ∧
      (∀ (t : XT) (li : Nat → Int32) (lj : Nat → Int64) (H : Heap) (locs : List Loc) (ls : Array Slot), wpX12_complex k 2 t li lj Q → lv_has ls 3 [(0, .ref (bd 0)), (1, .int (li 1)), (2, .int (li 2))] → Hp D A s.heap (wM cI cJ cB cZ bd t) H locs → W p l e { frames := 3, cells := 0, slots := 0, locals := 66 } s m args below meth c H locs 0 0 (MQ below (va_Qi (fun r u => Q r u) (fun u t => xEnd D ((fun u : XT => (wM cI cJ cB cZ bd u)) u) A t) A) args s 0 0 A) (F0 m 36 ls [])) ∧
      (∀ (t : XT) (li : Nat → Int32) (lj : Nat → Int64) (H : Heap) (locs : List Loc) (ls : Array Slot), wpX12_complex k 3 t li lj Q → lv_has ls 3 [(0, .ref (bd 0)), (1, .int (li 1)), (2, .int (li 2))] → Hp D A s.heap (wM cI cJ cB cZ bd t) H locs → W p l e { frames := 3, cells := 0, slots := 0, locals := 66 } s m args below meth c H locs 0 0 (MQ below (va_Qi (fun r u => Q r u) (fun u t => xEnd D ((fun u : XT => (wM cI cJ cB cZ bd u)) u) A t) A) args s 0 0 A) (F0 m 68 ls [])) ∧
      (∀ (t : XT) (li : Nat → Int32) (lj : Nat → Int64) (H : Heap) (locs : List Loc) (ls : Array Slot), wpX12_complex k 4 t li lj Q → lv_has ls 3 [(0, .ref (bd 0)), (1, .int (li 1)), (2, .int (li 2))] → Hp D A s.heap (wM cI cJ cB cZ bd t) H locs → W p l e { frames := 3, cells := 0, slots := 0, locals := 66 } s m args below meth c H locs 0 0 (MQ below (va_Qi (fun r u => Q r u) (fun u t => xEnd D ((fun u : XT => (wM cI cJ cB cZ bd u)) u) A t) A) args s 0 0 A) (F0 m 69 ls [.int (li 100)])) ∧
      (∀ (t : XT) (li : Nat → Int32) (lj : Nat → Int64) (H : Heap) (locs : List Loc) (ls : Array Slot), wpX12_complex k 5 t li lj Q → lv_has ls 3 [(0, .ref (bd 0)), (1, .int (li 1)), (2, .int (li 2))] → Hp D A s.heap (wM cI cJ cB cZ bd t) H locs → W p l e { frames := 3, cells := 0, slots := 0, locals := 66 } s m args below meth c H locs 0 0 (MQ below (va_Qi (fun r u => Q r u) (fun u t => xEnd D ((fun u : XT => (wM cI cJ cB cZ bd u)) u) A t) A) args s 0 0 A) (F0 m 110 ls [])) := by
    intro k
    induction k with
    | zero => exact ⟨fun _ _ _ _ _ _ hR => False.elim hR, fun _ _ _ _ _ _ hR => False.elim hR, fun _ _ _ _ _ _ hR => False.elim hR, fun _ _ _ _ _ _ hR => False.elim hR, fun _ _ _ _ _ _ hR => False.elim hR, fun _ _ _ _ _ _ hR => False.elim hR⟩
    | succ k ih =>
      refine ⟨?_, ?_, ?_, ?_, ?_, ?_⟩
      · intro t li lj H locs ls hR hl h
        have hR : wbX12_complex_0 (wpX12_complex k) k t li lj Q := hR
        unfold wbX12_complex_0 at hR
        refine lv_aload_n hx hb dX12_complex_0 rfl (lv_at hl 0 rfl) ?_
        refine lv_iconst (v := 0) hx hb dX12_complex_1 (by decide) ?_
        refine x_put (ci := 12) (C := RX12) (T := TX12) (N := 31) (v := .int 0) (ty := .int) B h hin12 tyX12 tyX12_ok nmX12 0 2 rfl rfl (by decide) (by decide +kernel) rfl rfl rfl rfl (Nat.le_of_ble_eq_true rfl) dX12_complex_2 (fun H locs h => ?_)
        obtain ⟨t_1, et_1⟩ : ∃ v : XT, v = sI t 1 0 := ⟨_, rfl⟩
        have hR := hR t_1 et_1
        have h : Hp D A s.heap (wM cI cJ cB cZ bd t_1) H locs := by rw [et_1]; exact h
        refine lv_aload_n hx hb dX12_complex_5 rfl (lv_at hl 0 rfl) ?_
        refine lv_iconst (v := (-1)) hx hb dX12_complex_6 (by decide) ?_
        refine x_put (ci := 12) (C := RX12) (T := TX12) (N := 31) (v := .int (-1)) (ty := .int) B h hin12 tyX12 tyX12_ok nmX12 0 3 rfl rfl (by decide) (by decide +kernel) rfl rfl rfl rfl (Nat.le_of_ble_eq_true rfl) dX12_complex_7 (fun H locs h => ?_)
        obtain ⟨t_2, et_2⟩ : ∃ v : XT, v = sI t_1 2 (-1) := ⟨_, rfl⟩
        have hR := hR t_2 et_2
        have h : Hp D A s.heap (wM cI cJ cB cZ bd t_2) H locs := by rw [et_2]; exact h
        refine lv_iconst (v := 0) hx hb dX12_complex_10 (by decide) ?_
        refine lv_istore_n (lv' := [(1, .int 0), (0, .ref (bd 0))]) hx hb dX12_complex_11 rfl hl (by decide) rfl (fun ls hl => ?_)
        exact ih.2.1 t_2 (uI li 1 0) lj H locs ls hR (lv_sub hl [1, 0] rfl) h
      · intro t li lj H locs ls hR hl h
        have hR : wbX12_complex_1 (wpX12_complex k) k t li lj Q := hR
        unfold wbX12_complex_1 at hR
        refine lv_iload_n hx hb dX12_complex_12 rfl (lv_at hl 1 rfl) ?_
        refine lv_sipush (v := 256) hx hb dX12_complex_13 (by decide) ?_
        refine lv_icmp_ge (tgt := 32) hx hb dX12_complex_16 (by decide) (fun c_3 => ?_) (fun c_3 => ?_)
        · have hR := hR.1 c_3
          refine lv_iconst (v := 0) hx hb dX12_complex_32 (by decide) ?_
          refine lv_istore_n (lv' := [(1, .int 0), (0, .ref (bd 0))]) hx hb dX12_complex_33 rfl hl (by decide) rfl (fun ls hl => ?_)
          refine lv_iconst (v := 1) hx hb dX12_complex_34 (by decide) ?_
          refine lv_istore_n (lv' := [(2, .int 1), (1, .int 0), (0, .ref (bd 0))]) hx hb dX12_complex_35 rfl hl (by decide) rfl (fun ls hl => ?_)
          exact ih.2.2.1 t (uI (uI li 1 0) 2 1) lj H locs ls hR (lv_sub hl [2, 1, 0] rfl) h
        · have hR := hR.2 c_3
          refine lv_aload_n hx hb dX12_complex_19 rfl (lv_at hl 0 rfl) ?_
          refine x_get (ci := 12) (C := RX12) (T := TX12) (N := 31) (v := .ref (bd 2)) B h hin12 0 4 rfl rfl (by decide) (by decide +kernel) rfl dX12_complex_20 ?_
          refine lv_iload_n hx hb dX12_complex_23 rfl (lv_at hl 1 rfl) ?_
          refine lv_iconst (v := 0) hx hb dX12_complex_24 (by decide) ?_
          obtain ⟨hb_4, hR⟩ := hR
          refine z_zast (f := (t.2.2.1 1)) B h 2 3 rfl rfl hb_4 dX12_complex_25 (fun H locs h => ?_)
          obtain ⟨t_4, et_4⟩ : ∃ v : XT, v = sA t 1 (upd (t.2.2.1 1) (li 1).toNatClampNeg (vp_nar .boolean 0)) := ⟨_, rfl⟩
          have hR := hR t_4 et_4
          have h : Hp D A s.heap (wM cI cJ cB cZ bd t_4) H locs := by rw [et_4]; exact h
          obtain ⟨v_5, ev_5⟩ : ∃ v : Int32, v = (li 1) + Int32.ofInt 1 := ⟨_, rfl⟩
          have hR := hR v_5 ev_5
          refine lv_iinc (v := v_5) (lv' := [(1, .int v_5), (0, .ref (bd 0))]) hx hb dX12_complex_26 hl (k := 1) rfl ev_5.symm (by decide) rfl (fun ls hl => ?_)
          refine lv_goto (tgt := 12) hx hb dX12_complex_29 (by decide) ?_
          exact ih.2.1 t_4 (uI li 1 v_5) lj H locs ls hR (lv_sub hl [1, 0] rfl) h
      · intro t li lj H locs ls hR hl h
        have hR : wbX12_complex_2 (wpX12_complex k) k t li lj Q := hR
        unfold wbX12_complex_2 at hR
        refine lv_iload_n hx hb dX12_complex_36 rfl (lv_at hl 2 rfl) ?_
        refine lv_if_eq (tgt := 86) hx hb dX12_complex_37 (by decide) (fun c_6 => ?_) (fun c_6 => ?_)
        · have hR := hR.1 c_6
          refine lv_aload_n hx hb dX12_complex_86 rfl (lv_at hl 0 rfl) ?_
          refine x_cVIF (n := 0) (As := []) (rest := []) B h (wkX12_isRight l D cI cJ cB cZ bd k t  _ hR) ⟨⟨_, rfl⟩, by decide +kernel, Nat.le_of_ble_eq_true rfl, Nat.le_of_ble_eq_true rfl⟩ gX12_complex_X12_isRight (show ((wM cI cJ cB cZ bd t) : va_W)[0]? = some (_, .inr (12, _)) from rfl) rfl rfl hl.1 rfl (Nat.le_of_ble_eq_true rfl) dX12_complex_87 ⟨Nat.le_of_ble_eq_true rfl, Nat.le_of_ble_eq_true rfl⟩ (fun r_7 t_7 H locs hR h => ?_)
          refine lv_if_eq (tgt := 110) hx hb dX12_complex_90 (by decide) (fun c_8 => ?_) (fun c_8 => ?_)
          · have hR := hR.1 c_8
            exact ih.2.2.2.2.2 t_7 li lj H locs ls hR (lv_sub hl [0, 1, 2] rfl) h
          · have hR := hR.2 c_8
            refine lv_aload_n hx hb dX12_complex_93 rfl (lv_at hl 0 rfl) ?_
            refine x_cVIF (n := 0) (As := []) (rest := []) B h (wkX12_byteNow l D cI cJ cB cZ bd k t_7  _ hR) ⟨⟨_, rfl⟩, by decide +kernel, Nat.le_of_ble_eq_true rfl, Nat.le_of_ble_eq_true rfl⟩ gX12_complex_X12_byteNow (show ((wM cI cJ cB cZ bd t_7) : va_W)[0]? = some (_, .inr (12, _)) from rfl) rfl rfl hl.1 rfl (Nat.le_of_ble_eq_true rfl) dX12_complex_94 ⟨Nat.le_of_ble_eq_true rfl, Nat.le_of_ble_eq_true rfl⟩ (fun r_9 t_9 H locs hR h => ?_)
            refine lv_iconst (v := (-1)) hx hb dX12_complex_97 (by decide) ?_
            refine lv_icmp_eq (tgt := 110) hx hb dX12_complex_98 (by decide) (fun c_10 => ?_) (fun c_10 => ?_)
            · have hR := hR.1 c_10
              exact ih.2.2.2.2.2 t_9 li lj H locs ls hR (lv_sub hl [0, 1, 2] rfl) h
            · have hR := hR.2 c_10
              refine lv_aload_n hx hb dX12_complex_101 rfl (lv_at hl 0 rfl) ?_
              refine lv_iconst (v := 1) hx hb dX12_complex_102 (by decide) ?_
              refine lv_aload_n hx hb dX12_complex_103 rfl (lv_at hl 0 rfl) ?_
              refine x_get (ci := 12) (C := RX12) (T := TX12) (N := 31) (v := .int (t_9.1 1)) B h hin12 0 2 rfl rfl (by decide) (by decide +kernel) rfl dX12_complex_104 ?_
              refine x_cVVF (n := 2) (As := [.int 1, .int (t_9.1 1)]) (rest := []) B h (wkX12_fails l D cI cJ cB cZ bd k t_9 1 (t_9.1 1) _ hR) ⟨⟨_, rfl⟩, by decide +kernel, Nat.le_of_ble_eq_true rfl, Nat.le_of_ble_eq_true rfl⟩ gX12_complex_X12_fails (show ((wM cI cJ cB cZ bd t_9) : va_W)[0]? = some (_, .inr (12, _)) from rfl) rfl rfl hl.1 rfl (Nat.le_of_ble_eq_true rfl) dX12_complex_107 ⟨Nat.le_of_ble_eq_true rfl, Nat.le_of_ble_eq_true rfl⟩ (fun t_11 H locs hR h => ?_)
              exact ih.2.2.2.2.2 t_11 li lj H locs ls hR (lv_sub hl [0, 1, 2] rfl) h
        · have hR := hR.2 c_6
          refine lv_aload_n hx hb dX12_complex_40 rfl (lv_at hl 0 rfl) ?_
          refine lv_iload_n hx hb dX12_complex_41 rfl (lv_at hl 1 rfl) ?_
          refine x_cVVF (n := 1) (As := [.int (li 1)]) (rest := []) B h (wkX12_readsFacet l D cI cJ cB cZ bd k t (li 1) _ hR) ⟨⟨_, rfl⟩, by decide +kernel, Nat.le_of_ble_eq_true rfl, Nat.le_of_ble_eq_true rfl⟩ gX12_complex_X12_readsFacet (show ((wM cI cJ cB cZ bd t) : va_W)[0]? = some (_, .inr (12, _)) from rfl) rfl rfl hl.1 rfl (Nat.le_of_ble_eq_true rfl) dX12_complex_42 ⟨Nat.le_of_ble_eq_true rfl, Nat.le_of_ble_eq_true rfl⟩ (fun t_12 H locs hR h => ?_)
          obtain ⟨v_13, ev_13⟩ : ∃ v : Int32, v = (li 1) + Int32.ofInt 1 := ⟨_, rfl⟩
          have hR := hR v_13 ev_13
          refine lv_iinc (v := v_13) (lv' := [(1, .int v_13), (0, .ref (bd 0)), (2, .int (li 2))]) hx hb dX12_complex_45 hl (k := 1) rfl ev_13.symm (by decide) rfl (fun ls hl => ?_)
          refine lv_aload_n hx hb dX12_complex_48 rfl (lv_at hl 1 rfl) ?_
          refine x_cVIF (n := 0) (As := []) (rest := []) B h (wkX12_isRight l D cI cJ cB cZ bd k t_12  _ hR) ⟨⟨_, rfl⟩, by decide +kernel, Nat.le_of_ble_eq_true rfl, Nat.le_of_ble_eq_true rfl⟩ gX12_complex_X12_isRight (show ((wM cI cJ cB cZ bd t_12) : va_W)[0]? = some (_, .inr (12, _)) from rfl) rfl rfl hl.1 rfl (Nat.le_of_ble_eq_true rfl) dX12_complex_49 ⟨Nat.le_of_ble_eq_true rfl, Nat.le_of_ble_eq_true rfl⟩ (fun r_14 t_14 H locs hR h => ?_)
          refine lv_if_eq (tgt := 68) hx hb dX12_complex_52 (by decide) (fun c_15 => ?_) (fun c_15 => ?_)
          · have hR := hR.1 c_15
            exact ih.2.2.2.1 t_14 (uI li 1 v_13) lj H locs ls hR (lv_sub hl [1, 0, 2] rfl) h
          · have hR := hR.2 c_15
            refine lv_aload_n hx hb dX12_complex_55 rfl (lv_at hl 1 rfl) ?_
            refine x_cVIF (n := 0) (As := []) (rest := []) B h (wkX12_byteNow l D cI cJ cB cZ bd k t_14  _ hR) ⟨⟨_, rfl⟩, by decide +kernel, Nat.le_of_ble_eq_true rfl, Nat.le_of_ble_eq_true rfl⟩ gX12_complex_X12_byteNow (show ((wM cI cJ cB cZ bd t_14) : va_W)[0]? = some (_, .inr (12, _)) from rfl) rfl rfl hl.1 rfl (Nat.le_of_ble_eq_true rfl) dX12_complex_56 ⟨Nat.le_of_ble_eq_true rfl, Nat.le_of_ble_eq_true rfl⟩ (fun r_16 t_16 H locs hR h => ?_)
            refine lv_bipush (v := 44) hx hb dX12_complex_59 (by decide) ?_
            refine lv_icmp_ne (tgt := 68) hx hb dX12_complex_61 (by decide) (fun c_17 => ?_) (fun c_17 => ?_)
            · have hR := hR.1 c_17
              exact ih.2.2.2.1 t_16 (uI li 1 v_13) lj H locs ls hR (lv_sub hl [1, 0, 2] rfl) h
            · have hR := hR.2 c_17
              refine lv_iconst (v := 1) hx hb dX12_complex_64 (by decide) ?_
              refine lv_goto (tgt := 69) hx hb dX12_complex_65 (by decide) ?_
              exact ih.2.2.2.2.1 t_16 (uI (uI li 1 v_13) 100 1) lj H locs ls hR (lv_sub hl [1, 0, 2] rfl) h
      · intro t li lj H locs ls hR hl h
        have hR : wbX12_complex_3 (wpX12_complex k) k t li lj Q := hR
        unfold wbX12_complex_3 at hR
        refine lv_iconst (v := 0) hx hb dX12_complex_68 (by decide) ?_
        exact ih.2.2.2.2.1 t (uI li 100 0) lj H locs ls hR (lv_sub hl [0, 1, 2] rfl) h
      · intro t li lj H locs ls hR hl h
        have hR : wbX12_complex_4 (wpX12_complex k) k t li lj Q := hR
        unfold wbX12_complex_4 at hR
        refine lv_istore_n (lv' := [(2, .int (li 100)), (0, .ref (bd 0)), (1, .int (li 1))]) hx hb dX12_complex_69 rfl hl (by decide) rfl (fun ls hl => ?_)
        refine lv_aload_n hx hb dX12_complex_70 rfl (lv_at hl 1 rfl) ?_
        refine lv_dup hx hb dX12_complex_71 rfl ?_
        refine x_get (ci := 12) (C := RX12) (T := TX12) (N := 31) (v := .int (t.1 1)) B h hin12 0 2 rfl rfl (by decide) (by decide +kernel) rfl dX12_complex_72 ?_
        refine lv_iload_n hx hb dX12_complex_75 rfl (lv_at hl 0 rfl) ?_
        refine x_cSIE (n := 1) (As := [.int (li 100)]) (rest := [.int (t.1 1), .ref (bd 0)]) B h (wkX12_truth l D cI cJ cB cZ bd k (li 100) _ hR) ⟨⟨_, rfl⟩, by decide +kernel, Nat.le_of_ble_eq_true rfl, Nat.le_of_ble_eq_true rfl⟩ gX12_complex_X12_truth rfl hl.1 rfl (Nat.le_of_ble_eq_true rfl) dX12_complex_76 ⟨Nat.le_of_ble_eq_true rfl, Nat.le_of_ble_eq_true rfl⟩ (fun r_18 _ H locs hR h => ?_)
        refine lv_iadd hx hb dX12_complex_79 ?_
        refine lv_topi (fun v_19 ev_19 => ?_)
        have hR := hR v_19 ev_19
        refine x_put (ci := 12) (C := RX12) (T := TX12) (N := 31) (v := .int v_19) (ty := .int) B h hin12 tyX12 tyX12_ok nmX12 0 2 rfl rfl (by decide) (by decide +kernel) rfl rfl rfl rfl (Nat.le_of_ble_eq_true rfl) dX12_complex_80 (fun H locs h => ?_)
        obtain ⟨t_20, et_20⟩ : ∃ v : XT, v = sI t 1 v_19 := ⟨_, rfl⟩
        have hR := hR t_20 et_20
        have h : Hp D A s.heap (wM cI cJ cB cZ bd t_20) H locs := by rw [et_20]; exact h
        refine lv_goto (tgt := 36) hx hb dX12_complex_83 (by decide) ?_
        exact ih.2.2.1 t_20 (uI li 2 (li 100)) lj H locs ls hR (lv_sub hl [1, 2, 0] rfl) h
      · intro t li lj H locs ls hR hl h
        have hR : wbX12_complex_5 (wpX12_complex k) k t li lj Q := hR
        unfold wbX12_complex_5 at hR
        refine lv_aload_n hx hb dX12_complex_110 rfl (lv_at hl 0 rfl) ?_
        refine lv_iconst (v := 0) hx hb dX12_complex_111 (by decide) ?_
        refine x_put (ci := 12) (C := RX12) (T := TX12) (N := 31) (v := .int 0) (ty := .int) B h hin12 tyX12 tyX12_ok nmX12 0 1 rfl rfl (by decide) (by decide +kernel) rfl rfl rfl rfl (Nat.le_of_ble_eq_true rfl) dX12_complex_112 (fun H locs h => ?_)
        obtain ⟨t_21, et_21⟩ : ∃ v : XT, v = sI t 0 0 := ⟨_, rfl⟩
        have hR := hR t_21 et_21
        have h : Hp D A s.heap (wM cI cJ cB cZ bd t_21) H locs := by rw [et_21]; exact h
        refine lv_aload_n hx hb dX12_complex_115 rfl (lv_at hl 0 rfl) ?_
        refine x_cVIF (n := 0) (As := []) (rest := []) B h (wkX12_isRight l D cI cJ cB cZ bd k t_21  _ hR) ⟨⟨_, rfl⟩, by decide +kernel, Nat.le_of_ble_eq_true rfl, Nat.le_of_ble_eq_true rfl⟩ gX12_complex_X12_isRight (show ((wM cI cJ cB cZ bd t_21) : va_W)[0]? = some (_, .inr (12, _)) from rfl) rfl rfl hl.1 rfl (Nat.le_of_ble_eq_true rfl) dX12_complex_116 ⟨Nat.le_of_ble_eq_true rfl, Nat.le_of_ble_eq_true rfl⟩ (fun r_22 t_22 H locs hR h => ?_)
        refine lv_if_ne (tgt := 130) hx hb dX12_complex_119 (by decide) (fun c_23 => ?_) (fun c_23 => ?_)
        · have hR := hR.1 c_23
          refine lv_aload_n hx hb dX12_complex_130 rfl (lv_at hl 0 rfl) ?_
          refine x_cVVF (n := 0) (As := []) (rest := []) B h (wkX12_numbers l D cI cJ cB cZ bd k t_22  _ hR) ⟨⟨_, rfl⟩, by decide +kernel, Nat.le_of_ble_eq_true rfl, Nat.le_of_ble_eq_true rfl⟩ gX12_complex_X12_numbers (show ((wM cI cJ cB cZ bd t_22) : va_W)[0]? = some (_, .inr (12, _)) from rfl) rfl rfl hl.1 rfl (Nat.le_of_ble_eq_true rfl) dX12_complex_131 ⟨Nat.le_of_ble_eq_true rfl, Nat.le_of_ble_eq_true rfl⟩ (fun t_24 H locs hR h => ?_)
          refine lv_aload_n hx hb dX12_complex_134 rfl (lv_at hl 0 rfl) ?_
          refine x_get (ci := 12) (C := RX12) (T := TX12) (N := 31) (v := .int (t_24.1 3)) B h hin12 0 5 rfl rfl (by decide) (by decide +kernel) rfl dX12_complex_135 ?_
          exact x_iret (w1 := (fun u : XT => (wM cI cJ cB cZ bd u))) t_24 B h hr rfl hR dX12_complex_138
        · have hR := hR.2 c_23
          refine lv_bipush (v := (-2)) hx hb dX12_complex_122 (by decide) ?_
          refine lv_aload_n hx hb dX12_complex_124 rfl (lv_at hl 0 rfl) ?_
          refine x_get (ci := 12) (C := RX12) (T := TX12) (N := 31) (v := .int (t_22.1 2)) B h hin12 0 3 rfl rfl (by decide) (by decide +kernel) rfl dX12_complex_125 ?_
          refine lv_isub hx hb dX12_complex_128 ?_
          refine lv_topi (fun v_25 ev_25 => ?_)
          have hR := hR v_25 ev_25
          exact x_iret (w1 := (fun u : XT => (wM cI cJ cB cZ bd u))) t_22 B h hr rfl hR dX12_complex_129
  exact (main k).1 t _ _ s.heap [] ls hR hl h
def wbX12_isSimplex_0 (rec : Nat → XT → (Nat → Int32) → (Nat → Int64) → (Int32 → XT → Prop) → Prop) (k : Nat) (t : XT) (li : Nat → Int32) (lj : Nat → Int64) (Q : Int32 → XT → Prop) : Prop :=
  (∀ v_1 : Int32, v_1 = ((t.1 3) - 1) → (wqX12_in k (li 1) 0 v_1 (fun r_2 => ((r_2 = 0 ∨ r_2 = 1) ∧ Q r_2 t))))
def wpX12_isSimplex : Nat → Nat → XT → (Nat → Int32) → (Nat → Int64) → (Int32 → XT → Prop) → Prop
  | 0, _, _, _, _, _ => False
  | k + 1, 0, t, li, lj, Q => wbX12_isSimplex_0 (wpX12_isSimplex k) k t li lj Q
  | _ + 1, _, _, _, _, _ => False
def wqX12_isSimplex (k : Nat) (t : XT) (a1 : Int32) (Q : Int32 → XT → Prop) : Prop := wpX12_isSimplex k 0 t (uI (fun _ => 0) 1 a1) (fun _ => 0) Q
set_option maxHeartbeats 8000000 in
set_option maxRecDepth 100000 in
theorem wkX12_isSimplex (l : Launch) (D : va_G) (cI cJ cB cZ : ClassId) (bd : Nat → Nat) (k : Nat) (t : XT) (a1 : Int32) (Q : Int32 → XT → Prop) (hR : wqX12_isSimplex k t a1 Q) : MetI l yX12_isSimplex wsX12_isSimplex 1 22 0 0 D (TYS cI cJ cB cZ) (wM cI cJ cB cZ bd t) [.ref (bd 0), .int a1] (fun r u => Q r u) (fun u : XT => (wM cI cJ cB cZ bd u)) := by
  refine x_startI (ty := .boolean) (cc := cX12_isSimplex) (by decide) rfl (Nat.le_of_ble_eq_true rfl) ?_
  intro p e s m args below meth c A ls B hr hnm h hl
  have hx := B.1.1
  have hb := B.1.2.1
  have hml := B.1.2.2.1
  have hts := B.1.2.2.2.2
  have hown : s.vm.findClass RX12 = some m.cls := B.1.2.2.2.1
  have hin12 : ∀ w ∈ u_ws RX12 TX12 31, w ∈ wsX12_isSimplex := by decide +kernel
  have main : ∀ k : Nat, (∀ (t : XT) (li : Nat → Int32) (lj : Nat → Int64) (H : Heap) (locs : List Loc) (ls : Array Slot), wpX12_isSimplex k 0 t li lj Q → lv_has ls 2 [(0, .ref (bd 0)), (1, .int (li 1))] → Hp D A s.heap (wM cI cJ cB cZ bd t) H locs → W p l e { frames := 1, cells := 0, slots := 0, locals := 22 } s m args below meth c H locs 0 0 (MQ below (va_Qi (fun r u => Q r u) (fun u t => xEnd D ((fun u : XT => (wM cI cJ cB cZ bd u)) u) A t) A) args s 0 0 A) (F0 m 0 ls [])) := by
    intro k
    induction k with
    | zero => exact fun _ _ _ _ _ _ hR => False.elim hR
    | succ k ih =>
      intro t li lj H locs ls hR hl h
      have hR : wbX12_isSimplex_0 (wpX12_isSimplex k) k t li lj Q := hR
      unfold wbX12_isSimplex_0 at hR
      refine lv_iload_n hx hb dX12_isSimplex_0 rfl (lv_at hl 1 rfl) ?_
      refine lv_iconst (v := 0) hx hb dX12_isSimplex_1 (by decide) ?_
      refine lv_aload_n hx hb dX12_isSimplex_2 rfl (lv_at hl 0 rfl) ?_
      refine x_get (ci := 12) (C := RX12) (T := TX12) (N := 31) (v := .int (t.1 3)) B h hin12 0 5 rfl rfl (by decide) (by decide +kernel) rfl dX12_isSimplex_3 ?_
      refine lv_iconst (v := 1) hx hb dX12_isSimplex_6 (by decide) ?_
      refine lv_isub hx hb dX12_isSimplex_7 ?_
      refine lv_topi (fun v_1 ev_1 => ?_)
      have hR := hR v_1 ev_1
      refine x_cSIE (n := 3) (As := [.int (li 1), .int 0, .int v_1]) (rest := []) B h (wkX12_in l D cI cJ cB cZ bd k (li 1) 0 v_1 _ hR) ⟨⟨_, rfl⟩, by decide +kernel, Nat.le_of_ble_eq_true rfl, Nat.le_of_ble_eq_true rfl⟩ gX12_isSimplex_X12_in rfl hl.1 rfl (Nat.le_of_ble_eq_true rfl) dX12_isSimplex_8 ⟨Nat.le_of_ble_eq_true rfl, Nat.le_of_ble_eq_true rfl⟩ (fun r_2 _ H locs hR h => ?_)
      obtain ⟨hz_3, hR⟩ := hR
      exact x_iret (w1 := (fun u : XT => (wM cI cJ cB cZ bd u))) t B h hr (by rcases hz_3 with h_ | h_ <;> rw [h_] <;> rfl) hR dX12_isSimplex_11
  exact (main k) t _ _ s.heap [] ls hR hl h
def wbX12_dimOf_0 (rec : Nat → XT → (Nat → Int32) → (Nat → Int64) → (Int32 → XT → Prop) → Prop) (k : Nat) (t : XT) (li : Nat → Int32) (lj : Nat → Int64) (Q : Int32 → XT → Prop) : Prop :=
  (vp_in (li 1) 60 ∧ (∀ v_1 : Int32, v_1 = (t.2.2.1 2) (li 1).toNatClampNeg → (wqJ6_bitCount_0f7a4 k v_1 (fun r_2 => (∀ v_3 : Int32, v_3 = (r_2 - 1) → Q v_3 t)))))
def wpX12_dimOf : Nat → Nat → XT → (Nat → Int32) → (Nat → Int64) → (Int32 → XT → Prop) → Prop
  | 0, _, _, _, _, _ => False
  | k + 1, 0, t, li, lj, Q => wbX12_dimOf_0 (wpX12_dimOf k) k t li lj Q
  | _ + 1, _, _, _, _, _ => False
def wqX12_dimOf (k : Nat) (t : XT) (a1 : Int32) (Q : Int32 → XT → Prop) : Prop := wpX12_dimOf k 0 t (uI (fun _ => 0) 1 a1) (fun _ => 0) Q
set_option maxHeartbeats 8000000 in
set_option maxRecDepth 100000 in
theorem wkX12_dimOf (l : Launch) (D : va_G) (cI cJ cB cZ : ClassId) (bd : Nat → Nat) (k : Nat) (t : XT) (a1 : Int32) (Q : Int32 → XT → Prop) (hR : wqX12_dimOf k t a1 Q) : MetI l yX12_dimOf wsX12_dimOf 1 20 0 0 D (TYS cI cJ cB cZ) (wM cI cJ cB cZ bd t) [.ref (bd 0), .int a1] (fun r u => Q r u) (fun u : XT => (wM cI cJ cB cZ bd u)) := by
  refine x_startI (ty := .int) (cc := cX12_dimOf) (by decide) rfl (Nat.le_of_ble_eq_true rfl) ?_
  intro p e s m args below meth c A ls B hr hnm h hl
  have hx := B.1.1
  have hb := B.1.2.1
  have hml := B.1.2.2.1
  have hts := B.1.2.2.2.2
  have hown : s.vm.findClass RX12 = some m.cls := B.1.2.2.2.1
  have hin12 : ∀ w ∈ u_ws RX12 TX12 31, w ∈ wsX12_dimOf := by decide +kernel
  have main : ∀ k : Nat, (∀ (t : XT) (li : Nat → Int32) (lj : Nat → Int64) (H : Heap) (locs : List Loc) (ls : Array Slot), wpX12_dimOf k 0 t li lj Q → lv_has ls 2 [(0, .ref (bd 0)), (1, .int (li 1))] → Hp D A s.heap (wM cI cJ cB cZ bd t) H locs → W p l e { frames := 1, cells := 0, slots := 0, locals := 20 } s m args below meth c H locs 0 0 (MQ below (va_Qi (fun r u => Q r u) (fun u t => xEnd D ((fun u : XT => (wM cI cJ cB cZ bd u)) u) A t) A) args s 0 0 A) (F0 m 0 ls [])) := by
    intro k
    induction k with
    | zero => exact fun _ _ _ _ _ _ hR => False.elim hR
    | succ k ih =>
      intro t li lj H locs ls hR hl h
      have hR : wbX12_dimOf_0 (wpX12_dimOf k) k t li lj Q := hR
      unfold wbX12_dimOf_0 at hR
      refine lv_aload_n hx hb dX12_dimOf_0 rfl (lv_at hl 0 rfl) ?_
      refine x_get (ci := 12) (C := RX12) (T := TX12) (N := 31) (v := .ref (bd 3)) B h hin12 0 6 rfl rfl (by decide) (by decide +kernel) rfl dX12_dimOf_1 ?_
      refine lv_iload_n hx hb dX12_dimOf_4 rfl (lv_at hl 1 rfl) ?_
      obtain ⟨hb_1, hR⟩ := hR
      refine va_iald (f := (t.2.2.1 2)) hx hb B.2.1 h.1 3 0 rfl rfl hb_1 dX12_dimOf_5 ?_
      refine lv_topi (fun v_1 ev_1 => ?_)
      have hR := hR v_1 ev_1
      refine x_cSIE (n := 1) (As := [.int v_1]) (rest := []) B h (wkJ6_bitCount_0f7a4 l D cI cJ cB cZ bd k v_1 _ hR) ⟨⟨_, rfl⟩, by decide +kernel, Nat.le_of_ble_eq_true rfl, Nat.le_of_ble_eq_true rfl⟩ gX12_dimOf_J6_bitCount_0f7a4 rfl hl.1 rfl (Nat.le_of_ble_eq_true rfl) dX12_dimOf_6 ⟨Nat.le_of_ble_eq_true rfl, Nat.le_of_ble_eq_true rfl⟩ (fun r_2 _ H locs hR h => ?_)
      refine lv_iconst (v := 1) hx hb dX12_dimOf_9 (by decide) ?_
      refine lv_isub hx hb dX12_dimOf_10 ?_
      refine lv_topi (fun v_3 ev_3 => ?_)
      have hR := hR v_3 ev_3
      exact x_iret (w1 := (fun u : XT => (wM cI cJ cB cZ bd u))) t B h hr rfl hR dX12_dimOf_11
  exact (main k) t _ _ s.heap [] ls hR hl h
def wbX12_isLower_0 (rec : Nat → XT → (Nat → Int32) → (Nat → Int64) → (Int32 → XT → Prop) → Prop) (k : Nat) (t : XT) (li : Nat → Int32) (lj : Nat → Int64) (Q : Int32 → XT → Prop) : Prop :=
  (vp_in (li 1) 60 ∧ (∀ v_1 : Int32, v_1 = (t.2.2.1 4) (li 1).toNatClampNeg → ((v_1 = (-1)) → rec 1 t li lj Q) ∧ (¬ (v_1 = (-1)) → (vp_in (li 1) 60 ∧ (∀ v_3 : Int32, v_3 = (t.2.2.1 4) (li 1).toNatClampNeg → ((v_3 ≤ (li 1)) → rec 1 t li lj Q) ∧ (¬ (v_3 ≤ (li 1)) → Q 1 t))))))
def wbX12_isLower_1 (rec : Nat → XT → (Nat → Int32) → (Nat → Int64) → (Int32 → XT → Prop) → Prop) (k : Nat) (t : XT) (li : Nat → Int32) (lj : Nat → Int64) (Q : Int32 → XT → Prop) : Prop :=
  Q 0 t
def wpX12_isLower : Nat → Nat → XT → (Nat → Int32) → (Nat → Int64) → (Int32 → XT → Prop) → Prop
  | 0, _, _, _, _, _ => False
  | k + 1, 0, t, li, lj, Q => wbX12_isLower_0 (wpX12_isLower k) k t li lj Q
  | k + 1, 1, t, li, lj, Q => wbX12_isLower_1 (wpX12_isLower k) k t li lj Q
  | _ + 1, _, _, _, _, _ => False
def wqX12_isLower (k : Nat) (t : XT) (a1 : Int32) (Q : Int32 → XT → Prop) : Prop := wpX12_isLower k 0 t (uI (fun _ => 0) 1 a1) (fun _ => 0) Q
set_option maxHeartbeats 8000000 in
set_option maxRecDepth 100000 in
theorem wkX12_isLower (l : Launch) (D : va_G) (cI cJ cB cZ : ClassId) (bd : Nat → Nat) (k : Nat) (t : XT) (a1 : Int32) (Q : Int32 → XT → Prop) (hR : wqX12_isLower k t a1 Q) : MetI l yX12_isLower wsX12_isLower 0 0 0 0 D (TYS cI cJ cB cZ) (wM cI cJ cB cZ bd t) [.ref (bd 0), .int a1] (fun r u => Q r u) (fun u : XT => (wM cI cJ cB cZ bd u)) := by
  refine x_startI (ty := .boolean) (cc := cX12_isLower) (by decide) rfl (Nat.le_of_ble_eq_true rfl) ?_
  intro p e s m args below meth c A ls B hr hnm h hl
  have hx := B.1.1
  have hb := B.1.2.1
  have hml := B.1.2.2.1
  have hts := B.1.2.2.2.2
  have hown : s.vm.findClass RX12 = some m.cls := B.1.2.2.2.1
  have hin12 : ∀ w ∈ u_ws RX12 TX12 31, w ∈ wsX12_isLower := by decide +kernel
  have main : ∀ k : Nat, (∀ (t : XT) (li : Nat → Int32) (lj : Nat → Int64) (H : Heap) (locs : List Loc) (ls : Array Slot), wpX12_isLower k 0 t li lj Q → lv_has ls 2 [(0, .ref (bd 0)), (1, .int (li 1))] → Hp D A s.heap (wM cI cJ cB cZ bd t) H locs → W p l e { frames := 0, cells := 0, slots := 0, locals := 0 } s m args below meth c H locs 0 0 (MQ below (va_Qi (fun r u => Q r u) (fun u t => xEnd D ((fun u : XT => (wM cI cJ cB cZ bd u)) u) A t) A) args s 0 0 A) (F0 m 0 ls [])) ∧
      (∀ (t : XT) (li : Nat → Int32) (lj : Nat → Int64) (H : Heap) (locs : List Loc) (ls : Array Slot), wpX12_isLower k 1 t li lj Q → lv_has ls 2 [(0, .ref (bd 0)), (1, .int (li 1))] → Hp D A s.heap (wM cI cJ cB cZ bd t) H locs → W p l e { frames := 0, cells := 0, slots := 0, locals := 0 } s m args below meth c H locs 0 0 (MQ below (va_Qi (fun r u => Q r u) (fun u t => xEnd D ((fun u : XT => (wM cI cJ cB cZ bd u)) u) A t) A) args s 0 0 A) (F0 m 24 ls [])) := by
    intro k
    induction k with
    | zero => exact ⟨fun _ _ _ _ _ _ hR => False.elim hR, fun _ _ _ _ _ _ hR => False.elim hR⟩
    | succ k ih =>
      refine ⟨?_, ?_⟩
      · intro t li lj H locs ls hR hl h
        have hR : wbX12_isLower_0 (wpX12_isLower k) k t li lj Q := hR
        unfold wbX12_isLower_0 at hR
        refine lv_aload_n hx hb dX12_isLower_0 rfl (lv_at hl 0 rfl) ?_
        refine x_get (ci := 12) (C := RX12) (T := TX12) (N := 31) (v := .ref (bd 5)) B h hin12 0 8 rfl rfl (by decide) (by decide +kernel) rfl dX12_isLower_1 ?_
        refine lv_iload_n hx hb dX12_isLower_4 rfl (lv_at hl 1 rfl) ?_
        obtain ⟨hb_1, hR⟩ := hR
        refine va_iald (f := (t.2.2.1 4)) hx hb B.2.1 h.1 5 0 rfl rfl hb_1 dX12_isLower_5 ?_
        refine lv_topi (fun v_1 ev_1 => ?_)
        have hR := hR v_1 ev_1
        refine lv_iconst (v := (-1)) hx hb dX12_isLower_6 (by decide) ?_
        refine lv_icmp_eq (tgt := 24) hx hb dX12_isLower_7 (by decide) (fun c_2 => ?_) (fun c_2 => ?_)
        · have hR := hR.1 c_2
          exact ih.2 t li lj H locs ls hR (lv_sub hl [0, 1] rfl) h
        · have hR := hR.2 c_2
          refine lv_aload_n hx hb dX12_isLower_10 rfl (lv_at hl 0 rfl) ?_
          refine x_get (ci := 12) (C := RX12) (T := TX12) (N := 31) (v := .ref (bd 5)) B h hin12 0 8 rfl rfl (by decide) (by decide +kernel) rfl dX12_isLower_11 ?_
          refine lv_iload_n hx hb dX12_isLower_14 rfl (lv_at hl 1 rfl) ?_
          obtain ⟨hb_3, hR⟩ := hR
          refine va_iald (f := (t.2.2.1 4)) hx hb B.2.1 h.1 5 0 rfl rfl hb_3 dX12_isLower_15 ?_
          refine lv_topi (fun v_3 ev_3 => ?_)
          have hR := hR v_3 ev_3
          refine lv_iload_n hx hb dX12_isLower_16 rfl (lv_at hl 1 rfl) ?_
          refine lv_icmp_le (tgt := 24) hx hb dX12_isLower_17 (by decide) (fun c_4 => ?_) (fun c_4 => ?_)
          · have hR := hR.1 c_4
            exact ih.2 t li lj H locs ls hR (lv_sub hl [0, 1] rfl) h
          · have hR := hR.2 c_4
            refine lv_iconst (v := 1) hx hb dX12_isLower_20 (by decide) ?_
            refine lv_goto (tgt := 25) hx hb dX12_isLower_21 (by decide) ?_
            exact x_iret (w1 := (fun u : XT => (wM cI cJ cB cZ bd u))) t B h hr rfl hR dX12_isLower_25
      · intro t li lj H locs ls hR hl h
        have hR : wbX12_isLower_1 (wpX12_isLower k) k t li lj Q := hR
        unfold wbX12_isLower_1 at hR
        refine lv_iconst (v := 0) hx hb dX12_isLower_24 (by decide) ?_
        exact x_iret (w1 := (fun u : XT => (wM cI cJ cB cZ bd u))) t B h hr rfl hR dX12_isLower_25
  exact (main k).1 t _ _ s.heap [] ls hR hl h
def wbX12_isFace_0 (rec : Nat → XT → (Nat → Int32) → (Nat → Int64) → (Int32 → XT → Prop) → Prop) (k : Nat) (t : XT) (li : Nat → Int32) (lj : Nat → Int64) (Q : Int32 → XT → Prop) : Prop :=
  (wqX12_dimOf k t (li 2) (fun r_1 t_1 => (wqX12_dimOf k t_1 (li 1) (fun r_2 t_2 => (∀ v_3 : Int32, v_3 = (r_2 + 1) → ((¬ r_1 = v_3) → rec 1 t_2 li lj Q) ∧ ((r_1 = v_3) → (vp_in (li 1) 60 ∧ (∀ v_5 : Int32, v_5 = (t_2.2.2.1 2) (li 1).toNatClampNeg → (vp_in (li 2) 60 ∧ (∀ v_6 : Int32, v_6 = (t_2.2.2.1 2) (li 2).toNatClampNeg → (∀ v_7 : Int32, v_7 = (v_6 ^^^ (-1)) → (∀ v_8 : Int32, v_8 = (v_5 &&& v_7) → ((¬ v_8 = 0) → rec 1 t_2 li lj Q) ∧ ((v_8 = 0) → Q 1 t_2)))))))))))))
def wbX12_isFace_1 (rec : Nat → XT → (Nat → Int32) → (Nat → Int64) → (Int32 → XT → Prop) → Prop) (k : Nat) (t : XT) (li : Nat → Int32) (lj : Nat → Int64) (Q : Int32 → XT → Prop) : Prop :=
  Q 0 t
def wpX12_isFace : Nat → Nat → XT → (Nat → Int32) → (Nat → Int64) → (Int32 → XT → Prop) → Prop
  | 0, _, _, _, _, _ => False
  | k + 1, 0, t, li, lj, Q => wbX12_isFace_0 (wpX12_isFace k) k t li lj Q
  | k + 1, 1, t, li, lj, Q => wbX12_isFace_1 (wpX12_isFace k) k t li lj Q
  | _ + 1, _, _, _, _, _ => False
def wqX12_isFace (k : Nat) (t : XT) (a1 : Int32) (a2 : Int32) (Q : Int32 → XT → Prop) : Prop := wpX12_isFace k 0 t (uI (uI (fun _ => 0) 1 a1) 2 a2) (fun _ => 0) Q
set_option maxHeartbeats 8000000 in
set_option maxRecDepth 100000 in
theorem wkX12_isFace (l : Launch) (D : va_G) (cI cJ cB cZ : ClassId) (bd : Nat → Nat) (k : Nat) (t : XT) (a1 : Int32) (a2 : Int32) (Q : Int32 → XT → Prop) (hR : wqX12_isFace k t a1 a2 Q) : MetI l yX12_isFace wsX12_isFace 2 41 0 0 D (TYS cI cJ cB cZ) (wM cI cJ cB cZ bd t) [.ref (bd 0), .int a1, .int a2] (fun r u => Q r u) (fun u : XT => (wM cI cJ cB cZ bd u)) := by
  refine x_startI (ty := .boolean) (cc := cX12_isFace) (by decide) rfl (Nat.le_of_ble_eq_true rfl) ?_
  intro p e s m args below meth c A ls B hr hnm h hl
  have hx := B.1.1
  have hb := B.1.2.1
  have hml := B.1.2.2.1
  have hts := B.1.2.2.2.2
  have hown : s.vm.findClass RX12 = some m.cls := B.1.2.2.2.1
  have hin12 : ∀ w ∈ u_ws RX12 TX12 31, w ∈ wsX12_isFace := by decide +kernel
  have main : ∀ k : Nat, (∀ (t : XT) (li : Nat → Int32) (lj : Nat → Int64) (H : Heap) (locs : List Loc) (ls : Array Slot), wpX12_isFace k 0 t li lj Q → lv_has ls 3 [(0, .ref (bd 0)), (1, .int (li 1)), (2, .int (li 2))] → Hp D A s.heap (wM cI cJ cB cZ bd t) H locs → W p l e { frames := 2, cells := 0, slots := 0, locals := 41 } s m args below meth c H locs 0 0 (MQ below (va_Qi (fun r u => Q r u) (fun u t => xEnd D ((fun u : XT => (wM cI cJ cB cZ bd u)) u) A t) A) args s 0 0 A) (F0 m 0 ls [])) ∧
      (∀ (t : XT) (li : Nat → Int32) (lj : Nat → Int64) (H : Heap) (locs : List Loc) (ls : Array Slot), wpX12_isFace k 1 t li lj Q → lv_has ls 3 [(0, .ref (bd 0)), (1, .int (li 1)), (2, .int (li 2))] → Hp D A s.heap (wM cI cJ cB cZ bd t) H locs → W p l e { frames := 2, cells := 0, slots := 0, locals := 41 } s m args below meth c H locs 0 0 (MQ below (va_Qi (fun r u => Q r u) (fun u t => xEnd D ((fun u : XT => (wM cI cJ cB cZ bd u)) u) A t) A) args s 0 0 A) (F0 m 37 ls [])) := by
    intro k
    induction k with
    | zero => exact ⟨fun _ _ _ _ _ _ hR => False.elim hR, fun _ _ _ _ _ _ hR => False.elim hR⟩
    | succ k ih =>
      refine ⟨?_, ?_⟩
      · intro t li lj H locs ls hR hl h
        have hR : wbX12_isFace_0 (wpX12_isFace k) k t li lj Q := hR
        unfold wbX12_isFace_0 at hR
        refine lv_aload_n hx hb dX12_isFace_0 rfl (lv_at hl 0 rfl) ?_
        refine lv_iload_n hx hb dX12_isFace_1 rfl (lv_at hl 2 rfl) ?_
        refine x_cVIF (n := 1) (As := [.int (li 2)]) (rest := []) B h (wkX12_dimOf l D cI cJ cB cZ bd k t (li 2) _ hR) ⟨⟨_, rfl⟩, by decide +kernel, Nat.le_of_ble_eq_true rfl, Nat.le_of_ble_eq_true rfl⟩ gX12_isFace_X12_dimOf (show ((wM cI cJ cB cZ bd t) : va_W)[0]? = some (_, .inr (12, _)) from rfl) rfl rfl hl.1 rfl (Nat.le_of_ble_eq_true rfl) dX12_isFace_2 ⟨Nat.le_of_ble_eq_true rfl, Nat.le_of_ble_eq_true rfl⟩ (fun r_1 t_1 H locs hR h => ?_)
        refine lv_aload_n hx hb dX12_isFace_5 rfl (lv_at hl 0 rfl) ?_
        refine lv_iload_n hx hb dX12_isFace_6 rfl (lv_at hl 1 rfl) ?_
        refine x_cVIF (n := 1) (As := [.int (li 1)]) (rest := [.int r_1]) B h (wkX12_dimOf l D cI cJ cB cZ bd k t_1 (li 1) _ hR) ⟨⟨_, rfl⟩, by decide +kernel, Nat.le_of_ble_eq_true rfl, Nat.le_of_ble_eq_true rfl⟩ gX12_isFace_X12_dimOf (show ((wM cI cJ cB cZ bd t_1) : va_W)[0]? = some (_, .inr (12, _)) from rfl) rfl rfl hl.1 rfl (Nat.le_of_ble_eq_true rfl) dX12_isFace_7 ⟨Nat.le_of_ble_eq_true rfl, Nat.le_of_ble_eq_true rfl⟩ (fun r_2 t_2 H locs hR h => ?_)
        refine lv_iconst (v := 1) hx hb dX12_isFace_10 (by decide) ?_
        refine lv_iadd hx hb dX12_isFace_11 ?_
        refine lv_topi (fun v_3 ev_3 => ?_)
        have hR := hR v_3 ev_3
        refine lv_icmp_ne (tgt := 37) hx hb dX12_isFace_12 (by decide) (fun c_4 => ?_) (fun c_4 => ?_)
        · have hR := hR.1 c_4
          exact ih.2 t_2 li lj H locs ls hR (lv_sub hl [0, 1, 2] rfl) h
        · have hR := hR.2 c_4
          refine lv_aload_n hx hb dX12_isFace_15 rfl (lv_at hl 0 rfl) ?_
          refine x_get (ci := 12) (C := RX12) (T := TX12) (N := 31) (v := .ref (bd 3)) B h hin12 0 6 rfl rfl (by decide) (by decide +kernel) rfl dX12_isFace_16 ?_
          refine lv_iload_n hx hb dX12_isFace_19 rfl (lv_at hl 1 rfl) ?_
          obtain ⟨hb_5, hR⟩ := hR
          refine va_iald (f := (t_2.2.2.1 2)) hx hb B.2.1 h.1 3 0 rfl rfl hb_5 dX12_isFace_20 ?_
          refine lv_topi (fun v_5 ev_5 => ?_)
          have hR := hR v_5 ev_5
          refine lv_aload_n hx hb dX12_isFace_21 rfl (lv_at hl 0 rfl) ?_
          refine x_get (ci := 12) (C := RX12) (T := TX12) (N := 31) (v := .ref (bd 3)) B h hin12 0 6 rfl rfl (by decide) (by decide +kernel) rfl dX12_isFace_22 ?_
          refine lv_iload_n hx hb dX12_isFace_25 rfl (lv_at hl 2 rfl) ?_
          obtain ⟨hb_6, hR⟩ := hR
          refine va_iald (f := (t_2.2.2.1 2)) hx hb B.2.1 h.1 3 0 rfl rfl hb_6 dX12_isFace_26 ?_
          refine lv_topi (fun v_6 ev_6 => ?_)
          have hR := hR v_6 ev_6
          refine lv_iconst (v := (-1)) hx hb dX12_isFace_27 (by decide) ?_
          refine lv_ixor hx hb dX12_isFace_28 ?_
          refine lv_topi (fun v_7 ev_7 => ?_)
          have hR := hR v_7 ev_7
          refine lv_iand hx hb dX12_isFace_29 ?_
          refine lv_topi (fun v_8 ev_8 => ?_)
          have hR := hR v_8 ev_8
          refine lv_if_ne (tgt := 37) hx hb dX12_isFace_30 (by decide) (fun c_9 => ?_) (fun c_9 => ?_)
          · have hR := hR.1 c_9
            exact ih.2 t_2 li lj H locs ls hR (lv_sub hl [0, 1, 2] rfl) h
          · have hR := hR.2 c_9
            refine lv_iconst (v := 1) hx hb dX12_isFace_33 (by decide) ?_
            refine lv_goto (tgt := 38) hx hb dX12_isFace_34 (by decide) ?_
            exact x_iret (w1 := (fun u : XT => (wM cI cJ cB cZ bd u))) t_2 B h hr rfl hR dX12_isFace_38
      · intro t li lj H locs ls hR hl h
        have hR : wbX12_isFace_1 (wpX12_isFace k) k t li lj Q := hR
        unfold wbX12_isFace_1 at hR
        refine lv_iconst (v := 0) hx hb dX12_isFace_37 (by decide) ?_
        exact x_iret (w1 := (fun u : XT => (wM cI cJ cB cZ bd u))) t B h hr rfl hR dX12_isFace_38
  exact (main k).1 t _ _ s.heap [] ls hR hl h
def wbX12_isFaceThere_0 (rec : Nat → XT → (Nat → Int32) → (Nat → Int64) → (Int32 → XT → Prop) → Prop) (k : Nat) (t : XT) (li : Nat → Int32) (lj : Nat → Int64) (Q : Int32 → XT → Prop) : Prop :=
  (vp_in (li 1) 60 ∧ (∀ v_1 : Int32, v_1 = (t.2.2.1 5) (li 1).toNatClampNeg → ((¬ v_1 = 0) → rec 1 t li lj Q) ∧ ((v_1 = 0) → (vp_in (li 2) 60 ∧ (∀ v_3 : Int32, v_3 = (t.2.2.1 5) (li 2).toNatClampNeg → ((¬ v_3 = 0) → rec 1 t li lj Q) ∧ ((v_3 = 0) → (wqX12_isFace k t (li 1) (li 2) (fun r_5 t_5 => ((r_5 = 0) → rec 1 t_5 li lj Q) ∧ (¬ (r_5 = 0) → Q 1 t_5)))))))))
def wbX12_isFaceThere_1 (rec : Nat → XT → (Nat → Int32) → (Nat → Int64) → (Int32 → XT → Prop) → Prop) (k : Nat) (t : XT) (li : Nat → Int32) (lj : Nat → Int64) (Q : Int32 → XT → Prop) : Prop :=
  Q 0 t
def wpX12_isFaceThere : Nat → Nat → XT → (Nat → Int32) → (Nat → Int64) → (Int32 → XT → Prop) → Prop
  | 0, _, _, _, _, _ => False
  | k + 1, 0, t, li, lj, Q => wbX12_isFaceThere_0 (wpX12_isFaceThere k) k t li lj Q
  | k + 1, 1, t, li, lj, Q => wbX12_isFaceThere_1 (wpX12_isFaceThere k) k t li lj Q
  | _ + 1, _, _, _, _, _ => False
def wqX12_isFaceThere (k : Nat) (t : XT) (a1 : Int32) (a2 : Int32) (Q : Int32 → XT → Prop) : Prop := wpX12_isFaceThere k 0 t (uI (uI (fun _ => 0) 1 a1) 2 a2) (fun _ => 0) Q
set_option maxHeartbeats 8000000 in
set_option maxRecDepth 100000 in
theorem wkX12_isFaceThere (l : Launch) (D : va_G) (cI cJ cB cZ : ClassId) (bd : Nat → Nat) (k : Nat) (t : XT) (a1 : Int32) (a2 : Int32) (Q : Int32 → XT → Prop) (hR : wqX12_isFaceThere k t a1 a2 Q) : MetI l yX12_isFaceThere wsX12_isFaceThere 3 63 0 0 D (TYS cI cJ cB cZ) (wM cI cJ cB cZ bd t) [.ref (bd 0), .int a1, .int a2] (fun r u => Q r u) (fun u : XT => (wM cI cJ cB cZ bd u)) := by
  refine x_startI (ty := .boolean) (cc := cX12_isFaceThere) (by decide) rfl (Nat.le_of_ble_eq_true rfl) ?_
  intro p e s m args below meth c A ls B hr hnm h hl
  have hx := B.1.1
  have hb := B.1.2.1
  have hml := B.1.2.2.1
  have hts := B.1.2.2.2.2
  have hown : s.vm.findClass RX12 = some m.cls := B.1.2.2.2.1
  have hin12 : ∀ w ∈ u_ws RX12 TX12 31, w ∈ wsX12_isFaceThere := by decide +kernel
  have main : ∀ k : Nat, (∀ (t : XT) (li : Nat → Int32) (lj : Nat → Int64) (H : Heap) (locs : List Loc) (ls : Array Slot), wpX12_isFaceThere k 0 t li lj Q → lv_has ls 3 [(0, .ref (bd 0)), (1, .int (li 1)), (2, .int (li 2))] → Hp D A s.heap (wM cI cJ cB cZ bd t) H locs → W p l e { frames := 3, cells := 0, slots := 0, locals := 63 } s m args below meth c H locs 0 0 (MQ below (va_Qi (fun r u => Q r u) (fun u t => xEnd D ((fun u : XT => (wM cI cJ cB cZ bd u)) u) A t) A) args s 0 0 A) (F0 m 0 ls [])) ∧
      (∀ (t : XT) (li : Nat → Int32) (lj : Nat → Int64) (H : Heap) (locs : List Loc) (ls : Array Slot), wpX12_isFaceThere k 1 t li lj Q → lv_has ls 3 [(0, .ref (bd 0)), (1, .int (li 1)), (2, .int (li 2))] → Hp D A s.heap (wM cI cJ cB cZ bd t) H locs → W p l e { frames := 3, cells := 0, slots := 0, locals := 63 } s m args below meth c H locs 0 0 (MQ below (va_Qi (fun r u => Q r u) (fun u t => xEnd D ((fun u : XT => (wM cI cJ cB cZ bd u)) u) A t) A) args s 0 0 A) (F0 m 31 ls [])) := by
    intro k
    induction k with
    | zero => exact ⟨fun _ _ _ _ _ _ hR => False.elim hR, fun _ _ _ _ _ _ hR => False.elim hR⟩
    | succ k ih =>
      refine ⟨?_, ?_⟩
      · intro t li lj H locs ls hR hl h
        have hR : wbX12_isFaceThere_0 (wpX12_isFaceThere k) k t li lj Q := hR
        unfold wbX12_isFaceThere_0 at hR
        refine lv_aload_n hx hb dX12_isFaceThere_0 rfl (lv_at hl 0 rfl) ?_
        refine x_get (ci := 12) (C := RX12) (T := TX12) (N := 31) (v := .ref (bd 6)) B h hin12 0 9 rfl rfl (by decide) (by decide +kernel) rfl dX12_isFaceThere_1 ?_
        refine lv_iload_n hx hb dX12_isFaceThere_4 rfl (lv_at hl 1 rfl) ?_
        obtain ⟨hb_1, hR⟩ := hR
        refine va_zald (f := (t.2.2.1 5)) hx hb B.2.1 h.1 6 3 rfl rfl hb_1 dX12_isFaceThere_5 ?_
        refine lv_topi (fun v_1 ev_1 => ?_)
        have hR := hR v_1 ev_1
        refine lv_if_ne (tgt := 31) hx hb dX12_isFaceThere_6 (by decide) (fun c_2 => ?_) (fun c_2 => ?_)
        · have hR := hR.1 c_2
          exact ih.2 t li lj H locs ls hR (lv_sub hl [0, 1, 2] rfl) h
        · have hR := hR.2 c_2
          refine lv_aload_n hx hb dX12_isFaceThere_9 rfl (lv_at hl 0 rfl) ?_
          refine x_get (ci := 12) (C := RX12) (T := TX12) (N := 31) (v := .ref (bd 6)) B h hin12 0 9 rfl rfl (by decide) (by decide +kernel) rfl dX12_isFaceThere_10 ?_
          refine lv_iload_n hx hb dX12_isFaceThere_13 rfl (lv_at hl 2 rfl) ?_
          obtain ⟨hb_3, hR⟩ := hR
          refine va_zald (f := (t.2.2.1 5)) hx hb B.2.1 h.1 6 3 rfl rfl hb_3 dX12_isFaceThere_14 ?_
          refine lv_topi (fun v_3 ev_3 => ?_)
          have hR := hR v_3 ev_3
          refine lv_if_ne (tgt := 31) hx hb dX12_isFaceThere_15 (by decide) (fun c_4 => ?_) (fun c_4 => ?_)
          · have hR := hR.1 c_4
            exact ih.2 t li lj H locs ls hR (lv_sub hl [0, 1, 2] rfl) h
          · have hR := hR.2 c_4
            refine lv_aload_n hx hb dX12_isFaceThere_18 rfl (lv_at hl 0 rfl) ?_
            refine lv_iload_n hx hb dX12_isFaceThere_19 rfl (lv_at hl 1 rfl) ?_
            refine lv_iload_n hx hb dX12_isFaceThere_20 rfl (lv_at hl 2 rfl) ?_
            refine x_cVIF (n := 2) (As := [.int (li 1), .int (li 2)]) (rest := []) B h (wkX12_isFace l D cI cJ cB cZ bd k t (li 1) (li 2) _ hR) ⟨⟨_, rfl⟩, by decide +kernel, Nat.le_of_ble_eq_true rfl, Nat.le_of_ble_eq_true rfl⟩ gX12_isFaceThere_X12_isFace (show ((wM cI cJ cB cZ bd t) : va_W)[0]? = some (_, .inr (12, _)) from rfl) rfl rfl hl.1 rfl (Nat.le_of_ble_eq_true rfl) dX12_isFaceThere_21 ⟨Nat.le_of_ble_eq_true rfl, Nat.le_of_ble_eq_true rfl⟩ (fun r_5 t_5 H locs hR h => ?_)
            refine lv_if_eq (tgt := 31) hx hb dX12_isFaceThere_24 (by decide) (fun c_6 => ?_) (fun c_6 => ?_)
            · have hR := hR.1 c_6
              exact ih.2 t_5 li lj H locs ls hR (lv_sub hl [0, 1, 2] rfl) h
            · have hR := hR.2 c_6
              refine lv_iconst (v := 1) hx hb dX12_isFaceThere_27 (by decide) ?_
              refine lv_goto (tgt := 32) hx hb dX12_isFaceThere_28 (by decide) ?_
              exact x_iret (w1 := (fun u : XT => (wM cI cJ cB cZ bd u))) t_5 B h hr rfl hR dX12_isFaceThere_32
      · intro t li lj H locs ls hR hl h
        have hR : wbX12_isFaceThere_1 (wpX12_isFaceThere k) k t li lj Q := hR
        unfold wbX12_isFaceThere_1 at hR
        refine lv_iconst (v := 0) hx hb dX12_isFaceThere_31 (by decide) ?_
        exact x_iret (w1 := (fun u : XT => (wM cI cJ cB cZ bd u))) t B h hr rfl hR dX12_isFaceThere_32
  exact (main k).1 t _ _ s.heap [] ls hR hl h
