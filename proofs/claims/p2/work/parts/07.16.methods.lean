def wbX12_waysFrom_0 (rec : Nat → XT → (Nat → Int32) → (Nat → Int64) → (Int64 → XT → Prop) → Prop) (k : Nat) (t : XT) (li : Nat → Int32) (lj : Nat → Int64) (Q : Int64 → XT → Prop) : Prop :=
  (wqX12_laysWays k t (li 2) (fun t_1 => rec 1 t_1 (uI li 5 0) (uI lj 3 0) Q))
def wbX12_waysFrom_1 (rec : Nat → XT → (Nat → Int32) → (Nat → Int64) → (Int64 → XT → Prop) → Prop) (k : Nat) (t : XT) (li : Nat → Int32) (lj : Nat → Int64) (Q : Int64 → XT → Prop) : Prop :=
  ((((t.1 3) : Int32) ≤ (li 5)) → Q (lj 3) t) ∧ (¬ (((t.1 3) : Int32) ≤ (li 5)) → (wqX12_isFaceThere k t (li 5) (li 1) (fun r_3 t_3 => ((r_3 = 0) → rec 2 t_3 li (uI (uI lj 101 0) 100 (lj 3)) Q) ∧ (¬ (r_3 = 0) → (vp_in (li 5) 60 ∧ (∀ v_5 : Int64, v_5 = (t_3.2.2.2 0) (li 5).toNatClampNeg → rec 2 t_3 li (uI (uI lj 101 v_5) 100 (lj 3)) Q))))))
def wbX12_waysFrom_2 (rec : Nat → XT → (Nat → Int32) → (Nat → Int64) → (Int64 → XT → Prop) → Prop) (k : Nat) (t : XT) (li : Nat → Int32) (lj : Nat → Int64) (Q : Int64 → XT → Prop) : Prop :=
  (∀ v_6 : Int64, v_6 = ((lj 100) + (lj 101)) → (∀ v_7 : Int32, v_7 = (li 5) + Int32.ofInt 1 → rec 1 t (uI li 5 v_7) (uI lj 3 v_6) Q))
def wpX12_waysFrom : Nat → Nat → XT → (Nat → Int32) → (Nat → Int64) → (Int64 → XT → Prop) → Prop
  | 0, _, _, _, _, _ => False
  | k + 1, 0, t, li, lj, Q => wbX12_waysFrom_0 (wpX12_waysFrom k) k t li lj Q
  | k + 1, 1, t, li, lj, Q => wbX12_waysFrom_1 (wpX12_waysFrom k) k t li lj Q
  | k + 1, 2, t, li, lj, Q => wbX12_waysFrom_2 (wpX12_waysFrom k) k t li lj Q
  | _ + 1, _, _, _, _, _ => False
def wqX12_waysFrom (k : Nat) (t : XT) (a1 : Int32) (a2 : Int32) (Q : Int64 → XT → Prop) : Prop := wpX12_waysFrom k 0 t (uI (uI (fun _ => 0) 1 a1) 2 a2) (fun _ => 0) Q
set_option maxHeartbeats 8000000 in
set_option maxRecDepth 100000 in
theorem wkX12_waysFrom (l : Launch) (D : va_G) (cI cJ cB cZ : ClassId) (bd : Nat → Nat) (k : Nat) (t : XT) (a1 : Int32) (a2 : Int32) (Q : Int64 → XT → Prop) (hR : wqX12_waysFrom k t a1 a2 Q) : MetL l yX12_waysFrom wsX12_waysFrom 6 135 0 0 D (TYS cI cJ cB cZ) (wM cI cJ cB cZ bd t) [.ref (bd 0), .int a1, .int a2] (fun r u => Q r u) (fun u : XT => (wM cI cJ cB cZ bd u)) := by
  refine x_startL (ty := .long) (cc := cX12_waysFrom) (by decide) rfl (Nat.le_of_ble_eq_true rfl) ?_
  intro p e s m args below meth c A ls B hr hnm h hl
  have hx := B.1.1
  have hb := B.1.2.1
  have hml := B.1.2.2.1
  have hts := B.1.2.2.2.2
  have hown : s.vm.findClass RX12 = some m.cls := B.1.2.2.2.1
  have hin12 : ∀ w ∈ u_ws RX12 TX12 31, w ∈ wsX12_waysFrom := by decide +kernel
  have main : ∀ k : Nat, (∀ (t : XT) (li : Nat → Int32) (lj : Nat → Int64) (H : Heap) (locs : List Loc) (ls : Array Slot), wpX12_waysFrom k 0 t li lj Q → lv_has ls 6 [(0, .ref (bd 0)), (1, .int (li 1)), (2, .int (li 2))] → Hp D A s.heap (wM cI cJ cB cZ bd t) H locs → W p l e { frames := 6, cells := 0, slots := 0, locals := 135 } s m args below meth c H locs 0 0 (MQ below (va_Ql (fun r u => Q r u) (fun u t => xEnd D ((fun u : XT => (wM cI cJ cB cZ bd u)) u) A t) A) args s 0 0 A) (F0 m 0 ls [])) ∧
      (∀ (t : XT) (li : Nat → Int32) (lj : Nat → Int64) (H : Heap) (locs : List Loc) (ls : Array Slot), wpX12_waysFrom k 1 t li lj Q → lv_has ls 6 [(0, .ref (bd 0)), (1, .int (li 1)), (2, .int (li 2)), (3, .long (lj 3)), (5, .int (li 5))] → Hp D A s.heap (wM cI cJ cB cZ bd t) H locs → W p l e { frames := 6, cells := 0, slots := 0, locals := 135 } s m args below meth c H locs 0 0 (MQ below (va_Ql (fun r u => Q r u) (fun u t => xEnd D ((fun u : XT => (wM cI cJ cB cZ bd u)) u) A t) A) args s 0 0 A) (F0 m 10 ls [])) ∧
      (∀ (t : XT) (li : Nat → Int32) (lj : Nat → Int64) (H : Heap) (locs : List Loc) (ls : Array Slot), wpX12_waysFrom k 2 t li lj Q → lv_has ls 6 [(0, .ref (bd 0)), (1, .int (li 1)), (2, .int (li 2)), (3, .long (lj 3)), (5, .int (li 5))] → Hp D A s.heap (wM cI cJ cB cZ bd t) H locs → W p l e { frames := 6, cells := 0, slots := 0, locals := 135 } s m args below meth c H locs 0 0 (MQ below (va_Ql (fun r u => Q r u) (fun u t => xEnd D ((fun u : XT => (wM cI cJ cB cZ bd u)) u) A t) A) args s 0 0 A) (F0 m 41 ls [.long (lj 101), .long (lj 100)])) := by
    intro k
    induction k with
    | zero => exact ⟨fun _ _ _ _ _ _ hR => False.elim hR, fun _ _ _ _ _ _ hR => False.elim hR, fun _ _ _ _ _ _ hR => False.elim hR⟩
    | succ k ih =>
      refine ⟨?_, ?_, ?_⟩
      · intro t li lj H locs ls hR hl h
        have hR : wbX12_waysFrom_0 (wpX12_waysFrom k) k t li lj Q := hR
        unfold wbX12_waysFrom_0 at hR
        refine lv_aload_n hx hb dX12_waysFrom_0 rfl (lv_at hl 0 rfl) ?_
        refine lv_iload_n hx hb dX12_waysFrom_1 rfl (lv_at hl 2 rfl) ?_
        refine x_cVVF (n := 1) (As := [.int (li 2)]) (rest := []) B h (wkX12_laysWays l D cI cJ cB cZ bd k t (li 2) _ hR) ⟨⟨_, rfl⟩, by decide +kernel, Nat.le_of_ble_eq_true rfl, Nat.le_of_ble_eq_true rfl⟩ gX12_waysFrom_X12_laysWays (show ((wM cI cJ cB cZ bd t) : va_W)[0]? = some (_, .inr (12, _)) from rfl) rfl rfl hl.1 rfl (Nat.le_of_ble_eq_true rfl) dX12_waysFrom_2 ⟨Nat.le_of_ble_eq_true rfl, Nat.le_of_ble_eq_true rfl⟩ (fun t_1 H locs hR h => ?_)
        refine lv_lconst (v := 0) hx hb dX12_waysFrom_5 (by decide) ?_
        refine lv_lstore_n (lv' := [(3, .long 0), (0, .ref (bd 0)), (1, .int (li 1)), (2, .int (li 2))]) hx hb dX12_waysFrom_6 rfl hl (by decide) rfl (fun ls hl => ?_)
        refine lv_iconst (v := 0) hx hb dX12_waysFrom_7 (by decide) ?_
        refine lv_istore (lv' := [(5, .int 0), (3, .long 0), (0, .ref (bd 0)), (1, .int (li 1)), (2, .int (li 2))]) hx hb dX12_waysFrom_8 hl (by decide) rfl (fun ls hl => ?_)
        exact ih.2.1 t_1 (uI li 5 0) (uI lj 3 0) H locs ls hR (lv_sub hl [2, 3, 4, 1, 0] rfl) h
      · intro t li lj H locs ls hR hl h
        have hR : wbX12_waysFrom_1 (wpX12_waysFrom k) k t li lj Q := hR
        unfold wbX12_waysFrom_1 at hR
        refine lv_iload hx hb dX12_waysFrom_10 (lv_at hl 4 rfl) ?_
        refine lv_aload_n hx hb dX12_waysFrom_12 rfl (lv_at hl 0 rfl) ?_
        refine x_get (ci := 12) (C := RX12) (T := TX12) (N := 31) (v := .int (t.1 3)) B h hin12 0 5 rfl rfl (by decide) (by decide +kernel) rfl dX12_waysFrom_13 ?_
        refine lv_icmp_ge (tgt := 49) hx hb dX12_waysFrom_16 (by decide) (fun c_2 => ?_) (fun c_2 => ?_)
        · have hR := hR.1 c_2
          refine lv_lload_n hx hb dX12_waysFrom_49 rfl (lv_at hl 3 rfl) ?_
          exact x_lret (w1 := (fun u : XT => (wM cI cJ cB cZ bd u))) t B h hr hR dX12_waysFrom_50
        · have hR := hR.2 c_2
          refine lv_lload_n hx hb dX12_waysFrom_19 rfl (lv_at hl 3 rfl) ?_
          refine lv_aload_n hx hb dX12_waysFrom_20 rfl (lv_at hl 0 rfl) ?_
          refine lv_iload hx hb dX12_waysFrom_21 (lv_at hl 4 rfl) ?_
          refine lv_iload_n hx hb dX12_waysFrom_23 rfl (lv_at hl 1 rfl) ?_
          refine x_cVIF (n := 2) (As := [.int (li 5), .int (li 1)]) (rest := [.long (lj 3)]) B h (wkX12_isFaceThere l D cI cJ cB cZ bd k t (li 5) (li 1) _ hR) ⟨⟨_, rfl⟩, by decide +kernel, Nat.le_of_ble_eq_true rfl, Nat.le_of_ble_eq_true rfl⟩ gX12_waysFrom_X12_isFaceThere (show ((wM cI cJ cB cZ bd t) : va_W)[0]? = some (_, .inr (12, _)) from rfl) rfl rfl hl.1 rfl (Nat.le_of_ble_eq_true rfl) dX12_waysFrom_24 ⟨Nat.le_of_ble_eq_true rfl, Nat.le_of_ble_eq_true rfl⟩ (fun r_3 t_3 H locs hR h => ?_)
          refine lv_if_eq (tgt := 40) hx hb dX12_waysFrom_27 (by decide) (fun c_4 => ?_) (fun c_4 => ?_)
          · have hR := hR.1 c_4
            refine lv_lconst (v := 0) hx hb dX12_waysFrom_40 (by decide) ?_
            exact ih.2.2 t_3 li (uI (uI lj 101 0) 100 (lj 3)) H locs ls hR (lv_sub hl [0, 1, 2, 3, 4] rfl) h
          · have hR := hR.2 c_4
            refine lv_aload_n hx hb dX12_waysFrom_30 rfl (lv_at hl 0 rfl) ?_
            refine x_get (ci := 12) (C := RX12) (T := TX12) (N := 31) (v := .ref (bd 11)) B h hin12 0 15 rfl rfl (by decide) (by decide +kernel) rfl dX12_waysFrom_31 ?_
            refine lv_iload hx hb dX12_waysFrom_34 (lv_at hl 4 rfl) ?_
            obtain ⟨hb_5, hR⟩ := hR
            refine va_lald (f := (t_3.2.2.2 0)) hx hb B.2.1 h.1 11 1 rfl rfl hb_5 dX12_waysFrom_36 ?_
            refine lv_topl (fun v_5 ev_5 => ?_)
            have hR := hR v_5 ev_5
            refine lv_goto (tgt := 41) hx hb dX12_waysFrom_37 (by decide) ?_
            exact ih.2.2 t_3 li (uI (uI lj 101 v_5) 100 (lj 3)) H locs ls hR (lv_sub hl [0, 1, 2, 3, 4] rfl) h
      · intro t li lj H locs ls hR hl h
        have hR : wbX12_waysFrom_2 (wpX12_waysFrom k) k t li lj Q := hR
        unfold wbX12_waysFrom_2 at hR
        refine lv_ladd hx hb dX12_waysFrom_41 ?_
        refine lv_topl (fun v_6 ev_6 => ?_)
        have hR := hR v_6 ev_6
        refine lv_lstore_n (lv' := [(3, .long v_6), (0, .ref (bd 0)), (1, .int (li 1)), (2, .int (li 2)), (5, .int (li 5))]) hx hb dX12_waysFrom_42 rfl hl (by decide) rfl (fun ls hl => ?_)
        obtain ⟨v_7, ev_7⟩ : ∃ v : Int32, v = (li 5) + Int32.ofInt 1 := ⟨_, rfl⟩
        have hR := hR v_7 ev_7
        refine lv_iinc (v := v_7) (lv' := [(5, .int v_7), (3, .long v_6), (0, .ref (bd 0)), (1, .int (li 1)), (2, .int (li 2))]) hx hb dX12_waysFrom_43 hl (k := 4) rfl ev_7.symm (by decide) rfl (fun ls hl => ?_)
        refine lv_goto (tgt := 10) hx hb dX12_waysFrom_46 (by decide) ?_
        exact ih.2.1 t (uI li 5 v_7) (uI lj 3 v_6) H locs ls hR (lv_sub hl [2, 3, 4, 1, 0] rfl) h
  exact (main k).1 t _ _ s.heap [] ls hR hl h
def wbX12_rows_0 (rec : Nat → XT → (Nat → Int32) → (Nat → Int64) → (XT → Prop) → Prop) (k : Nat) (t : XT) (li : Nat → Int32) (lj : Nat → Int64) (Q : XT → Prop) : Prop :=
  (vp_in (t.1 5) 122 ∧ (∀ t_1 : XT, t_1 = sA t 10 (upd (t.2.2.1 10) (t.1 5).toNatClampNeg (li 1)) → (∀ v_2 : Int32, v_2 = ((t_1.1 5) + 1) → (∀ t_3 : XT, t_3 = sI t_1 5 v_2 → Q t_3))))
def wpX12_rows : Nat → Nat → XT → (Nat → Int32) → (Nat → Int64) → (XT → Prop) → Prop
  | 0, _, _, _, _, _ => False
  | k + 1, 0, t, li, lj, Q => wbX12_rows_0 (wpX12_rows k) k t li lj Q
  | _ + 1, _, _, _, _, _ => False
def wqX12_rows (k : Nat) (t : XT) (a1 : Int32) (Q : XT → Prop) : Prop := wpX12_rows k 0 t (uI (fun _ => 0) 1 a1) (fun _ => 0) Q
set_option maxHeartbeats 8000000 in
set_option maxRecDepth 100000 in
theorem wkX12_rows (l : Launch) (D : va_G) (cI cJ cB cZ : ClassId) (bd : Nat → Nat) (k : Nat) (t : XT) (a1 : Int32) (Q : XT → Prop) (hR : wqX12_rows k t a1 Q) : MetV l yX12_rows wsX12_rows 0 0 0 0 D (TYS cI cJ cB cZ) (wM cI cJ cB cZ bd t) [.ref (bd 0), .int a1] (fun u => Q u) (fun u : XT => (wM cI cJ cB cZ bd u)) := by
  refine x_startV (ty := .int) (cc := cX12_rows) (by decide) rfl (Nat.le_of_ble_eq_true rfl) ?_
  intro p e s m args below meth c A ls B hr hnm h hl
  have hx := B.1.1
  have hb := B.1.2.1
  have hml := B.1.2.2.1
  have hts := B.1.2.2.2.2
  have hown : s.vm.findClass RX12 = some m.cls := B.1.2.2.2.1
  have hin12 : ∀ w ∈ u_ws RX12 TX12 31, w ∈ wsX12_rows := by decide +kernel
  have main : ∀ k : Nat, (∀ (t : XT) (li : Nat → Int32) (lj : Nat → Int64) (H : Heap) (locs : List Loc) (ls : Array Slot), wpX12_rows k 0 t li lj Q → lv_has ls 2 [(0, .ref (bd 0)), (1, .int (li 1))] → Hp D A s.heap (wM cI cJ cB cZ bd t) H locs → W p l e { frames := 0, cells := 0, slots := 0, locals := 0 } s m args below meth c H locs 0 0 (MQ below (va_Qv (fun u => Q u) (fun u t => xEnd D ((fun u : XT => (wM cI cJ cB cZ bd u)) u) A t) A) args s 0 0 A) (F0 m 0 ls [])) := by
    intro k
    induction k with
    | zero => exact fun _ _ _ _ _ _ hR => False.elim hR
    | succ k ih =>
      intro t li lj H locs ls hR hl h
      have hR : wbX12_rows_0 (wpX12_rows k) k t li lj Q := hR
      unfold wbX12_rows_0 at hR
      refine lv_aload_n hx hb dX12_rows_0 rfl (lv_at hl 0 rfl) ?_
      refine x_get (ci := 12) (C := RX12) (T := TX12) (N := 31) (v := .ref (bd 13)) B h hin12 0 17 rfl rfl (by decide) (by decide +kernel) rfl dX12_rows_1 ?_
      refine lv_aload_n hx hb dX12_rows_4 rfl (lv_at hl 0 rfl) ?_
      refine x_get (ci := 12) (C := RX12) (T := TX12) (N := 31) (v := .int (t.1 5)) B h hin12 0 18 rfl rfl (by decide) (by decide +kernel) rfl dX12_rows_5 ?_
      refine lv_iload_n hx hb dX12_rows_8 rfl (lv_at hl 1 rfl) ?_
      obtain ⟨hb_1, hR⟩ := hR
      refine z_iast (f := (t.2.2.1 10)) B h 13 0 rfl rfl hb_1 dX12_rows_9 (fun H locs h => ?_)
      obtain ⟨t_1, et_1⟩ : ∃ v : XT, v = sA t 10 (upd (t.2.2.1 10) (t.1 5).toNatClampNeg (li 1)) := ⟨_, rfl⟩
      have hR := hR t_1 et_1
      have h : Hp D A s.heap (wM cI cJ cB cZ bd t_1) H locs := by rw [et_1]; exact h
      refine lv_aload_n hx hb dX12_rows_10 rfl (lv_at hl 0 rfl) ?_
      refine lv_dup hx hb dX12_rows_11 rfl ?_
      refine x_get (ci := 12) (C := RX12) (T := TX12) (N := 31) (v := .int (t_1.1 5)) B h hin12 0 18 rfl rfl (by decide) (by decide +kernel) rfl dX12_rows_12 ?_
      refine lv_iconst (v := 1) hx hb dX12_rows_15 (by decide) ?_
      refine lv_iadd hx hb dX12_rows_16 ?_
      refine lv_topi (fun v_2 ev_2 => ?_)
      have hR := hR v_2 ev_2
      refine x_put (ci := 12) (C := RX12) (T := TX12) (N := 31) (v := .int v_2) (ty := .int) B h hin12 tyX12 tyX12_ok nmX12 0 18 rfl rfl (by decide) (by decide +kernel) rfl rfl rfl rfl (Nat.le_of_ble_eq_true rfl) dX12_rows_17 (fun H locs h => ?_)
      obtain ⟨t_3, et_3⟩ : ∃ v : XT, v = sI t_1 5 v_2 := ⟨_, rfl⟩
      have hR := hR t_3 et_3
      have h : Hp D A s.heap (wM cI cJ cB cZ bd t_3) H locs := by rw [et_3]; exact h
      exact x_vret (w1 := (fun u : XT => (wM cI cJ cB cZ bd u))) t_3 B h hr hR dX12_rows_20
  exact (main k) t _ _ s.heap [] ls hR hl h
def wbX12_laysPath_0 (rec : Nat → XT → (Nat → Int32) → (Nat → Int64) → (Int32 → XT → Prop) → Prop) (k : Nat) (t : XT) (li : Nat → Int32) (lj : Nat → Int64) (Q : Int32 → XT → Prop) : Prop :=
  (wqX12_waysFrom k t (li 1) (li 2) (fun r_1 t_1 => (∀ v_2 : Int32, v_2 = (lg_cmp (lj 3) r_1) → ((v_2 < 0) → (∀ t_4 : XT, t_4 = sI t_1 5 0 → (wqX12_rows k t_4 (li 1) (fun t_5 => rec 1 t_5 (uI (uI li 5 (li 1)) 6 (-1)) (uI lj 7 (lj 3)) Q)))) ∧ (¬ (v_2 < 0) → Q 0 t_1))))
def wbX12_laysPath_1 (rec : Nat → XT → (Nat → Int32) → (Nat → Int64) → (Int32 → XT → Prop) → Prop) (k : Nat) (t : XT) (li : Nat → Int32) (lj : Nat → Int64) (Q : Int32 → XT → Prop) : Prop :=
  (((li 6) = (li 2)) → Q 1 t) ∧ (¬ ((li 6) = (li 2)) → rec 2 t (uI li 9 0) lj Q)
def wbX12_laysPath_2 (rec : Nat → XT → (Nat → Int32) → (Nat → Int64) → (Int32 → XT → Prop) → Prop) (k : Nat) (t : XT) (li : Nat → Int32) (lj : Nat → Int64) (Q : Int32 → XT → Prop) : Prop :=
  (((li 9) = (li 6)) → rec 3 t li lj Q) ∧ (¬ ((li 9) = (li 6)) → (wqX12_isFaceThere k t (li 9) (li 5) (fun r_8 t_8 => ((r_8 = 0) → rec 3 t_8 li lj Q) ∧ (¬ (r_8 = 0) → (vp_in (li 9) 60 ∧ (∀ v_10 : Int64, v_10 = (t_8.2.2.2 0) (li 9).toNatClampNeg → (∀ v_11 : Int32, v_11 = (lg_cmp v_10 (lj 7)) → (((0 : Int32) < v_11) → (wqX12_rows k t_8 (li 9) (fun t_13 => (((li 9) = (li 2)) → rec 6 t_13 (uI li 6 (li 9)) lj Q) ∧ (¬ ((li 9) = (li 2)) → (vp_in (li 9) 60 ∧ (∀ v_15 : Int32, v_15 = (t_13.2.2.1 4) (li 9).toNatClampNeg → (wqX12_rows k t_13 v_15 (fun t_16 => rec 6 t_16 (uI (uI li 5 v_15) 6 (li 9)) lj Q)))))))) ∧ (¬ ((0 : Int32) < v_11) → rec 3 t_8 li lj Q))))))))
def wbX12_laysPath_3 (rec : Nat → XT → (Nat → Int32) → (Nat → Int64) → (Int32 → XT → Prop) → Prop) (k : Nat) (t : XT) (li : Nat → Int32) (lj : Nat → Int64) (Q : Int32 → XT → Prop) : Prop :=
  (((li 9) = (li 6)) → rec 4 t li (uI lj 100 (lj 7)) Q) ∧ (¬ ((li 9) = (li 6)) → (wqX12_isFaceThere k t (li 9) (li 5) (fun r_18 t_18 => ((r_18 = 0) → rec 4 t_18 li (uI lj 100 (lj 7)) Q) ∧ (¬ (r_18 = 0) → (vp_in (li 9) 60 ∧ (∀ v_20 : Int64, v_20 = (t_18.2.2.2 0) (li 9).toNatClampNeg → rec 5 t_18 li (uI (uI lj 101 v_20) 100 (lj 7)) Q))))))
def wbX12_laysPath_4 (rec : Nat → XT → (Nat → Int32) → (Nat → Int64) → (Int32 → XT → Prop) → Prop) (k : Nat) (t : XT) (li : Nat → Int32) (lj : Nat → Int64) (Q : Int32 → XT → Prop) : Prop :=
  rec 5 t li (uI (uI lj 101 0) 100 (lj 100)) Q
def wbX12_laysPath_5 (rec : Nat → XT → (Nat → Int32) → (Nat → Int64) → (Int32 → XT → Prop) → Prop) (k : Nat) (t : XT) (li : Nat → Int32) (lj : Nat → Int64) (Q : Int32 → XT → Prop) : Prop :=
  (∀ v_21 : Int64, v_21 = ((lj 100) - (lj 101)) → (∀ v_22 : Int32, v_22 = (li 9) + Int32.ofInt 1 → rec 2 t (uI li 9 v_22) (uI lj 7 v_21) Q))
def wbX12_laysPath_6 (rec : Nat → XT → (Nat → Int32) → (Nat → Int64) → (Int32 → XT → Prop) → Prop) (k : Nat) (t : XT) (li : Nat → Int32) (lj : Nat → Int64) (Q : Int32 → XT → Prop) : Prop :=
  rec 1 t li lj Q
def wpX12_laysPath : Nat → Nat → XT → (Nat → Int32) → (Nat → Int64) → (Int32 → XT → Prop) → Prop
  | 0, _, _, _, _, _ => False
  | k + 1, 0, t, li, lj, Q => wbX12_laysPath_0 (wpX12_laysPath k) k t li lj Q
  | k + 1, 1, t, li, lj, Q => wbX12_laysPath_1 (wpX12_laysPath k) k t li lj Q
  | k + 1, 2, t, li, lj, Q => wbX12_laysPath_2 (wpX12_laysPath k) k t li lj Q
  | k + 1, 3, t, li, lj, Q => wbX12_laysPath_3 (wpX12_laysPath k) k t li lj Q
  | k + 1, 4, t, li, lj, Q => wbX12_laysPath_4 (wpX12_laysPath k) k t li lj Q
  | k + 1, 5, t, li, lj, Q => wbX12_laysPath_5 (wpX12_laysPath k) k t li lj Q
  | k + 1, 6, t, li, lj, Q => wbX12_laysPath_6 (wpX12_laysPath k) k t li lj Q
  | _ + 1, _, _, _, _, _ => False
def wqX12_laysPath (k : Nat) (t : XT) (a1 : Int32) (a2 : Int32) (a3 : Int64) (Q : Int32 → XT → Prop) : Prop := wpX12_laysPath k 0 t (uI (uI (fun _ => 0) 1 a1) 2 a2) (uI (fun _ => 0) 3 a3) Q
set_option maxHeartbeats 8000000 in
set_option maxRecDepth 100000 in
theorem wkX12_laysPath (l : Launch) (D : va_G) (cI cJ cB cZ : ClassId) (bd : Nat → Nat) (k : Nat) (t : XT) (a1 : Int32) (a2 : Int32) (a3 : Int64) (Q : Int32 → XT → Prop) (hR : wqX12_laysPath k t a1 a2 a3 Q) : MetI l yX12_laysPath wsX12_laysPath 7 160 0 0 D (TYS cI cJ cB cZ) (wM cI cJ cB cZ bd t) [.ref (bd 0), .int a1, .int a2, .long a3] (fun r u => Q r u) (fun u : XT => (wM cI cJ cB cZ bd u)) := by
  refine x_startI (ty := .boolean) (cc := cX12_laysPath) (by decide) rfl (Nat.le_of_ble_eq_true rfl) ?_
  intro p e s m args below meth c A ls B hr hnm h hl
  have hx := B.1.1
  have hb := B.1.2.1
  have hml := B.1.2.2.1
  have hts := B.1.2.2.2.2
  have hown : s.vm.findClass RX12 = some m.cls := B.1.2.2.2.1
  have hin12 : ∀ w ∈ u_ws RX12 TX12 31, w ∈ wsX12_laysPath := by decide +kernel
  have main : ∀ k : Nat, (∀ (t : XT) (li : Nat → Int32) (lj : Nat → Int64) (H : Heap) (locs : List Loc) (ls : Array Slot), wpX12_laysPath k 0 t li lj Q → lv_has ls 10 [(0, .ref (bd 0)), (1, .int (li 1)), (2, .int (li 2)), (3, .long (lj 3))] → Hp D A s.heap (wM cI cJ cB cZ bd t) H locs → W p l e { frames := 7, cells := 0, slots := 0, locals := 160 } s m args below meth c H locs 0 0 (MQ below (va_Qi (fun r u => Q r u) (fun u t => xEnd D ((fun u : XT => (wM cI cJ cB cZ bd u)) u) A t) A) args s 0 0 A) (F0 m 0 ls [])) ∧
      (∀ (t : XT) (li : Nat → Int32) (lj : Nat → Int64) (H : Heap) (locs : List Loc) (ls : Array Slot), wpX12_laysPath k 1 t li lj Q → lv_has ls 10 [(0, .ref (bd 0)), (1, .int (li 1)), (2, .int (li 2)), (3, .long (lj 3)), (5, .int (li 5)), (6, .int (li 6)), (7, .long (lj 7))] → Hp D A s.heap (wM cI cJ cB cZ bd t) H locs → W p l e { frames := 7, cells := 0, slots := 0, locals := 160 } s m args below meth c H locs 0 0 (MQ below (va_Qi (fun r u => Q r u) (fun u t => xEnd D ((fun u : XT => (wM cI cJ cB cZ bd u)) u) A t) A) args s 0 0 A) (F0 m 32 ls [])) ∧
      (∀ (t : XT) (li : Nat → Int32) (lj : Nat → Int64) (H : Heap) (locs : List Loc) (ls : Array Slot), wpX12_laysPath k 2 t li lj Q → lv_has ls 10 [(0, .ref (bd 0)), (1, .int (li 1)), (2, .int (li 2)), (3, .long (lj 3)), (5, .int (li 5)), (6, .int (li 6)), (7, .long (lj 7)), (9, .int (li 9))] → Hp D A s.heap (wM cI cJ cB cZ bd t) H locs → W p l e { frames := 7, cells := 0, slots := 0, locals := 160 } s m args below meth c H locs 0 0 (MQ below (va_Qi (fun r u => Q r u) (fun u t => xEnd D ((fun u : XT => (wM cI cJ cB cZ bd u)) u) A t) A) args s 0 0 A) (F0 m 41 ls [])) ∧
      (∀ (t : XT) (li : Nat → Int32) (lj : Nat → Int64) (H : Heap) (locs : List Loc) (ls : Array Slot), wpX12_laysPath k 3 t li lj Q → lv_has ls 10 [(0, .ref (bd 0)), (1, .int (li 1)), (2, .int (li 2)), (3, .long (lj 3)), (5, .int (li 5)), (6, .int (li 6)), (7, .long (lj 7)), (9, .int (li 9))] → Hp D A s.heap (wM cI cJ cB cZ bd t) H locs → W p l e { frames := 7, cells := 0, slots := 0, locals := 160 } s m args below meth c H locs 0 0 (MQ below (va_Qi (fun r u => Q r u) (fun u t => xEnd D ((fun u : XT => (wM cI cJ cB cZ bd u)) u) A t) A) args s 0 0 A) (F0 m 72 ls [])) ∧
      (∀ (t : XT) (li : Nat → Int32) (lj : Nat → Int64) (H : Heap) (locs : List Loc) (ls : Array Slot), wpX12_laysPath k 4 t li lj Q → lv_has ls 10 [(0, .ref (bd 0)), (1, .int (li 1)), (2, .int (li 2)), (3, .long (lj 3)), (5, .int (li 5)), (6, .int (li 6)), (7, .long (lj 7)), (9, .int (li 9))] → Hp D A s.heap (wM cI cJ cB cZ bd t) H locs → W p l e { frames := 7, cells := 0, slots := 0, locals := 160 } s m args below meth c H locs 0 0 (MQ below (va_Qi (fun r u => Q r u) (fun u t => xEnd D ((fun u : XT => (wM cI cJ cB cZ bd u)) u) A t) A) args s 0 0 A) (F0 m 102 ls [.long (lj 100)])) ∧
      (∀ (t : XT) (li : Nat → Int32) (lj : Nat → Int64) (H : Heap) (locs : List Loc) (ls : Array Slot), wpX12_laysPath k 5 t li lj Q → lv_has ls 10 [(0, .ref (bd 0)), (1, .int (li 1)), (2, .int (li 2)), (3, .long (lj 3)), (5, .int (li 5)), (6, .int (li 6)), (7, .long (lj 7)), (9, .int (li 9))] → Hp D A s.heap (wM cI cJ cB cZ bd t) H locs → W p l e { frames := 7, cells := 0, slots := 0, locals := 160 } s m args below meth c H locs 0 0 (MQ below (va_Qi (fun r u => Q r u) (fun u t => xEnd D ((fun u : XT => (wM cI cJ cB cZ bd u)) u) A t) A) args s 0 0 A) (F0 m 103 ls [.long (lj 101), .long (lj 100)])) ∧
      (∀ (t : XT) (li : Nat → Int32) (lj : Nat → Int64) (H : Heap) (locs : List Loc) (ls : Array Slot), wpX12_laysPath k 6 t li lj Q → lv_has ls 10 [(0, .ref (bd 0)), (1, .int (li 1)), (2, .int (li 2)), (3, .long (lj 3)), (5, .int (li 5)), (6, .int (li 6)), (7, .long (lj 7)), (9, .int (li 9))] → Hp D A s.heap (wM cI cJ cB cZ bd t) H locs → W p l e { frames := 7, cells := 0, slots := 0, locals := 160 } s m args below meth c H locs 0 0 (MQ below (va_Qi (fun r u => Q r u) (fun u t => xEnd D ((fun u : XT => (wM cI cJ cB cZ bd u)) u) A t) A) args s 0 0 A) (F0 m 143 ls [])) := by
    intro k
    induction k with
    | zero => exact ⟨fun _ _ _ _ _ _ hR => False.elim hR, fun _ _ _ _ _ _ hR => False.elim hR, fun _ _ _ _ _ _ hR => False.elim hR, fun _ _ _ _ _ _ hR => False.elim hR, fun _ _ _ _ _ _ hR => False.elim hR, fun _ _ _ _ _ _ hR => False.elim hR, fun _ _ _ _ _ _ hR => False.elim hR⟩
    | succ k ih =>
      refine ⟨?_, ?_, ?_, ?_, ?_, ?_, ?_⟩
      · intro t li lj H locs ls hR hl h
        have hR : wbX12_laysPath_0 (wpX12_laysPath k) k t li lj Q := hR
        unfold wbX12_laysPath_0 at hR
        refine lv_lload_n hx hb dX12_laysPath_0 rfl (lv_at hl 3 rfl) ?_
        refine lv_aload_n hx hb dX12_laysPath_1 rfl (lv_at hl 0 rfl) ?_
        refine lv_iload_n hx hb dX12_laysPath_2 rfl (lv_at hl 1 rfl) ?_
        refine lv_iload_n hx hb dX12_laysPath_3 rfl (lv_at hl 2 rfl) ?_
        refine x_cVLF (n := 2) (As := [.int (li 1), .int (li 2)]) (rest := [.long (lj 3)]) B h (wkX12_waysFrom l D cI cJ cB cZ bd k t (li 1) (li 2) _ hR) ⟨⟨_, rfl⟩, by decide +kernel, Nat.le_of_ble_eq_true rfl, Nat.le_of_ble_eq_true rfl⟩ gX12_laysPath_X12_waysFrom (show ((wM cI cJ cB cZ bd t) : va_W)[0]? = some (_, .inr (12, _)) from rfl) rfl rfl hl.1 rfl (Nat.le_of_ble_eq_true rfl) dX12_laysPath_4 ⟨Nat.le_of_ble_eq_true rfl, Nat.le_of_ble_eq_true rfl⟩ (fun r_1 t_1 H locs hR h => ?_)
        refine W.lcmp hx hb dX12_laysPath_7 ?_
        refine lv_topi (fun v_2 ev_2 => ?_)
        have hR := hR v_2 ev_2
        refine lv_if_lt (tgt := 13) hx hb dX12_laysPath_8 (by decide) (fun c_3 => ?_) (fun c_3 => ?_)
        · have hR := hR.1 c_3
          refine lv_aload_n hx hb dX12_laysPath_13 rfl (lv_at hl 0 rfl) ?_
          refine lv_iconst (v := 0) hx hb dX12_laysPath_14 (by decide) ?_
          refine x_put (ci := 12) (C := RX12) (T := TX12) (N := 31) (v := .int 0) (ty := .int) B h hin12 tyX12 tyX12_ok nmX12 0 18 rfl rfl (by decide) (by decide +kernel) rfl rfl rfl rfl (Nat.le_of_ble_eq_true rfl) dX12_laysPath_15 (fun H locs h => ?_)
          obtain ⟨t_4, et_4⟩ : ∃ v : XT, v = sI t_1 5 0 := ⟨_, rfl⟩
          have hR := hR t_4 et_4
          have h : Hp D A s.heap (wM cI cJ cB cZ bd t_4) H locs := by rw [et_4]; exact h
          refine lv_aload_n hx hb dX12_laysPath_18 rfl (lv_at hl 0 rfl) ?_
          refine lv_iload_n hx hb dX12_laysPath_19 rfl (lv_at hl 1 rfl) ?_
          refine x_cVVF (n := 1) (As := [.int (li 1)]) (rest := []) B h (wkX12_rows l D cI cJ cB cZ bd k t_4 (li 1) _ hR) ⟨⟨_, rfl⟩, by decide +kernel, Nat.le_of_ble_eq_true rfl, Nat.le_of_ble_eq_true rfl⟩ gX12_laysPath_X12_rows (show ((wM cI cJ cB cZ bd t_4) : va_W)[0]? = some (_, .inr (12, _)) from rfl) rfl rfl hl.1 rfl (Nat.le_of_ble_eq_true rfl) dX12_laysPath_20 ⟨Nat.le_of_ble_eq_true rfl, Nat.le_of_ble_eq_true rfl⟩ (fun t_5 H locs hR h => ?_)
          refine lv_iload_n hx hb dX12_laysPath_23 rfl (lv_at hl 1 rfl) ?_
          refine lv_istore (lv' := [(5, .int (li 1)), (0, .ref (bd 0)), (1, .int (li 1)), (2, .int (li 2)), (3, .long (lj 3))]) hx hb dX12_laysPath_24 hl (by decide) rfl (fun ls hl => ?_)
          refine lv_iconst (v := (-1)) hx hb dX12_laysPath_26 (by decide) ?_
          refine lv_istore (lv' := [(6, .int (-1)), (5, .int (li 1)), (0, .ref (bd 0)), (1, .int (li 1)), (2, .int (li 2)), (3, .long (lj 3))]) hx hb dX12_laysPath_27 hl (by decide) rfl (fun ls hl => ?_)
          refine lv_lload_n hx hb dX12_laysPath_29 rfl (lv_at hl 5 rfl) ?_
          refine lv_lstore (lv' := [(7, .long (lj 3)), (6, .int (-1)), (5, .int (li 1)), (0, .ref (bd 0)), (1, .int (li 1)), (2, .int (li 2)), (3, .long (lj 3))]) hx hb dX12_laysPath_30 hl (by decide) rfl (fun ls hl => ?_)
          exact ih.2.1 t_5 (uI (uI li 5 (li 1)) 6 (-1)) (uI lj 7 (lj 3)) H locs ls hR (lv_sub hl [3, 4, 5, 6, 2, 1, 0] rfl) h
        · have hR := hR.2 c_3
          refine lv_iconst (v := 0) hx hb dX12_laysPath_11 (by decide) ?_
          exact x_iret (w1 := (fun u : XT => (wM cI cJ cB cZ bd u))) t_1 B h hr rfl hR dX12_laysPath_12
      · intro t li lj H locs ls hR hl h
        have hR : wbX12_laysPath_1 (wpX12_laysPath k) k t li lj Q := hR
        unfold wbX12_laysPath_1 at hR
        refine lv_iload hx hb dX12_laysPath_32 (lv_at hl 5 rfl) ?_
        refine lv_iload_n hx hb dX12_laysPath_34 rfl (lv_at hl 2 rfl) ?_
        refine lv_icmp_eq (tgt := 146) hx hb dX12_laysPath_35 (by decide) (fun c_6 => ?_) (fun c_6 => ?_)
        · have hR := hR.1 c_6
          refine lv_iconst (v := 1) hx hb dX12_laysPath_146 (by decide) ?_
          exact x_iret (w1 := (fun u : XT => (wM cI cJ cB cZ bd u))) t B h hr rfl hR dX12_laysPath_147
        · have hR := hR.2 c_6
          refine lv_iconst (v := 0) hx hb dX12_laysPath_38 (by decide) ?_
          refine lv_istore (lv' := [(9, .int 0), (0, .ref (bd 0)), (1, .int (li 1)), (2, .int (li 2)), (3, .long (lj 3)), (5, .int (li 5)), (6, .int (li 6)), (7, .long (lj 7))]) hx hb dX12_laysPath_39 hl (by decide) rfl (fun ls hl => ?_)
          exact ih.2.2.1 t (uI li 9 0) lj H locs ls hR (lv_sub hl [1, 2, 3, 4, 5, 6, 7, 0] rfl) h
      · intro t li lj H locs ls hR hl h
        have hR : wbX12_laysPath_2 (wpX12_laysPath k) k t li lj Q := hR
        unfold wbX12_laysPath_2 at hR
        refine lv_iload hx hb dX12_laysPath_41 (lv_at hl 7 rfl) ?_
        refine lv_iload hx hb dX12_laysPath_43 (lv_at hl 5 rfl) ?_
        refine lv_icmp_eq (tgt := 72) hx hb dX12_laysPath_45 (by decide) (fun c_7 => ?_) (fun c_7 => ?_)
        · have hR := hR.1 c_7
          exact ih.2.2.2.1 t li lj H locs ls hR (lv_sub hl [0, 1, 2, 3, 4, 5, 6, 7] rfl) h
        · have hR := hR.2 c_7
          refine lv_aload_n hx hb dX12_laysPath_48 rfl (lv_at hl 0 rfl) ?_
          refine lv_iload hx hb dX12_laysPath_49 (lv_at hl 7 rfl) ?_
          refine lv_iload hx hb dX12_laysPath_51 (lv_at hl 4 rfl) ?_
          refine x_cVIF (n := 2) (As := [.int (li 9), .int (li 5)]) (rest := []) B h (wkX12_isFaceThere l D cI cJ cB cZ bd k t (li 9) (li 5) _ hR) ⟨⟨_, rfl⟩, by decide +kernel, Nat.le_of_ble_eq_true rfl, Nat.le_of_ble_eq_true rfl⟩ gX12_laysPath_X12_isFaceThere (show ((wM cI cJ cB cZ bd t) : va_W)[0]? = some (_, .inr (12, _)) from rfl) rfl rfl hl.1 rfl (Nat.le_of_ble_eq_true rfl) dX12_laysPath_53 ⟨Nat.le_of_ble_eq_true rfl, Nat.le_of_ble_eq_true rfl⟩ (fun r_8 t_8 H locs hR h => ?_)
          refine lv_if_eq (tgt := 72) hx hb dX12_laysPath_56 (by decide) (fun c_9 => ?_) (fun c_9 => ?_)
          · have hR := hR.1 c_9
            exact ih.2.2.2.1 t_8 li lj H locs ls hR (lv_sub hl [0, 1, 2, 3, 4, 5, 6, 7] rfl) h
          · have hR := hR.2 c_9
            refine lv_aload_n hx hb dX12_laysPath_59 rfl (lv_at hl 0 rfl) ?_
            refine x_get (ci := 12) (C := RX12) (T := TX12) (N := 31) (v := .ref (bd 11)) B h hin12 0 15 rfl rfl (by decide) (by decide +kernel) rfl dX12_laysPath_60 ?_
            refine lv_iload hx hb dX12_laysPath_63 (lv_at hl 7 rfl) ?_
            obtain ⟨hb_10, hR⟩ := hR
            refine va_lald (f := (t_8.2.2.2 0)) hx hb B.2.1 h.1 11 1 rfl rfl hb_10 dX12_laysPath_65 ?_
            refine lv_topl (fun v_10 ev_10 => ?_)
            have hR := hR v_10 ev_10
            refine lv_lload hx hb dX12_laysPath_66 (lv_at hl 6 rfl) ?_
            refine W.lcmp hx hb dX12_laysPath_68 ?_
            refine lv_topi (fun v_11 ev_11 => ?_)
            have hR := hR v_11 ev_11
            refine lv_if_gt (tgt := 112) hx hb dX12_laysPath_69 (by decide) (fun c_12 => ?_) (fun c_12 => ?_)
            · have hR := hR.1 c_12
              refine lv_aload_n hx hb dX12_laysPath_112 rfl (lv_at hl 0 rfl) ?_
              refine lv_iload hx hb dX12_laysPath_113 (lv_at hl 7 rfl) ?_
              refine x_cVVF (n := 1) (As := [.int (li 9)]) (rest := []) B h (wkX12_rows l D cI cJ cB cZ bd k t_8 (li 9) _ hR) ⟨⟨_, rfl⟩, by decide +kernel, Nat.le_of_ble_eq_true rfl, Nat.le_of_ble_eq_true rfl⟩ gX12_laysPath_X12_rows (show ((wM cI cJ cB cZ bd t_8) : va_W)[0]? = some (_, .inr (12, _)) from rfl) rfl rfl hl.1 rfl (Nat.le_of_ble_eq_true rfl) dX12_laysPath_115 ⟨Nat.le_of_ble_eq_true rfl, Nat.le_of_ble_eq_true rfl⟩ (fun t_13 H locs hR h => ?_)
              refine lv_iload hx hb dX12_laysPath_118 (lv_at hl 7 rfl) ?_
              refine lv_istore (lv' := [(6, .int (li 9)), (0, .ref (bd 0)), (1, .int (li 1)), (2, .int (li 2)), (3, .long (lj 3)), (5, .int (li 5)), (7, .long (lj 7)), (9, .int (li 9))]) hx hb dX12_laysPath_120 hl (by decide) rfl (fun ls hl => ?_)
              refine lv_iload hx hb dX12_laysPath_122 (lv_at hl 7 rfl) ?_
              refine lv_iload_n hx hb dX12_laysPath_124 rfl (lv_at hl 3 rfl) ?_
              refine lv_icmp_eq (tgt := 143) hx hb dX12_laysPath_125 (by decide) (fun c_14 => ?_) (fun c_14 => ?_)
              · have hR := hR.1 c_14
                exact ih.2.2.2.2.2.2 t_13 (uI li 6 (li 9)) lj H locs ls hR (lv_sub hl [1, 2, 3, 4, 5, 0, 6, 7] rfl) h
              · have hR := hR.2 c_14
                refine lv_aload_n hx hb dX12_laysPath_128 rfl (lv_at hl 1 rfl) ?_
                refine x_get (ci := 12) (C := RX12) (T := TX12) (N := 31) (v := .ref (bd 5)) B h hin12 0 8 rfl rfl (by decide) (by decide +kernel) rfl dX12_laysPath_129 ?_
                refine lv_iload hx hb dX12_laysPath_132 (lv_at hl 7 rfl) ?_
                obtain ⟨hb_15, hR⟩ := hR
                refine va_iald (f := (t_13.2.2.1 4)) hx hb B.2.1 h.1 5 0 rfl rfl hb_15 dX12_laysPath_134 ?_
                refine lv_topi (fun v_15 ev_15 => ?_)
                have hR := hR v_15 ev_15
                refine lv_istore (lv' := [(5, .int v_15), (6, .int (li 9)), (0, .ref (bd 0)), (1, .int (li 1)), (2, .int (li 2)), (3, .long (lj 3)), (7, .long (lj 7)), (9, .int (li 9))]) hx hb dX12_laysPath_135 hl (by decide) rfl (fun ls hl => ?_)
                refine lv_aload_n hx hb dX12_laysPath_137 rfl (lv_at hl 2 rfl) ?_
                refine lv_iload hx hb dX12_laysPath_138 (lv_at hl 0 rfl) ?_
                refine x_cVVF (n := 1) (As := [.int v_15]) (rest := []) B h (wkX12_rows l D cI cJ cB cZ bd k t_13 v_15 _ hR) ⟨⟨_, rfl⟩, by decide +kernel, Nat.le_of_ble_eq_true rfl, Nat.le_of_ble_eq_true rfl⟩ gX12_laysPath_X12_rows (show ((wM cI cJ cB cZ bd t_13) : va_W)[0]? = some (_, .inr (12, _)) from rfl) rfl rfl hl.1 rfl (Nat.le_of_ble_eq_true rfl) dX12_laysPath_140 ⟨Nat.le_of_ble_eq_true rfl, Nat.le_of_ble_eq_true rfl⟩ (fun t_16 H locs hR h => ?_)
                exact ih.2.2.2.2.2.2 t_16 (uI (uI li 5 v_15) 6 (li 9)) lj H locs ls hR (lv_sub hl [2, 3, 4, 5, 0, 1, 6, 7] rfl) h
            · have hR := hR.2 c_12
              exact ih.2.2.2.1 t_8 li lj H locs ls hR (lv_sub hl [0, 1, 2, 3, 4, 5, 6, 7] rfl) h
      · intro t li lj H locs ls hR hl h
        have hR : wbX12_laysPath_3 (wpX12_laysPath k) k t li lj Q := hR
        unfold wbX12_laysPath_3 at hR
        refine lv_lload hx hb dX12_laysPath_72 (lv_at hl 6 rfl) ?_
        refine lv_iload hx hb dX12_laysPath_74 (lv_at hl 7 rfl) ?_
        refine lv_iload hx hb dX12_laysPath_76 (lv_at hl 5 rfl) ?_
        refine lv_icmp_eq (tgt := 102) hx hb dX12_laysPath_78 (by decide) (fun c_17 => ?_) (fun c_17 => ?_)
        · have hR := hR.1 c_17
          exact ih.2.2.2.2.1 t li (uI lj 100 (lj 7)) H locs ls hR (lv_sub hl [0, 1, 2, 3, 4, 5, 6, 7] rfl) h
        · have hR := hR.2 c_17
          refine lv_aload_n hx hb dX12_laysPath_81 rfl (lv_at hl 0 rfl) ?_
          refine lv_iload hx hb dX12_laysPath_82 (lv_at hl 7 rfl) ?_
          refine lv_iload hx hb dX12_laysPath_84 (lv_at hl 4 rfl) ?_
          refine x_cVIF (n := 2) (As := [.int (li 9), .int (li 5)]) (rest := [.long (lj 7)]) B h (wkX12_isFaceThere l D cI cJ cB cZ bd k t (li 9) (li 5) _ hR) ⟨⟨_, rfl⟩, by decide +kernel, Nat.le_of_ble_eq_true rfl, Nat.le_of_ble_eq_true rfl⟩ gX12_laysPath_X12_isFaceThere (show ((wM cI cJ cB cZ bd t) : va_W)[0]? = some (_, .inr (12, _)) from rfl) rfl rfl hl.1 rfl (Nat.le_of_ble_eq_true rfl) dX12_laysPath_86 ⟨Nat.le_of_ble_eq_true rfl, Nat.le_of_ble_eq_true rfl⟩ (fun r_18 t_18 H locs hR h => ?_)
          refine lv_if_eq (tgt := 102) hx hb dX12_laysPath_89 (by decide) (fun c_19 => ?_) (fun c_19 => ?_)
          · have hR := hR.1 c_19
            exact ih.2.2.2.2.1 t_18 li (uI lj 100 (lj 7)) H locs ls hR (lv_sub hl [0, 1, 2, 3, 4, 5, 6, 7] rfl) h
          · have hR := hR.2 c_19
            refine lv_aload_n hx hb dX12_laysPath_92 rfl (lv_at hl 0 rfl) ?_
            refine x_get (ci := 12) (C := RX12) (T := TX12) (N := 31) (v := .ref (bd 11)) B h hin12 0 15 rfl rfl (by decide) (by decide +kernel) rfl dX12_laysPath_93 ?_
            refine lv_iload hx hb dX12_laysPath_96 (lv_at hl 7 rfl) ?_
            obtain ⟨hb_20, hR⟩ := hR
            refine va_lald (f := (t_18.2.2.2 0)) hx hb B.2.1 h.1 11 1 rfl rfl hb_20 dX12_laysPath_98 ?_
            refine lv_topl (fun v_20 ev_20 => ?_)
            have hR := hR v_20 ev_20
            refine lv_goto (tgt := 103) hx hb dX12_laysPath_99 (by decide) ?_
            exact ih.2.2.2.2.2.1 t_18 li (uI (uI lj 101 v_20) 100 (lj 7)) H locs ls hR (lv_sub hl [0, 1, 2, 3, 4, 5, 6, 7] rfl) h
      · intro t li lj H locs ls hR hl h
        have hR : wbX12_laysPath_4 (wpX12_laysPath k) k t li lj Q := hR
        unfold wbX12_laysPath_4 at hR
        refine lv_lconst (v := 0) hx hb dX12_laysPath_102 (by decide) ?_
        exact ih.2.2.2.2.2.1 t li (uI (uI lj 101 0) 100 (lj 100)) H locs ls hR (lv_sub hl [0, 1, 2, 3, 4, 5, 6, 7] rfl) h
      · intro t li lj H locs ls hR hl h
        have hR : wbX12_laysPath_5 (wpX12_laysPath k) k t li lj Q := hR
        unfold wbX12_laysPath_5 at hR
        refine lv_lsub hx hb dX12_laysPath_103 ?_
        refine lv_topl (fun v_21 ev_21 => ?_)
        have hR := hR v_21 ev_21
        refine lv_lstore (lv' := [(7, .long v_21), (0, .ref (bd 0)), (1, .int (li 1)), (2, .int (li 2)), (3, .long (lj 3)), (5, .int (li 5)), (6, .int (li 6)), (9, .int (li 9))]) hx hb dX12_laysPath_104 hl (by decide) rfl (fun ls hl => ?_)
        obtain ⟨v_22, ev_22⟩ : ∃ v : Int32, v = (li 9) + Int32.ofInt 1 := ⟨_, rfl⟩
        have hR := hR v_22 ev_22
        refine lv_iinc (v := v_22) (lv' := [(9, .int v_22), (7, .long v_21), (0, .ref (bd 0)), (1, .int (li 1)), (2, .int (li 2)), (3, .long (lj 3)), (5, .int (li 5)), (6, .int (li 6))]) hx hb dX12_laysPath_106 hl (k := 7) rfl ev_22.symm (by decide) rfl (fun ls hl => ?_)
        refine lv_goto (tgt := 41) hx hb dX12_laysPath_109 (by decide) ?_
        exact ih.2.2.1 t (uI li 9 v_22) (uI lj 7 v_21) H locs ls hR (lv_sub hl [2, 3, 4, 5, 6, 7, 1, 0] rfl) h
      · intro t li lj H locs ls hR hl h
        have hR : wbX12_laysPath_6 (wpX12_laysPath k) k t li lj Q := hR
        unfold wbX12_laysPath_6 at hR
        refine lv_goto (tgt := 32) hx hb dX12_laysPath_143 (by decide) ?_
        exact ih.2.1 t li lj H locs ls hR (lv_sub hl [0, 1, 2, 3, 4, 5, 6] rfl) h
  exact (main k).1 t _ _ s.heap [] ls hR hl h
def wbX12_cancel_0 (rec : Nat → XT → (Nat → Int32) → (Nat → Int64) → (Int32 → XT → Prop) → Prop) (k : Nat) (t : XT) (li : Nat → Int32) (lj : Nat → Int64) (Q : Int32 → XT → Prop) : Prop :=
  (wqX12_areEnds k t (li 1) (li 2) (fun r_1 t_1 => ((¬ r_1 = 0) → (wqX12_waysFrom k t_1 (li 1) (li 2) (fun r_3 t_3 => (∀ v_4 : Int32, v_4 = (lg_cmp r_3 1) → ((v_4 = 0) → (wqX12_laysPath k t_3 (li 1) (li 2) 0 (fun r_6 t_6 => (wqX12_remembers k t_6  (fun t_7 => rec 1 t_7 (uI li 3 0) lj Q))))) ∧ (¬ (v_4 = 0) → Q (-2) t_3))))) ∧ ((r_1 = 0) → Q (-1) t_1)))
def wbX12_cancel_1 (rec : Nat → XT → (Nat → Int32) → (Nat → Int64) → (Int32 → XT → Prop) → Prop) (k : Nat) (t : XT) (li : Nat → Int32) (lj : Nat → Int64) (Q : Int32 → XT → Prop) : Prop :=
  ((((t.1 5) : Int32) ≤ (li 3)) → rec 2 t (uI li 3 0) lj Q) ∧ (¬ (((t.1 5) : Int32) ≤ (li 3)) → (vp_in (li 3) 122 ∧ (∀ v_9 : Int32, v_9 = (t.2.2.1 10) (li 3).toNatClampNeg → (vp_in v_9 60 ∧ (∀ t_10 : XT, t_10 = sA t 4 (upd (t.2.2.1 4) v_9.toNatClampNeg (-1)) → (∀ v_11 : Int32, v_11 = (li 3) + Int32.ofInt 1 → rec 1 t_10 (uI li 3 v_11) lj Q))))))
def wbX12_cancel_2 (rec : Nat → XT → (Nat → Int32) → (Nat → Int64) → (Int32 → XT → Prop) → Prop) (k : Nat) (t : XT) (li : Nat → Int32) (lj : Nat → Int64) (Q : Int32 → XT → Prop) : Prop :=
  (∀ v_12 : Int32, v_12 = ((li 3) + 1) → ((((t.1 5) : Int32) ≤ v_12) → (wqX12_criticalMany k t  (fun r_14 t_14 => Q r_14 t_14))) ∧ (¬ (((t.1 5) : Int32) ≤ v_12) → (vp_in (li 3) 122 ∧ (∀ v_15 : Int32, v_15 = (t.2.2.1 10) (li 3).toNatClampNeg → (∀ v_16 : Int32, v_16 = ((li 3) + 1) → (vp_in v_16 122 ∧ (∀ v_17 : Int32, v_17 = (t.2.2.1 10) v_16.toNatClampNeg → (vp_in v_15 60 ∧ (∀ t_18 : XT, t_18 = sA t 4 (upd (t.2.2.1 4) v_15.toNatClampNeg v_17) → (∀ v_19 : Int32, v_19 = ((li 3) + 1) → (vp_in v_19 122 ∧ (∀ v_20 : Int32, v_20 = (t_18.2.2.1 10) v_19.toNatClampNeg → (vp_in (li 3) 122 ∧ (∀ v_21 : Int32, v_21 = (t_18.2.2.1 10) (li 3).toNatClampNeg → (vp_in v_20 60 ∧ (∀ t_22 : XT, t_22 = sA t_18 4 (upd (t_18.2.2.1 4) v_20.toNatClampNeg v_21) → (∀ v_23 : Int32, v_23 = (li 3) + Int32.ofInt 2 → rec 2 t_22 (uI li 3 v_23) lj Q)))))))))))))))))
def wpX12_cancel : Nat → Nat → XT → (Nat → Int32) → (Nat → Int64) → (Int32 → XT → Prop) → Prop
  | 0, _, _, _, _, _ => False
  | k + 1, 0, t, li, lj, Q => wbX12_cancel_0 (wpX12_cancel k) k t li lj Q
  | k + 1, 1, t, li, lj, Q => wbX12_cancel_1 (wpX12_cancel k) k t li lj Q
  | k + 1, 2, t, li, lj, Q => wbX12_cancel_2 (wpX12_cancel k) k t li lj Q
  | _ + 1, _, _, _, _, _ => False
def wqX12_cancel (k : Nat) (t : XT) (a1 : Int32) (a2 : Int32) (Q : Int32 → XT → Prop) : Prop := wpX12_cancel k 0 t (uI (uI (fun _ => 0) 1 a1) 2 a2) (fun _ => 0) Q
set_option maxHeartbeats 8000000 in
set_option maxRecDepth 100000 in
theorem wkX12_cancel (l : Launch) (D : va_G) (cI cJ cB cZ : ClassId) (bd : Nat → Nat) (k : Nat) (t : XT) (a1 : Int32) (a2 : Int32) (Q : Int32 → XT → Prop) (hR : wqX12_cancel k t a1 a2 Q) : MetI l yX12_cancel wsX12_cancel 8 189 0 0 D (TYS cI cJ cB cZ) (wM cI cJ cB cZ bd t) [.ref (bd 0), .int a1, .int a2] (fun r u => Q r u) (fun u : XT => (wM cI cJ cB cZ bd u)) := by
  refine x_startI (ty := .int) (cc := cX12_cancel) (by decide) rfl (Nat.le_of_ble_eq_true rfl) ?_
  intro p e s m args below meth c A ls B hr hnm h hl
  have hx := B.1.1
  have hb := B.1.2.1
  have hml := B.1.2.2.1
  have hts := B.1.2.2.2.2
  have hown : s.vm.findClass RX12 = some m.cls := B.1.2.2.2.1
  have hin12 : ∀ w ∈ u_ws RX12 TX12 31, w ∈ wsX12_cancel := by decide +kernel
  have main : ∀ k : Nat, (∀ (t : XT) (li : Nat → Int32) (lj : Nat → Int64) (H : Heap) (locs : List Loc) (ls : Array Slot), wpX12_cancel k 0 t li lj Q → lv_has ls 4 [(0, .ref (bd 0)), (1, .int (li 1)), (2, .int (li 2))] → Hp D A s.heap (wM cI cJ cB cZ bd t) H locs → W p l e { frames := 8, cells := 0, slots := 0, locals := 189 } s m args below meth c H locs 0 0 (MQ below (va_Qi (fun r u => Q r u) (fun u t => xEnd D ((fun u : XT => (wM cI cJ cB cZ bd u)) u) A t) A) args s 0 0 A) (F0 m 0 ls [])) ∧
      (∀ (t : XT) (li : Nat → Int32) (lj : Nat → Int64) (H : Heap) (locs : List Loc) (ls : Array Slot), wpX12_cancel k 1 t li lj Q → lv_has ls 4 [(0, .ref (bd 0)), (1, .int (li 1)), (2, .int (li 2)), (3, .int (li 3))] → Hp D A s.heap (wM cI cJ cB cZ bd t) H locs → W p l e { frames := 8, cells := 0, slots := 0, locals := 189 } s m args below meth c H locs 0 0 (MQ below (va_Qi (fun r u => Q r u) (fun u t => xEnd D ((fun u : XT => (wM cI cJ cB cZ bd u)) u) A t) A) args s 0 0 A) (F0 m 39 ls [])) ∧
      (∀ (t : XT) (li : Nat → Int32) (lj : Nat → Int64) (H : Heap) (locs : List Loc) (ls : Array Slot), wpX12_cancel k 2 t li lj Q → lv_has ls 4 [(0, .ref (bd 0)), (1, .int (li 1)), (2, .int (li 2)), (3, .int (li 3))] → Hp D A s.heap (wM cI cJ cB cZ bd t) H locs → W p l e { frames := 8, cells := 0, slots := 0, locals := 189 } s m args below meth c H locs 0 0 (MQ below (va_Qi (fun r u => Q r u) (fun u t => xEnd D ((fun u : XT => (wM cI cJ cB cZ bd u)) u) A t) A) args s 0 0 A) (F0 m 67 ls [])) := by
    intro k
    induction k with
    | zero => exact ⟨fun _ _ _ _ _ _ hR => False.elim hR, fun _ _ _ _ _ _ hR => False.elim hR, fun _ _ _ _ _ _ hR => False.elim hR⟩
    | succ k ih =>
      refine ⟨?_, ?_, ?_⟩
      · intro t li lj H locs ls hR hl h
        have hR : wbX12_cancel_0 (wpX12_cancel k) k t li lj Q := hR
        unfold wbX12_cancel_0 at hR
        refine lv_aload_n hx hb dX12_cancel_0 rfl (lv_at hl 0 rfl) ?_
        refine lv_iload_n hx hb dX12_cancel_1 rfl (lv_at hl 1 rfl) ?_
        refine lv_iload_n hx hb dX12_cancel_2 rfl (lv_at hl 2 rfl) ?_
        refine x_cVIF (n := 2) (As := [.int (li 1), .int (li 2)]) (rest := []) B h (wkX12_areEnds l D cI cJ cB cZ bd k t (li 1) (li 2) _ hR) ⟨⟨_, rfl⟩, by decide +kernel, Nat.le_of_ble_eq_true rfl, Nat.le_of_ble_eq_true rfl⟩ gX12_cancel_X12_areEnds (show ((wM cI cJ cB cZ bd t) : va_W)[0]? = some (_, .inr (12, _)) from rfl) rfl rfl hl.1 rfl (Nat.le_of_ble_eq_true rfl) dX12_cancel_3 ⟨Nat.le_of_ble_eq_true rfl, Nat.le_of_ble_eq_true rfl⟩ (fun r_1 t_1 H locs hR h => ?_)
        refine lv_if_ne (tgt := 11) hx hb dX12_cancel_6 (by decide) (fun c_2 => ?_) (fun c_2 => ?_)
        · have hR := hR.1 c_2
          refine lv_aload_n hx hb dX12_cancel_11 rfl (lv_at hl 0 rfl) ?_
          refine lv_iload_n hx hb dX12_cancel_12 rfl (lv_at hl 1 rfl) ?_
          refine lv_iload_n hx hb dX12_cancel_13 rfl (lv_at hl 2 rfl) ?_
          refine x_cVLF (n := 2) (As := [.int (li 1), .int (li 2)]) (rest := []) B h (wkX12_waysFrom l D cI cJ cB cZ bd k t_1 (li 1) (li 2) _ hR) ⟨⟨_, rfl⟩, by decide +kernel, Nat.le_of_ble_eq_true rfl, Nat.le_of_ble_eq_true rfl⟩ gX12_cancel_X12_waysFrom (show ((wM cI cJ cB cZ bd t_1) : va_W)[0]? = some (_, .inr (12, _)) from rfl) rfl rfl hl.1 rfl (Nat.le_of_ble_eq_true rfl) dX12_cancel_14 ⟨Nat.le_of_ble_eq_true rfl, Nat.le_of_ble_eq_true rfl⟩ (fun r_3 t_3 H locs hR h => ?_)
          refine lv_lconst (v := 1) hx hb dX12_cancel_17 (by decide) ?_
          refine W.lcmp hx hb dX12_cancel_18 ?_
          refine lv_topi (fun v_4 ev_4 => ?_)
          have hR := hR v_4 ev_4
          refine lv_if_eq (tgt := 25) hx hb dX12_cancel_19 (by decide) (fun c_5 => ?_) (fun c_5 => ?_)
          · have hR := hR.1 c_5
            refine lv_aload_n hx hb dX12_cancel_25 rfl (lv_at hl 0 rfl) ?_
            refine lv_iload_n hx hb dX12_cancel_26 rfl (lv_at hl 1 rfl) ?_
            refine lv_iload_n hx hb dX12_cancel_27 rfl (lv_at hl 2 rfl) ?_
            refine lv_lconst (v := 0) hx hb dX12_cancel_28 (by decide) ?_
            refine x_cVIF (n := 3) (As := [.int (li 1), .int (li 2), .long 0]) (rest := []) B h (wkX12_laysPath l D cI cJ cB cZ bd k t_3 (li 1) (li 2) 0 _ hR) ⟨⟨_, rfl⟩, by decide +kernel, Nat.le_of_ble_eq_true rfl, Nat.le_of_ble_eq_true rfl⟩ gX12_cancel_X12_laysPath (show ((wM cI cJ cB cZ bd t_3) : va_W)[0]? = some (_, .inr (12, _)) from rfl) rfl rfl hl.1 rfl (Nat.le_of_ble_eq_true rfl) dX12_cancel_29 ⟨Nat.le_of_ble_eq_true rfl, Nat.le_of_ble_eq_true rfl⟩ (fun r_6 t_6 H locs hR h => ?_)
            refine lv_pop hx hb dX12_cancel_32 rfl ?_
            refine lv_aload_n hx hb dX12_cancel_33 rfl (lv_at hl 0 rfl) ?_
            refine x_cVVF (n := 0) (As := []) (rest := []) B h (wkX12_remembers l D cI cJ cB cZ bd k t_6  _ hR) ⟨⟨_, rfl⟩, by decide +kernel, Nat.le_of_ble_eq_true rfl, Nat.le_of_ble_eq_true rfl⟩ gX12_cancel_X12_remembers (show ((wM cI cJ cB cZ bd t_6) : va_W)[0]? = some (_, .inr (12, _)) from rfl) rfl rfl hl.1 rfl (Nat.le_of_ble_eq_true rfl) dX12_cancel_34 ⟨Nat.le_of_ble_eq_true rfl, Nat.le_of_ble_eq_true rfl⟩ (fun t_7 H locs hR h => ?_)
            refine lv_iconst (v := 0) hx hb dX12_cancel_37 (by decide) ?_
            refine lv_istore_n (lv' := [(3, .int 0), (0, .ref (bd 0)), (1, .int (li 1)), (2, .int (li 2))]) hx hb dX12_cancel_38 rfl hl (by decide) rfl (fun ls hl => ?_)
            exact ih.2.1 t_7 (uI li 3 0) lj H locs ls hR (lv_sub hl [1, 2, 3, 0] rfl) h
          · have hR := hR.2 c_5
            refine lv_bipush (v := (-2)) hx hb dX12_cancel_22 (by decide) ?_
            exact x_iret (w1 := (fun u : XT => (wM cI cJ cB cZ bd u))) t_3 B h hr rfl hR dX12_cancel_24
        · have hR := hR.2 c_2
          refine lv_iconst (v := (-1)) hx hb dX12_cancel_9 (by decide) ?_
          exact x_iret (w1 := (fun u : XT => (wM cI cJ cB cZ bd u))) t_1 B h hr rfl hR dX12_cancel_10
      · intro t li lj H locs ls hR hl h
        have hR : wbX12_cancel_1 (wpX12_cancel k) k t li lj Q := hR
        unfold wbX12_cancel_1 at hR
        refine lv_iload_n hx hb dX12_cancel_39 rfl (lv_at hl 3 rfl) ?_
        refine lv_aload_n hx hb dX12_cancel_40 rfl (lv_at hl 0 rfl) ?_
        refine x_get (ci := 12) (C := RX12) (T := TX12) (N := 31) (v := .int (t.1 5)) B h hin12 0 18 rfl rfl (by decide) (by decide +kernel) rfl dX12_cancel_41 ?_
        refine lv_icmp_ge (tgt := 65) hx hb dX12_cancel_44 (by decide) (fun c_8 => ?_) (fun c_8 => ?_)
        · have hR := hR.1 c_8
          refine lv_iconst (v := 0) hx hb dX12_cancel_65 (by decide) ?_
          refine lv_istore_n (lv' := [(3, .int 0), (0, .ref (bd 0)), (1, .int (li 1)), (2, .int (li 2))]) hx hb dX12_cancel_66 rfl hl (by decide) rfl (fun ls hl => ?_)
          exact ih.2.2 t (uI li 3 0) lj H locs ls hR (lv_sub hl [1, 2, 3, 0] rfl) h
        · have hR := hR.2 c_8
          refine lv_aload_n hx hb dX12_cancel_47 rfl (lv_at hl 0 rfl) ?_
          refine x_get (ci := 12) (C := RX12) (T := TX12) (N := 31) (v := .ref (bd 5)) B h hin12 0 8 rfl rfl (by decide) (by decide +kernel) rfl dX12_cancel_48 ?_
          refine lv_aload_n hx hb dX12_cancel_51 rfl (lv_at hl 0 rfl) ?_
          refine x_get (ci := 12) (C := RX12) (T := TX12) (N := 31) (v := .ref (bd 13)) B h hin12 0 17 rfl rfl (by decide) (by decide +kernel) rfl dX12_cancel_52 ?_
          refine lv_iload_n hx hb dX12_cancel_55 rfl (lv_at hl 3 rfl) ?_
          obtain ⟨hb_9, hR⟩ := hR
          refine va_iald (f := (t.2.2.1 10)) hx hb B.2.1 h.1 13 0 rfl rfl hb_9 dX12_cancel_56 ?_
          refine lv_topi (fun v_9 ev_9 => ?_)
          have hR := hR v_9 ev_9
          refine lv_iconst (v := (-1)) hx hb dX12_cancel_57 (by decide) ?_
          obtain ⟨hb_10, hR⟩ := hR
          refine z_iast (f := (t.2.2.1 4)) B h 5 0 rfl rfl hb_10 dX12_cancel_58 (fun H locs h => ?_)
          obtain ⟨t_10, et_10⟩ : ∃ v : XT, v = sA t 4 (upd (t.2.2.1 4) v_9.toNatClampNeg (-1)) := ⟨_, rfl⟩
          have hR := hR t_10 et_10
          have h : Hp D A s.heap (wM cI cJ cB cZ bd t_10) H locs := by rw [et_10]; exact h
          obtain ⟨v_11, ev_11⟩ : ∃ v : Int32, v = (li 3) + Int32.ofInt 1 := ⟨_, rfl⟩
          have hR := hR v_11 ev_11
          refine lv_iinc (v := v_11) (lv' := [(3, .int v_11), (0, .ref (bd 0)), (1, .int (li 1)), (2, .int (li 2))]) hx hb dX12_cancel_59 hl (k := 3) rfl ev_11.symm (by decide) rfl (fun ls hl => ?_)
          refine lv_goto (tgt := 39) hx hb dX12_cancel_62 (by decide) ?_
          exact ih.2.1 t_10 (uI li 3 v_11) lj H locs ls hR (lv_sub hl [1, 2, 3, 0] rfl) h
      · intro t li lj H locs ls hR hl h
        have hR : wbX12_cancel_2 (wpX12_cancel k) k t li lj Q := hR
        unfold wbX12_cancel_2 at hR
        refine lv_iload_n hx hb dX12_cancel_67 rfl (lv_at hl 3 rfl) ?_
        refine lv_iconst (v := 1) hx hb dX12_cancel_68 (by decide) ?_
        refine lv_iadd hx hb dX12_cancel_69 ?_
        refine lv_topi (fun v_12 ev_12 => ?_)
        have hR := hR v_12 ev_12
        refine lv_aload_n hx hb dX12_cancel_70 rfl (lv_at hl 0 rfl) ?_
        refine x_get (ci := 12) (C := RX12) (T := TX12) (N := 31) (v := .int (t.1 5)) B h hin12 0 18 rfl rfl (by decide) (by decide +kernel) rfl dX12_cancel_71 ?_
        refine lv_icmp_ge (tgt := 121) hx hb dX12_cancel_74 (by decide) (fun c_13 => ?_) (fun c_13 => ?_)
        · have hR := hR.1 c_13
          refine lv_aload_n hx hb dX12_cancel_121 rfl (lv_at hl 0 rfl) ?_
          refine x_cVIF (n := 0) (As := []) (rest := []) B h (wkX12_criticalMany l D cI cJ cB cZ bd k t  _ hR) ⟨⟨_, rfl⟩, by decide +kernel, Nat.le_of_ble_eq_true rfl, Nat.le_of_ble_eq_true rfl⟩ gX12_cancel_X12_criticalMany (show ((wM cI cJ cB cZ bd t) : va_W)[0]? = some (_, .inr (12, _)) from rfl) rfl rfl hl.1 rfl (Nat.le_of_ble_eq_true rfl) dX12_cancel_122 ⟨Nat.le_of_ble_eq_true rfl, Nat.le_of_ble_eq_true rfl⟩ (fun r_14 t_14 H locs hR h => ?_)
          exact x_iret (w1 := (fun u : XT => (wM cI cJ cB cZ bd u))) t_14 B h hr rfl hR dX12_cancel_125
        · have hR := hR.2 c_13
          refine lv_aload_n hx hb dX12_cancel_77 rfl (lv_at hl 0 rfl) ?_
          refine x_get (ci := 12) (C := RX12) (T := TX12) (N := 31) (v := .ref (bd 5)) B h hin12 0 8 rfl rfl (by decide) (by decide +kernel) rfl dX12_cancel_78 ?_
          refine lv_aload_n hx hb dX12_cancel_81 rfl (lv_at hl 0 rfl) ?_
          refine x_get (ci := 12) (C := RX12) (T := TX12) (N := 31) (v := .ref (bd 13)) B h hin12 0 17 rfl rfl (by decide) (by decide +kernel) rfl dX12_cancel_82 ?_
          refine lv_iload_n hx hb dX12_cancel_85 rfl (lv_at hl 3 rfl) ?_
          obtain ⟨hb_15, hR⟩ := hR
          refine va_iald (f := (t.2.2.1 10)) hx hb B.2.1 h.1 13 0 rfl rfl hb_15 dX12_cancel_86 ?_
          refine lv_topi (fun v_15 ev_15 => ?_)
          have hR := hR v_15 ev_15
          refine lv_aload_n hx hb dX12_cancel_87 rfl (lv_at hl 0 rfl) ?_
          refine x_get (ci := 12) (C := RX12) (T := TX12) (N := 31) (v := .ref (bd 13)) B h hin12 0 17 rfl rfl (by decide) (by decide +kernel) rfl dX12_cancel_88 ?_
          refine lv_iload_n hx hb dX12_cancel_91 rfl (lv_at hl 3 rfl) ?_
          refine lv_iconst (v := 1) hx hb dX12_cancel_92 (by decide) ?_
          refine lv_iadd hx hb dX12_cancel_93 ?_
          refine lv_topi (fun v_16 ev_16 => ?_)
          have hR := hR v_16 ev_16
          obtain ⟨hb_17, hR⟩ := hR
          refine va_iald (f := (t.2.2.1 10)) hx hb B.2.1 h.1 13 0 rfl rfl hb_17 dX12_cancel_94 ?_
          refine lv_topi (fun v_17 ev_17 => ?_)
          have hR := hR v_17 ev_17
          obtain ⟨hb_18, hR⟩ := hR
          refine z_iast (f := (t.2.2.1 4)) B h 5 0 rfl rfl hb_18 dX12_cancel_95 (fun H locs h => ?_)
          obtain ⟨t_18, et_18⟩ : ∃ v : XT, v = sA t 4 (upd (t.2.2.1 4) v_15.toNatClampNeg v_17) := ⟨_, rfl⟩
          have hR := hR t_18 et_18
          have h : Hp D A s.heap (wM cI cJ cB cZ bd t_18) H locs := by rw [et_18]; exact h
          refine lv_aload_n hx hb dX12_cancel_96 rfl (lv_at hl 0 rfl) ?_
          refine x_get (ci := 12) (C := RX12) (T := TX12) (N := 31) (v := .ref (bd 5)) B h hin12 0 8 rfl rfl (by decide) (by decide +kernel) rfl dX12_cancel_97 ?_
          refine lv_aload_n hx hb dX12_cancel_100 rfl (lv_at hl 0 rfl) ?_
          refine x_get (ci := 12) (C := RX12) (T := TX12) (N := 31) (v := .ref (bd 13)) B h hin12 0 17 rfl rfl (by decide) (by decide +kernel) rfl dX12_cancel_101 ?_
          refine lv_iload_n hx hb dX12_cancel_104 rfl (lv_at hl 3 rfl) ?_
          refine lv_iconst (v := 1) hx hb dX12_cancel_105 (by decide) ?_
          refine lv_iadd hx hb dX12_cancel_106 ?_
          refine lv_topi (fun v_19 ev_19 => ?_)
          have hR := hR v_19 ev_19
          obtain ⟨hb_20, hR⟩ := hR
          refine va_iald (f := (t_18.2.2.1 10)) hx hb B.2.1 h.1 13 0 rfl rfl hb_20 dX12_cancel_107 ?_
          refine lv_topi (fun v_20 ev_20 => ?_)
          have hR := hR v_20 ev_20
          refine lv_aload_n hx hb dX12_cancel_108 rfl (lv_at hl 0 rfl) ?_
          refine x_get (ci := 12) (C := RX12) (T := TX12) (N := 31) (v := .ref (bd 13)) B h hin12 0 17 rfl rfl (by decide) (by decide +kernel) rfl dX12_cancel_109 ?_
          refine lv_iload_n hx hb dX12_cancel_112 rfl (lv_at hl 3 rfl) ?_
          obtain ⟨hb_21, hR⟩ := hR
          refine va_iald (f := (t_18.2.2.1 10)) hx hb B.2.1 h.1 13 0 rfl rfl hb_21 dX12_cancel_113 ?_
          refine lv_topi (fun v_21 ev_21 => ?_)
          have hR := hR v_21 ev_21
          obtain ⟨hb_22, hR⟩ := hR
          refine z_iast (f := (t_18.2.2.1 4)) B h 5 0 rfl rfl hb_22 dX12_cancel_114 (fun H locs h => ?_)
          obtain ⟨t_22, et_22⟩ : ∃ v : XT, v = sA t_18 4 (upd (t_18.2.2.1 4) v_20.toNatClampNeg v_21) := ⟨_, rfl⟩
          have hR := hR t_22 et_22
          have h : Hp D A s.heap (wM cI cJ cB cZ bd t_22) H locs := by rw [et_22]; exact h
          obtain ⟨v_23, ev_23⟩ : ∃ v : Int32, v = (li 3) + Int32.ofInt 2 := ⟨_, rfl⟩
          have hR := hR v_23 ev_23
          refine lv_iinc (v := v_23) (lv' := [(3, .int v_23), (0, .ref (bd 0)), (1, .int (li 1)), (2, .int (li 2))]) hx hb dX12_cancel_115 hl (k := 3) rfl ev_23.symm (by decide) rfl (fun ls hl => ?_)
          refine lv_goto (tgt := 67) hx hb dX12_cancel_118 (by decide) ?_
          exact ih.2.2 t_22 (uI li 3 v_23) lj H locs ls hR (lv_sub hl [1, 2, 3, 0] rfl) h
  exact (main k).1 t _ _ s.heap [] ls hR hl h
def wbX12_overOf_0 (rec : Nat → XT → (Nat → Int32) → (Nat → Int64) → (Int32 → XT → Prop) → Prop) (k : Nat) (t : XT) (li : Nat → Int32) (lj : Nat → Int64) (Q : Int32 → XT → Prop) : Prop :=
  rec 1 t (uI li 2 0) lj Q
def wbX12_overOf_1 (rec : Nat → XT → (Nat → Int32) → (Nat → Int64) → (Int32 → XT → Prop) → Prop) (k : Nat) (t : XT) (li : Nat → Int32) (lj : Nat → Int64) (Q : Int32 → XT → Prop) : Prop :=
  (wqX12_isFaceThere k t (li 1) (li 2) (fun r_1 t_1 => ((¬ r_1 = 0) → Q (li 2) t_1) ∧ ((r_1 = 0) → (∀ v_3 : Int32, v_3 = (li 2) + Int32.ofInt 1 → rec 1 t_1 (uI li 2 v_3) lj Q))))
def wpX12_overOf : Nat → Nat → XT → (Nat → Int32) → (Nat → Int64) → (Int32 → XT → Prop) → Prop
  | 0, _, _, _, _, _ => False
  | k + 1, 0, t, li, lj, Q => wbX12_overOf_0 (wpX12_overOf k) k t li lj Q
  | k + 1, 1, t, li, lj, Q => wbX12_overOf_1 (wpX12_overOf k) k t li lj Q
  | _ + 1, _, _, _, _, _ => False
def wqX12_overOf (k : Nat) (t : XT) (a1 : Int32) (Q : Int32 → XT → Prop) : Prop := wpX12_overOf k 0 t (uI (fun _ => 0) 1 a1) (fun _ => 0) Q
set_option maxHeartbeats 8000000 in
set_option maxRecDepth 100000 in
theorem wkX12_overOf (l : Launch) (D : va_G) (cI cJ cB cZ : ClassId) (bd : Nat → Nat) (k : Nat) (t : XT) (a1 : Int32) (Q : Int32 → XT → Prop) (hR : wqX12_overOf k t a1 Q) : MetI l yX12_overOf wsX12_overOf 4 85 0 0 D (TYS cI cJ cB cZ) (wM cI cJ cB cZ bd t) [.ref (bd 0), .int a1] (fun r u => Q r u) (fun u : XT => (wM cI cJ cB cZ bd u)) := by
  refine x_startI (ty := .int) (cc := cX12_overOf) (by decide) rfl (Nat.le_of_ble_eq_true rfl) ?_
  intro p e s m args below meth c A ls B hr hnm h hl
  have hx := B.1.1
  have hb := B.1.2.1
  have hml := B.1.2.2.1
  have hts := B.1.2.2.2.2
  have hown : s.vm.findClass RX12 = some m.cls := B.1.2.2.2.1
  have main : ∀ k : Nat, (∀ (t : XT) (li : Nat → Int32) (lj : Nat → Int64) (H : Heap) (locs : List Loc) (ls : Array Slot), wpX12_overOf k 0 t li lj Q → lv_has ls 3 [(0, .ref (bd 0)), (1, .int (li 1))] → Hp D A s.heap (wM cI cJ cB cZ bd t) H locs → W p l e { frames := 4, cells := 0, slots := 0, locals := 85 } s m args below meth c H locs 0 0 (MQ below (va_Qi (fun r u => Q r u) (fun u t => xEnd D ((fun u : XT => (wM cI cJ cB cZ bd u)) u) A t) A) args s 0 0 A) (F0 m 0 ls [])) ∧
      (∀ (t : XT) (li : Nat → Int32) (lj : Nat → Int64) (H : Heap) (locs : List Loc) (ls : Array Slot), wpX12_overOf k 1 t li lj Q → lv_has ls 3 [(0, .ref (bd 0)), (1, .int (li 1)), (2, .int (li 2))] → Hp D A s.heap (wM cI cJ cB cZ bd t) H locs → W p l e { frames := 4, cells := 0, slots := 0, locals := 85 } s m args below meth c H locs 0 0 (MQ below (va_Qi (fun r u => Q r u) (fun u t => xEnd D ((fun u : XT => (wM cI cJ cB cZ bd u)) u) A t) A) args s 0 0 A) (F0 m 2 ls [])) := by
    intro k
    induction k with
    | zero => exact ⟨fun _ _ _ _ _ _ hR => False.elim hR, fun _ _ _ _ _ _ hR => False.elim hR⟩
    | succ k ih =>
      refine ⟨?_, ?_⟩
      · intro t li lj H locs ls hR hl h
        have hR : wbX12_overOf_0 (wpX12_overOf k) k t li lj Q := hR
        unfold wbX12_overOf_0 at hR
        refine lv_iconst (v := 0) hx hb dX12_overOf_0 (by decide) ?_
        refine lv_istore_n (lv' := [(2, .int 0), (0, .ref (bd 0)), (1, .int (li 1))]) hx hb dX12_overOf_1 rfl hl (by decide) rfl (fun ls hl => ?_)
        exact ih.2 t (uI li 2 0) lj H locs ls hR (lv_sub hl [1, 2, 0] rfl) h
      · intro t li lj H locs ls hR hl h
        have hR : wbX12_overOf_1 (wpX12_overOf k) k t li lj Q := hR
        unfold wbX12_overOf_1 at hR
        refine lv_aload_n hx hb dX12_overOf_2 rfl (lv_at hl 0 rfl) ?_
        refine lv_iload_n hx hb dX12_overOf_3 rfl (lv_at hl 1 rfl) ?_
        refine lv_iload_n hx hb dX12_overOf_4 rfl (lv_at hl 2 rfl) ?_
        refine x_cVIF (n := 2) (As := [.int (li 1), .int (li 2)]) (rest := []) B h (wkX12_isFaceThere l D cI cJ cB cZ bd k t (li 1) (li 2) _ hR) ⟨⟨_, rfl⟩, by decide +kernel, Nat.le_of_ble_eq_true rfl, Nat.le_of_ble_eq_true rfl⟩ gX12_overOf_X12_isFaceThere (show ((wM cI cJ cB cZ bd t) : va_W)[0]? = some (_, .inr (12, _)) from rfl) rfl rfl hl.1 rfl (Nat.le_of_ble_eq_true rfl) dX12_overOf_5 ⟨Nat.le_of_ble_eq_true rfl, Nat.le_of_ble_eq_true rfl⟩ (fun r_1 t_1 H locs hR h => ?_)
        refine lv_if_ne (tgt := 17) hx hb dX12_overOf_8 (by decide) (fun c_2 => ?_) (fun c_2 => ?_)
        · have hR := hR.1 c_2
          refine lv_iload_n hx hb dX12_overOf_17 rfl (lv_at hl 2 rfl) ?_
          exact x_iret (w1 := (fun u : XT => (wM cI cJ cB cZ bd u))) t_1 B h hr rfl hR dX12_overOf_18
        · have hR := hR.2 c_2
          obtain ⟨v_3, ev_3⟩ : ∃ v : Int32, v = (li 2) + Int32.ofInt 1 := ⟨_, rfl⟩
          have hR := hR v_3 ev_3
          refine lv_iinc (v := v_3) (lv' := [(2, .int v_3), (0, .ref (bd 0)), (1, .int (li 1))]) hx hb dX12_overOf_11 hl (k := 2) rfl ev_3.symm (by decide) rfl (fun ls hl => ?_)
          refine lv_goto (tgt := 2) hx hb dX12_overOf_14 (by decide) ?_
          exact ih.2 t_1 (uI li 2 v_3) lj H locs ls hR (lv_sub hl [1, 2, 0] rfl) h
  exact (main k).1 t _ _ s.heap [] ls hR hl h
def wbX12_isFreeFace_0 (rec : Nat → XT → (Nat → Int32) → (Nat → Int64) → (Int32 → XT → Prop) → Prop) (k : Nat) (t : XT) (li : Nat → Int32) (lj : Nat → Int64) (Q : Int32 → XT → Prop) : Prop :=
  (wqX12_isThere k t (li 1) (fun r_1 t_1 => ((r_1 = 0) → rec 1 t_1 li lj Q) ∧ (¬ (r_1 = 0) → (wqX12_facesOver k t_1 (li 1) (fun r_3 t_3 => ((r_3 = 1) → (wqX12_overOf k t_3 (li 1) (fun r_5 t_5 => (wqX12_facesOver k t_5 r_5 (fun r_6 t_6 => ((¬ r_6 = 0) → Q 0 t_6) ∧ ((r_6 = 0) → Q 1 t_6)))))) ∧ (¬ (r_3 = 1) → rec 1 t_3 li lj Q))))))
def wbX12_isFreeFace_1 (rec : Nat → XT → (Nat → Int32) → (Nat → Int64) → (Int32 → XT → Prop) → Prop) (k : Nat) (t : XT) (li : Nat → Int32) (lj : Nat → Int64) (Q : Int32 → XT → Prop) : Prop :=
  Q 0 t
def wpX12_isFreeFace : Nat → Nat → XT → (Nat → Int32) → (Nat → Int64) → (Int32 → XT → Prop) → Prop
  | 0, _, _, _, _, _ => False
  | k + 1, 0, t, li, lj, Q => wbX12_isFreeFace_0 (wpX12_isFreeFace k) k t li lj Q
  | k + 1, 1, t, li, lj, Q => wbX12_isFreeFace_1 (wpX12_isFreeFace k) k t li lj Q
  | _ + 1, _, _, _, _, _ => False
def wqX12_isFreeFace (k : Nat) (t : XT) (a1 : Int32) (Q : Int32 → XT → Prop) : Prop := wpX12_isFreeFace k 0 t (uI (fun _ => 0) 1 a1) (fun _ => 0) Q
set_option maxHeartbeats 8000000 in
set_option maxRecDepth 100000 in
theorem wkX12_isFreeFace (l : Launch) (D : va_G) (cI cJ cB cZ : ClassId) (bd : Nat → Nat) (k : Nat) (t : XT) (a1 : Int32) (Q : Int32 → XT → Prop) (hR : wqX12_isFreeFace k t a1 Q) : MetI l yX12_isFreeFace wsX12_isFreeFace 5 108 0 0 D (TYS cI cJ cB cZ) (wM cI cJ cB cZ bd t) [.ref (bd 0), .int a1] (fun r u => Q r u) (fun u : XT => (wM cI cJ cB cZ bd u)) := by
  refine x_startI (ty := .boolean) (cc := cX12_isFreeFace) (by decide) rfl (Nat.le_of_ble_eq_true rfl) ?_
  intro p e s m args below meth c A ls B hr hnm h hl
  have hx := B.1.1
  have hb := B.1.2.1
  have hml := B.1.2.2.1
  have hts := B.1.2.2.2.2
  have hown : s.vm.findClass RX12 = some m.cls := B.1.2.2.2.1
  have main : ∀ k : Nat, (∀ (t : XT) (li : Nat → Int32) (lj : Nat → Int64) (H : Heap) (locs : List Loc) (ls : Array Slot), wpX12_isFreeFace k 0 t li lj Q → lv_has ls 2 [(0, .ref (bd 0)), (1, .int (li 1))] → Hp D A s.heap (wM cI cJ cB cZ bd t) H locs → W p l e { frames := 5, cells := 0, slots := 0, locals := 108 } s m args below meth c H locs 0 0 (MQ below (va_Qi (fun r u => Q r u) (fun u t => xEnd D ((fun u : XT => (wM cI cJ cB cZ bd u)) u) A t) A) args s 0 0 A) (F0 m 0 ls [])) ∧
      (∀ (t : XT) (li : Nat → Int32) (lj : Nat → Int64) (H : Heap) (locs : List Loc) (ls : Array Slot), wpX12_isFreeFace k 1 t li lj Q → lv_has ls 2 [(0, .ref (bd 0)), (1, .int (li 1))] → Hp D A s.heap (wM cI cJ cB cZ bd t) H locs → W p l e { frames := 5, cells := 0, slots := 0, locals := 108 } s m args below meth c H locs 0 0 (MQ below (va_Qi (fun r u => Q r u) (fun u t => xEnd D ((fun u : XT => (wM cI cJ cB cZ bd u)) u) A t) A) args s 0 0 A) (F0 m 17 ls [])) := by
    intro k
    induction k with
    | zero => exact ⟨fun _ _ _ _ _ _ hR => False.elim hR, fun _ _ _ _ _ _ hR => False.elim hR⟩
    | succ k ih =>
      refine ⟨?_, ?_⟩
      · intro t li lj H locs ls hR hl h
        have hR : wbX12_isFreeFace_0 (wpX12_isFreeFace k) k t li lj Q := hR
        unfold wbX12_isFreeFace_0 at hR
        refine lv_aload_n hx hb dX12_isFreeFace_0 rfl (lv_at hl 0 rfl) ?_
        refine lv_iload_n hx hb dX12_isFreeFace_1 rfl (lv_at hl 1 rfl) ?_
        refine x_cVIF (n := 1) (As := [.int (li 1)]) (rest := []) B h (wkX12_isThere l D cI cJ cB cZ bd k t (li 1) _ hR) ⟨⟨_, rfl⟩, by decide +kernel, Nat.le_of_ble_eq_true rfl, Nat.le_of_ble_eq_true rfl⟩ gX12_isFreeFace_X12_isThere (show ((wM cI cJ cB cZ bd t) : va_W)[0]? = some (_, .inr (12, _)) from rfl) rfl rfl hl.1 rfl (Nat.le_of_ble_eq_true rfl) dX12_isFreeFace_2 ⟨Nat.le_of_ble_eq_true rfl, Nat.le_of_ble_eq_true rfl⟩ (fun r_1 t_1 H locs hR h => ?_)
        refine lv_if_eq (tgt := 17) hx hb dX12_isFreeFace_5 (by decide) (fun c_2 => ?_) (fun c_2 => ?_)
        · have hR := hR.1 c_2
          exact ih.2 t_1 li lj H locs ls hR (lv_sub hl [0, 1] rfl) h
        · have hR := hR.2 c_2
          refine lv_aload_n hx hb dX12_isFreeFace_8 rfl (lv_at hl 0 rfl) ?_
          refine lv_iload_n hx hb dX12_isFreeFace_9 rfl (lv_at hl 1 rfl) ?_
          refine x_cVIF (n := 1) (As := [.int (li 1)]) (rest := []) B h (wkX12_facesOver l D cI cJ cB cZ bd k t_1 (li 1) _ hR) ⟨⟨_, rfl⟩, by decide +kernel, Nat.le_of_ble_eq_true rfl, Nat.le_of_ble_eq_true rfl⟩ gX12_isFreeFace_X12_facesOver (show ((wM cI cJ cB cZ bd t_1) : va_W)[0]? = some (_, .inr (12, _)) from rfl) rfl rfl hl.1 rfl (Nat.le_of_ble_eq_true rfl) dX12_isFreeFace_10 ⟨Nat.le_of_ble_eq_true rfl, Nat.le_of_ble_eq_true rfl⟩ (fun r_3 t_3 H locs hR h => ?_)
          refine lv_iconst (v := 1) hx hb dX12_isFreeFace_13 (by decide) ?_
          refine lv_icmp_eq (tgt := 19) hx hb dX12_isFreeFace_14 (by decide) (fun c_4 => ?_) (fun c_4 => ?_)
          · have hR := hR.1 c_4
            refine lv_aload_n hx hb dX12_isFreeFace_19 rfl (lv_at hl 0 rfl) ?_
            refine lv_aload_n hx hb dX12_isFreeFace_20 rfl (lv_at hl 0 rfl) ?_
            refine lv_iload_n hx hb dX12_isFreeFace_21 rfl (lv_at hl 1 rfl) ?_
            refine x_cVIF (n := 1) (As := [.int (li 1)]) (rest := [.ref (bd 0)]) B h (wkX12_overOf l D cI cJ cB cZ bd k t_3 (li 1) _ hR) ⟨⟨_, rfl⟩, by decide +kernel, Nat.le_of_ble_eq_true rfl, Nat.le_of_ble_eq_true rfl⟩ gX12_isFreeFace_X12_overOf (show ((wM cI cJ cB cZ bd t_3) : va_W)[0]? = some (_, .inr (12, _)) from rfl) rfl rfl hl.1 rfl (Nat.le_of_ble_eq_true rfl) dX12_isFreeFace_22 ⟨Nat.le_of_ble_eq_true rfl, Nat.le_of_ble_eq_true rfl⟩ (fun r_5 t_5 H locs hR h => ?_)
            refine x_cVIF (n := 1) (As := [.int r_5]) (rest := []) B h (wkX12_facesOver l D cI cJ cB cZ bd k t_5 r_5 _ hR) ⟨⟨_, rfl⟩, by decide +kernel, Nat.le_of_ble_eq_true rfl, Nat.le_of_ble_eq_true rfl⟩ gX12_isFreeFace_X12_facesOver (show ((wM cI cJ cB cZ bd t_5) : va_W)[0]? = some (_, .inr (12, _)) from rfl) rfl rfl hl.1 rfl (Nat.le_of_ble_eq_true rfl) dX12_isFreeFace_25 ⟨Nat.le_of_ble_eq_true rfl, Nat.le_of_ble_eq_true rfl⟩ (fun r_6 t_6 H locs hR h => ?_)
            refine lv_if_ne (tgt := 35) hx hb dX12_isFreeFace_28 (by decide) (fun c_7 => ?_) (fun c_7 => ?_)
            · have hR := hR.1 c_7
              refine lv_iconst (v := 0) hx hb dX12_isFreeFace_35 (by decide) ?_
              exact x_iret (w1 := (fun u : XT => (wM cI cJ cB cZ bd u))) t_6 B h hr rfl hR dX12_isFreeFace_36
            · have hR := hR.2 c_7
              refine lv_iconst (v := 1) hx hb dX12_isFreeFace_31 (by decide) ?_
              refine lv_goto (tgt := 36) hx hb dX12_isFreeFace_32 (by decide) ?_
              exact x_iret (w1 := (fun u : XT => (wM cI cJ cB cZ bd u))) t_6 B h hr rfl hR dX12_isFreeFace_36
          · have hR := hR.2 c_4
            exact ih.2 t_3 li lj H locs ls hR (lv_sub hl [0, 1] rfl) h
      · intro t li lj H locs ls hR hl h
        have hR : wbX12_isFreeFace_1 (wpX12_isFreeFace k) k t li lj Q := hR
        unfold wbX12_isFreeFace_1 at hR
        refine lv_iconst (v := 0) hx hb dX12_isFreeFace_17 (by decide) ?_
        exact x_iret (w1 := (fun u : XT => (wM cI cJ cB cZ bd u))) t B h hr rfl hR dX12_isFreeFace_18
  exact (main k).1 t _ _ s.heap [] ls hR hl h
def wbX12_thereMany_0 (rec : Nat → XT → (Nat → Int32) → (Nat → Int64) → (Int32 → XT → Prop) → Prop) (k : Nat) (t : XT) (li : Nat → Int32) (lj : Nat → Int64) (Q : Int32 → XT → Prop) : Prop :=
  rec 1 t (uI (uI li 1 0) 2 0) lj Q
def wbX12_thereMany_1 (rec : Nat → XT → (Nat → Int32) → (Nat → Int64) → (Int32 → XT → Prop) → Prop) (k : Nat) (t : XT) (li : Nat → Int32) (lj : Nat → Int64) (Q : Int32 → XT → Prop) : Prop :=
  ((((t.1 3) : Int32) ≤ (li 2)) → Q (li 1) t) ∧ (¬ (((t.1 3) : Int32) ≤ (li 2)) → (vp_in (li 2) 60 ∧ (∀ v_2 : Int32, v_2 = (t.2.2.1 5) (li 2).toNatClampNeg → ((¬ v_2 = 0) → rec 2 t (uI (uI li 101 0) 100 (li 1)) lj Q) ∧ ((v_2 = 0) → rec 2 t (uI (uI li 101 1) 100 (li 1)) lj Q))))
def wbX12_thereMany_2 (rec : Nat → XT → (Nat → Int32) → (Nat → Int64) → (Int32 → XT → Prop) → Prop) (k : Nat) (t : XT) (li : Nat → Int32) (lj : Nat → Int64) (Q : Int32 → XT → Prop) : Prop :=
  (wqX12_truth k (li 101) (fun r_4 => (∀ v_5 : Int32, v_5 = ((li 100) + r_4) → (∀ v_6 : Int32, v_6 = (li 2) + Int32.ofInt 1 → rec 1 t (uI (uI li 1 v_5) 2 v_6) lj Q))))
def wpX12_thereMany : Nat → Nat → XT → (Nat → Int32) → (Nat → Int64) → (Int32 → XT → Prop) → Prop
  | 0, _, _, _, _, _ => False
  | k + 1, 0, t, li, lj, Q => wbX12_thereMany_0 (wpX12_thereMany k) k t li lj Q
  | k + 1, 1, t, li, lj, Q => wbX12_thereMany_1 (wpX12_thereMany k) k t li lj Q
  | k + 1, 2, t, li, lj, Q => wbX12_thereMany_2 (wpX12_thereMany k) k t li lj Q
  | _ + 1, _, _, _, _, _ => False
def wqX12_thereMany (k : Nat) (t : XT)  (Q : Int32 → XT → Prop) : Prop := wpX12_thereMany k 0 t (fun _ => 0) (fun _ => 0) Q
set_option maxHeartbeats 8000000 in
set_option maxRecDepth 100000 in
theorem wkX12_thereMany (l : Launch) (D : va_G) (cI cJ cB cZ : ClassId) (bd : Nat → Nat) (k : Nat) (t : XT)  (Q : Int32 → XT → Prop) (hR : wqX12_thereMany k t  Q) : MetI l yX12_thereMany wsX12_thereMany 1 20 0 0 D (TYS cI cJ cB cZ) (wM cI cJ cB cZ bd t) [.ref (bd 0)] (fun r u => Q r u) (fun u : XT => (wM cI cJ cB cZ bd u)) := by
  refine x_startI (ty := .int) (cc := cX12_thereMany) (by decide) rfl (Nat.le_of_ble_eq_true rfl) ?_
  intro p e s m args below meth c A ls B hr hnm h hl
  have hx := B.1.1
  have hb := B.1.2.1
  have hml := B.1.2.2.1
  have hts := B.1.2.2.2.2
  have hown : s.vm.findClass RX12 = some m.cls := B.1.2.2.2.1
  have hin12 : ∀ w ∈ u_ws RX12 TX12 31, w ∈ wsX12_thereMany := by decide +kernel
  have main : ∀ k : Nat, (∀ (t : XT) (li : Nat → Int32) (lj : Nat → Int64) (H : Heap) (locs : List Loc) (ls : Array Slot), wpX12_thereMany k 0 t li lj Q → lv_has ls 3 [(0, .ref (bd 0))] → Hp D A s.heap (wM cI cJ cB cZ bd t) H locs → W p l e { frames := 1, cells := 0, slots := 0, locals := 20 } s m args below meth c H locs 0 0 (MQ below (va_Qi (fun r u => Q r u) (fun u t => xEnd D ((fun u : XT => (wM cI cJ cB cZ bd u)) u) A t) A) args s 0 0 A) (F0 m 0 ls [])) ∧
      (∀ (t : XT) (li : Nat → Int32) (lj : Nat → Int64) (H : Heap) (locs : List Loc) (ls : Array Slot), wpX12_thereMany k 1 t li lj Q → lv_has ls 3 [(0, .ref (bd 0)), (1, .int (li 1)), (2, .int (li 2))] → Hp D A s.heap (wM cI cJ cB cZ bd t) H locs → W p l e { frames := 1, cells := 0, slots := 0, locals := 20 } s m args below meth c H locs 0 0 (MQ below (va_Qi (fun r u => Q r u) (fun u t => xEnd D ((fun u : XT => (wM cI cJ cB cZ bd u)) u) A t) A) args s 0 0 A) (F0 m 4 ls [])) ∧
      (∀ (t : XT) (li : Nat → Int32) (lj : Nat → Int64) (H : Heap) (locs : List Loc) (ls : Array Slot), wpX12_thereMany k 2 t li lj Q → lv_has ls 3 [(0, .ref (bd 0)), (1, .int (li 1)), (2, .int (li 2))] → Hp D A s.heap (wM cI cJ cB cZ bd t) H locs → W p l e { frames := 1, cells := 0, slots := 0, locals := 20 } s m args below meth c H locs 0 0 (MQ below (va_Qi (fun r u => Q r u) (fun u t => xEnd D ((fun u : XT => (wM cI cJ cB cZ bd u)) u) A t) A) args s 0 0 A) (F0 m 27 ls [.int (li 101), .int (li 100)])) := by
    intro k
    induction k with
    | zero => exact ⟨fun _ _ _ _ _ _ hR => False.elim hR, fun _ _ _ _ _ _ hR => False.elim hR, fun _ _ _ _ _ _ hR => False.elim hR⟩
    | succ k ih =>
      refine ⟨?_, ?_, ?_⟩
      · intro t li lj H locs ls hR hl h
        have hR : wbX12_thereMany_0 (wpX12_thereMany k) k t li lj Q := hR
        unfold wbX12_thereMany_0 at hR
        refine lv_iconst (v := 0) hx hb dX12_thereMany_0 (by decide) ?_
        refine lv_istore_n (lv' := [(1, .int 0), (0, .ref (bd 0))]) hx hb dX12_thereMany_1 rfl hl (by decide) rfl (fun ls hl => ?_)
        refine lv_iconst (v := 0) hx hb dX12_thereMany_2 (by decide) ?_
        refine lv_istore_n (lv' := [(2, .int 0), (1, .int 0), (0, .ref (bd 0))]) hx hb dX12_thereMany_3 rfl hl (by decide) rfl (fun ls hl => ?_)
        exact ih.2.1 t (uI (uI li 1 0) 2 0) lj H locs ls hR (lv_sub hl [2, 1, 0] rfl) h
      · intro t li lj H locs ls hR hl h
        have hR : wbX12_thereMany_1 (wpX12_thereMany k) k t li lj Q := hR
        unfold wbX12_thereMany_1 at hR
        refine lv_iload_n hx hb dX12_thereMany_4 rfl (lv_at hl 2 rfl) ?_
        refine lv_aload_n hx hb dX12_thereMany_5 rfl (lv_at hl 0 rfl) ?_
        refine x_get (ci := 12) (C := RX12) (T := TX12) (N := 31) (v := .int (t.1 3)) B h hin12 0 5 rfl rfl (by decide) (by decide +kernel) rfl dX12_thereMany_6 ?_
        refine lv_icmp_ge (tgt := 38) hx hb dX12_thereMany_9 (by decide) (fun c_1 => ?_) (fun c_1 => ?_)
        · have hR := hR.1 c_1
          refine lv_iload_n hx hb dX12_thereMany_38 rfl (lv_at hl 1 rfl) ?_
          exact x_iret (w1 := (fun u : XT => (wM cI cJ cB cZ bd u))) t B h hr rfl hR dX12_thereMany_39
        · have hR := hR.2 c_1
          refine lv_iload_n hx hb dX12_thereMany_12 rfl (lv_at hl 1 rfl) ?_
          refine lv_aload_n hx hb dX12_thereMany_13 rfl (lv_at hl 0 rfl) ?_
          refine x_get (ci := 12) (C := RX12) (T := TX12) (N := 31) (v := .ref (bd 6)) B h hin12 0 9 rfl rfl (by decide) (by decide +kernel) rfl dX12_thereMany_14 ?_
          refine lv_iload_n hx hb dX12_thereMany_17 rfl (lv_at hl 2 rfl) ?_
          obtain ⟨hb_2, hR⟩ := hR
          refine va_zald (f := (t.2.2.1 5)) hx hb B.2.1 h.1 6 3 rfl rfl hb_2 dX12_thereMany_18 ?_
          refine lv_topi (fun v_2 ev_2 => ?_)
          have hR := hR v_2 ev_2
          refine lv_if_ne (tgt := 26) hx hb dX12_thereMany_19 (by decide) (fun c_3 => ?_) (fun c_3 => ?_)
          · have hR := hR.1 c_3
            refine lv_iconst (v := 0) hx hb dX12_thereMany_26 (by decide) ?_
            exact ih.2.2 t (uI (uI li 101 0) 100 (li 1)) lj H locs ls hR (lv_sub hl [0, 1, 2] rfl) h
          · have hR := hR.2 c_3
            refine lv_iconst (v := 1) hx hb dX12_thereMany_22 (by decide) ?_
            refine lv_goto (tgt := 27) hx hb dX12_thereMany_23 (by decide) ?_
            exact ih.2.2 t (uI (uI li 101 1) 100 (li 1)) lj H locs ls hR (lv_sub hl [0, 1, 2] rfl) h
      · intro t li lj H locs ls hR hl h
        have hR : wbX12_thereMany_2 (wpX12_thereMany k) k t li lj Q := hR
        unfold wbX12_thereMany_2 at hR
        refine x_cSIE (n := 1) (As := [.int (li 101)]) (rest := [.int (li 100)]) B h (wkX12_truth l D cI cJ cB cZ bd k (li 101) _ hR) ⟨⟨_, rfl⟩, by decide +kernel, Nat.le_of_ble_eq_true rfl, Nat.le_of_ble_eq_true rfl⟩ gX12_thereMany_X12_truth rfl hl.1 rfl (Nat.le_of_ble_eq_true rfl) dX12_thereMany_27 ⟨Nat.le_of_ble_eq_true rfl, Nat.le_of_ble_eq_true rfl⟩ (fun r_4 _ H locs hR h => ?_)
        refine lv_iadd hx hb dX12_thereMany_30 ?_
        refine lv_topi (fun v_5 ev_5 => ?_)
        have hR := hR v_5 ev_5
        refine lv_istore_n (lv' := [(1, .int v_5), (0, .ref (bd 0)), (2, .int (li 2))]) hx hb dX12_thereMany_31 rfl hl (by decide) rfl (fun ls hl => ?_)
        obtain ⟨v_6, ev_6⟩ : ∃ v : Int32, v = (li 2) + Int32.ofInt 1 := ⟨_, rfl⟩
        have hR := hR v_6 ev_6
        refine lv_iinc (v := v_6) (lv' := [(2, .int v_6), (1, .int v_5), (0, .ref (bd 0))]) hx hb dX12_thereMany_32 hl (k := 2) rfl ev_6.symm (by decide) rfl (fun ls hl => ?_)
        refine lv_goto (tgt := 4) hx hb dX12_thereMany_35 (by decide) ?_
        exact ih.2.1 t (uI (uI li 1 v_5) 2 v_6) lj H locs ls hR (lv_sub hl [2, 1, 0] rfl) h
  exact (main k).1 t _ _ s.heap [] ls hR hl h
