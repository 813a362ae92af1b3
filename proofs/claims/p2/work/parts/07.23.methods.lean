set_option maxRecDepth 20000 in
theorem ggX12_swapsColumns_X12_cell : GoodIn wsX12_swapsColumns wsX12_cell := goodIn_r _ [7, 2, 8, 9, 10, 11, 12, 13, 14, 15, 16, 17, 18, 19, 20, 21, 22, 23, 24, 25, 26, 27, 28, 29, 30, 31, 32, 33, 34, 35, 36, 37, 38] (by decide +kernel) (by decide +kernel)
set_option maxRecDepth 20000 in
theorem gX12_swapsColumns_X12_cell : GoodIn wsX12_swapsColumns (wsV RX12 280 RX12 yX12_cell wsX12_cell) := goodIn_app (goodIn_of _ (by decide +kernel)) ggX12_swapsColumns_X12_cell
def wbX12_swapsColumns_0 (rec : Nat → XT → (Nat → Int32) → (Nat → Int64) → (XT → Prop) → Prop) (k : Nat) (t : XT) (li : Nat → Int32) (lj : Nat → Int64) (Q : XT → Prop) : Prop :=
  rec 1 t (uI li 3 0) lj Q
def wbX12_swapsColumns_1 (rec : Nat → XT → (Nat → Int32) → (Nat → Int64) → (XT → Prop) → Prop) (k : Nat) (t : XT) (li : Nat → Int32) (lj : Nat → Int64) (Q : XT → Prop) : Prop :=
  ((((t.1 6) : Int32) ≤ (li 3)) → Q t) ∧ (¬ (((t.1 6) : Int32) ≤ (li 3)) → (wqX12_cell k t (li 3) (li 1) (fun r_2 t_2 => (∀ v_3 : Int32, v_3 = (60 * (li 3)) → (∀ v_4 : Int32, v_4 = (v_3 + (li 1)) → (wqX12_cell k t_2 (li 3) (li 2) (fun r_5 t_5 => (vp_in v_4 3600 ∧ (∀ t_6 : XT, t_6 = sB t_5 4 (vp_updL (t_5.2.2.2 4) v_4.toNatClampNeg r_5) → (∀ v_7 : Int32, v_7 = (60 * (li 3)) → (∀ v_8 : Int32, v_8 = (v_7 + (li 2)) → (vp_in v_8 3600 ∧ (∀ t_9 : XT, t_9 = sB t_6 4 (vp_updL (t_6.2.2.2 4) v_8.toNatClampNeg r_2) → (∀ v_10 : Int32, v_10 = (li 3) + Int32.ofInt 1 → rec 1 t_9 (uI li 3 v_10) lj Q))))))))))))))
def wpX12_swapsColumns : Nat → Nat → XT → (Nat → Int32) → (Nat → Int64) → (XT → Prop) → Prop
  | 0, _, _, _, _, _ => False
  | k + 1, 0, t, li, lj, Q => wbX12_swapsColumns_0 (wpX12_swapsColumns k) k t li lj Q
  | k + 1, 1, t, li, lj, Q => wbX12_swapsColumns_1 (wpX12_swapsColumns k) k t li lj Q
  | _ + 1, _, _, _, _, _ => False
def wqX12_swapsColumns (k : Nat) (t : XT) (a1 : Int32) (a2 : Int32) (Q : XT → Prop) : Prop := wpX12_swapsColumns k 0 t (uI (uI (fun _ => 0) 1 a1) 2 a2) (fun _ => 0) Q
set_option maxHeartbeats 8000000 in
set_option maxRecDepth 100000 in
theorem wkX12_swapsColumns (l : Launch) (D : va_G) (cI cJ cB cZ : ClassId) (bd : Nat → Nat) (k : Nat) (t : XT) (a1 : Int32) (a2 : Int32) (Q : XT → Prop) (hR : wqX12_swapsColumns k t a1 a2 Q) : MetV l yX12_swapsColumns wsX12_swapsColumns 1 22 0 0 D (TYS cI cJ cB cZ) (wM cI cJ cB cZ bd t) [.ref (bd 0), .int a1, .int a2] (fun u => Q u) (fun u : XT => (wM cI cJ cB cZ bd u)) := by
  refine x_startV (ty := .int) (cc := cX12_swapsColumns) (by decide) rfl (Nat.le_of_ble_eq_true rfl) ?_
  intro p e s m args below meth c A ls B hr hnm h hl
  have hx := B.1.1
  have hb := B.1.2.1
  have hml := B.1.2.2.1
  have hts := B.1.2.2.2.2
  have hown : s.vm.findClass RX12 = some m.cls := B.1.2.2.2.1
  have hin12 : ∀ w ∈ u_ws RX12 TX12 31, w ∈ wsX12_swapsColumns := by decide +kernel
  have main : ∀ k : Nat, (∀ (t : XT) (li : Nat → Int32) (lj : Nat → Int64) (H : Heap) (locs : List Loc) (ls : Array Slot), wpX12_swapsColumns k 0 t li lj Q → lv_has ls 6 [(0, .ref (bd 0)), (1, .int (li 1)), (2, .int (li 2))] → Hp D A s.heap (wM cI cJ cB cZ bd t) H locs → W p l e { frames := 1, cells := 0, slots := 0, locals := 22 } s m args below meth c H locs 0 0 (MQ below (va_Qv (fun u => Q u) (fun u t => xEnd D ((fun u : XT => (wM cI cJ cB cZ bd u)) u) A t) A) args s 0 0 A) (F0 m 0 ls [])) ∧
      (∀ (t : XT) (li : Nat → Int32) (lj : Nat → Int64) (H : Heap) (locs : List Loc) (ls : Array Slot), wpX12_swapsColumns k 1 t li lj Q → lv_has ls 6 [(0, .ref (bd 0)), (1, .int (li 1)), (2, .int (li 2)), (3, .int (li 3))] → Hp D A s.heap (wM cI cJ cB cZ bd t) H locs → W p l e { frames := 1, cells := 0, slots := 0, locals := 22 } s m args below meth c H locs 0 0 (MQ below (va_Qv (fun u => Q u) (fun u t => xEnd D ((fun u : XT => (wM cI cJ cB cZ bd u)) u) A t) A) args s 0 0 A) (F0 m 2 ls [])) := by
    intro k
    induction k with
    | zero => exact ⟨fun _ _ _ _ _ _ hR => False.elim hR, fun _ _ _ _ _ _ hR => False.elim hR⟩
    | succ k ih =>
      refine ⟨?_, ?_⟩
      · intro t li lj H locs ls hR hl h
        have hR : wbX12_swapsColumns_0 (wpX12_swapsColumns k) k t li lj Q := hR
        unfold wbX12_swapsColumns_0 at hR
        refine lv_iconst (v := 0) hx hb dX12_swapsColumns_0 (by decide) ?_
        refine lv_istore_n (lv' := [(3, .int 0), (0, .ref (bd 0)), (1, .int (li 1)), (2, .int (li 2))]) hx hb dX12_swapsColumns_1 rfl hl (by decide) rfl (fun ls hl => ?_)
        exact ih.2 t (uI li 3 0) lj H locs ls hR (lv_sub hl [1, 2, 3, 0] rfl) h
      · intro t li lj H locs ls hR hl h
        have hR : wbX12_swapsColumns_1 (wpX12_swapsColumns k) k t li lj Q := hR
        unfold wbX12_swapsColumns_1 at hR
        refine lv_iload_n hx hb dX12_swapsColumns_2 rfl (lv_at hl 3 rfl) ?_
        refine lv_aload_n hx hb dX12_swapsColumns_3 rfl (lv_at hl 0 rfl) ?_
        refine x_get (ci := 12) (C := RX12) (T := TX12) (N := 31) (v := .int (t.1 6)) B h hin12 0 23 rfl rfl (by decide) (by decide +kernel) rfl dX12_swapsColumns_4 ?_
        refine lv_icmp_ge (tgt := 54) hx hb dX12_swapsColumns_7 (by decide) (fun c_1 => ?_) (fun c_1 => ?_)
        · have hR := hR.1 c_1
          exact x_vret (w1 := (fun u : XT => (wM cI cJ cB cZ bd u))) t B h hr hR dX12_swapsColumns_54
        · have hR := hR.2 c_1
          refine lv_aload_n hx hb dX12_swapsColumns_10 rfl (lv_at hl 0 rfl) ?_
          refine lv_iload_n hx hb dX12_swapsColumns_11 rfl (lv_at hl 3 rfl) ?_
          refine lv_iload_n hx hb dX12_swapsColumns_12 rfl (lv_at hl 1 rfl) ?_
          refine x_cVLF (n := 2) (As := [.int (li 3), .int (li 1)]) (rest := []) B h (wkX12_cell l D cI cJ cB cZ bd k t (li 3) (li 1) _ hR) ⟨⟨_, rfl⟩, by decide +kernel, Nat.le_of_ble_eq_true rfl, Nat.le_of_ble_eq_true rfl⟩ gX12_swapsColumns_X12_cell (show ((wM cI cJ cB cZ bd t) : va_W)[0]? = some (_, .inr (12, _)) from rfl) rfl rfl hl.1 rfl (Nat.le_of_ble_eq_true rfl) dX12_swapsColumns_13 ⟨Nat.le_of_ble_eq_true rfl, Nat.le_of_ble_eq_true rfl⟩ (fun r_2 t_2 H locs hR h => ?_)
          refine lv_lstore (lv' := [(4, .long r_2), (0, .ref (bd 0)), (1, .int (li 1)), (2, .int (li 2)), (3, .int (li 3))]) hx hb dX12_swapsColumns_16 hl (by decide) rfl (fun ls hl => ?_)
          refine lv_aload_n hx hb dX12_swapsColumns_18 rfl (lv_at hl 1 rfl) ?_
          refine x_get (ci := 12) (C := RX12) (T := TX12) (N := 31) (v := .ref (bd 17)) B h hin12 0 22 rfl rfl (by decide) (by decide +kernel) rfl dX12_swapsColumns_19 ?_
          refine lv_bipush (v := 60) hx hb dX12_swapsColumns_22 (by decide) ?_
          refine lv_iload_n hx hb dX12_swapsColumns_24 rfl (lv_at hl 4 rfl) ?_
          refine lv_imul hx hb dX12_swapsColumns_25 ?_
          refine lv_topi (fun v_3 ev_3 => ?_)
          have hR := hR v_3 ev_3
          refine lv_iload_n hx hb dX12_swapsColumns_26 rfl (lv_at hl 2 rfl) ?_
          refine lv_iadd hx hb dX12_swapsColumns_27 ?_
          refine lv_topi (fun v_4 ev_4 => ?_)
          have hR := hR v_4 ev_4
          refine lv_aload_n hx hb dX12_swapsColumns_28 rfl (lv_at hl 1 rfl) ?_
          refine lv_iload_n hx hb dX12_swapsColumns_29 rfl (lv_at hl 4 rfl) ?_
          refine lv_iload_n hx hb dX12_swapsColumns_30 rfl (lv_at hl 3 rfl) ?_
          refine x_cVLF (n := 2) (As := [.int (li 3), .int (li 2)]) (rest := [.int v_4, .ref (bd 17)]) B h (wkX12_cell l D cI cJ cB cZ bd k t_2 (li 3) (li 2) _ hR) ⟨⟨_, rfl⟩, by decide +kernel, Nat.le_of_ble_eq_true rfl, Nat.le_of_ble_eq_true rfl⟩ gX12_swapsColumns_X12_cell (show ((wM cI cJ cB cZ bd t_2) : va_W)[0]? = some (_, .inr (12, _)) from rfl) rfl rfl hl.1 rfl (Nat.le_of_ble_eq_true rfl) dX12_swapsColumns_31 ⟨Nat.le_of_ble_eq_true rfl, Nat.le_of_ble_eq_true rfl⟩ (fun r_5 t_5 H locs hR h => ?_)
          obtain ⟨hb_6, hR⟩ := hR
          refine z_last (f := (t_5.2.2.2 4)) B h 17 1 rfl rfl hb_6 dX12_swapsColumns_34 (fun H locs h => ?_)
          obtain ⟨t_6, et_6⟩ : ∃ v : XT, v = sB t_5 4 (vp_updL (t_5.2.2.2 4) v_4.toNatClampNeg r_5) := ⟨_, rfl⟩
          have hR := hR t_6 et_6
          have h : Hp D A s.heap (wM cI cJ cB cZ bd t_6) H locs := by rw [et_6]; exact h
          refine lv_aload_n hx hb dX12_swapsColumns_35 rfl (lv_at hl 1 rfl) ?_
          refine x_get (ci := 12) (C := RX12) (T := TX12) (N := 31) (v := .ref (bd 17)) B h hin12 0 22 rfl rfl (by decide) (by decide +kernel) rfl dX12_swapsColumns_36 ?_
          refine lv_bipush (v := 60) hx hb dX12_swapsColumns_39 (by decide) ?_
          refine lv_iload_n hx hb dX12_swapsColumns_41 rfl (lv_at hl 4 rfl) ?_
          refine lv_imul hx hb dX12_swapsColumns_42 ?_
          refine lv_topi (fun v_7 ev_7 => ?_)
          have hR := hR v_7 ev_7
          refine lv_iload_n hx hb dX12_swapsColumns_43 rfl (lv_at hl 3 rfl) ?_
          refine lv_iadd hx hb dX12_swapsColumns_44 ?_
          refine lv_topi (fun v_8 ev_8 => ?_)
          have hR := hR v_8 ev_8
          refine lv_lload hx hb dX12_swapsColumns_45 (lv_at hl 0 rfl) ?_
          obtain ⟨hb_9, hR⟩ := hR
          refine z_last (f := (t_6.2.2.2 4)) B h 17 1 rfl rfl hb_9 dX12_swapsColumns_47 (fun H locs h => ?_)
          obtain ⟨t_9, et_9⟩ : ∃ v : XT, v = sB t_6 4 (vp_updL (t_6.2.2.2 4) v_8.toNatClampNeg r_2) := ⟨_, rfl⟩
          have hR := hR t_9 et_9
          have h : Hp D A s.heap (wM cI cJ cB cZ bd t_9) H locs := by rw [et_9]; exact h
          obtain ⟨v_10, ev_10⟩ : ∃ v : Int32, v = (li 3) + Int32.ofInt 1 := ⟨_, rfl⟩
          have hR := hR v_10 ev_10
          refine lv_iinc (v := v_10) (lv' := [(3, .int v_10), (4, .long r_2), (0, .ref (bd 0)), (1, .int (li 1)), (2, .int (li 2))]) hx hb dX12_swapsColumns_48 hl (k := 4) rfl ev_10.symm (by decide) rfl (fun ls hl => ?_)
          refine lv_goto (tgt := 2) hx hb dX12_swapsColumns_51 (by decide) ?_
          exact ih.2 t_9 (uI li 3 v_10) lj H locs ls hR (lv_sub hl [2, 3, 4, 0] rfl) h
  exact (main k).1 t _ _ s.heap [] ls hR hl h
set_option maxRecDepth 20000 in
theorem ggX12_bringsLeast_X12_cell : GoodIn wsX12_bringsLeast wsX12_cell := goodIn_r _ [11, 12, 21, 22, 23, 24, 25, 26, 27, 28, 29, 30, 31, 32, 33, 34, 35, 36, 37, 38, 39, 40, 41, 42, 43, 44, 45, 46, 47, 48, 49, 50, 51] (by decide +kernel) (by decide +kernel)
set_option maxRecDepth 20000 in
theorem gX12_bringsLeast_X12_cell : GoodIn wsX12_bringsLeast (wsV RX12 280 RX12 yX12_cell wsX12_cell) := goodIn_app (goodIn_of _ (by decide +kernel)) ggX12_bringsLeast_X12_cell
set_option maxRecDepth 20000 in
theorem ggX12_bringsLeast_X12_swapsRows : GoodIn wsX12_bringsLeast wsX12_swapsRows := goodIn_r _ [16, 2, 12, 7, 8, 9, 10, 11, 21, 22, 23, 24, 25, 26, 27, 28, 29, 30, 31, 32, 33, 34, 35, 36, 37, 38, 39, 40, 41, 42, 43, 44, 45, 46, 47, 48, 49, 50, 51] (by decide +kernel) (by decide +kernel)
set_option maxRecDepth 20000 in
theorem gX12_bringsLeast_X12_swapsRows : GoodIn wsX12_bringsLeast (wsV RX12 289 RX12 yX12_swapsRows wsX12_swapsRows) := goodIn_app (goodIn_of _ (by decide +kernel)) ggX12_bringsLeast_X12_swapsRows
set_option maxRecDepth 20000 in
theorem ggX12_bringsLeast_X12_swapsColumns : GoodIn wsX12_bringsLeast wsX12_swapsColumns := goodIn_r _ [20, 1, 12, 7, 8, 9, 10, 11, 21, 22, 23, 24, 25, 26, 27, 28, 29, 30, 31, 32, 33, 34, 35, 36, 37, 38, 39, 40, 41, 42, 43, 44, 45, 46, 47, 48, 49, 50, 51] (by decide +kernel) (by decide +kernel)
set_option maxRecDepth 20000 in
theorem gX12_bringsLeast_X12_swapsColumns : GoodIn wsX12_bringsLeast (wsV RX12 292 RX12 yX12_swapsColumns wsX12_swapsColumns) := goodIn_app (goodIn_of _ (by decide +kernel)) ggX12_bringsLeast_X12_swapsColumns
def wbX12_bringsLeast_0 (rec : Nat → XT → (Nat → Int32) → (Nat → Int64) → (Int32 → XT → Prop) → Prop) (k : Nat) (t : XT) (li : Nat → Int32) (lj : Nat → Int64) (Q : Int32 → XT → Prop) : Prop :=
  rec 1 t (uI (uI (uI li 2 (-1)) 3 (-1)) 4 (li 1)) lj Q
def wbX12_bringsLeast_1 (rec : Nat → XT → (Nat → Int32) → (Nat → Int64) → (Int32 → XT → Prop) → Prop) (k : Nat) (t : XT) (li : Nat → Int32) (lj : Nat → Int64) (Q : Int32 → XT → Prop) : Prop :=
  ((((t.1 6) : Int32) ≤ (li 4)) → ((¬ (li 2) = (-1)) → (wqX12_swapsRows k t (li 1) (li 2) (fun t_3 => (wqX12_swapsColumns k t_3 (li 1) (li 3) (fun t_4 => Q 1 t_4))))) ∧ (((li 2) = (-1)) → Q 0 t)) ∧ (¬ (((t.1 6) : Int32) ≤ (li 4)) → rec 2 t (uI li 5 (li 1)) lj Q)
def wbX12_bringsLeast_2 (rec : Nat → XT → (Nat → Int32) → (Nat → Int64) → (Int32 → XT → Prop) → Prop) (k : Nat) (t : XT) (li : Nat → Int32) (lj : Nat → Int64) (Q : Int32 → XT → Prop) : Prop :=
  ((((t.1 7) : Int32) ≤ (li 5)) → (∀ v_6 : Int32, v_6 = (li 4) + Int32.ofInt 1 → rec 1 t (uI li 4 v_6) lj Q)) ∧ (¬ (((t.1 7) : Int32) ≤ (li 5)) → (wqX12_cell k t (li 4) (li 5) (fun r_7 t_7 => (∀ v_8 : Int32, v_8 = (lg_cmp r_7 0) → ((v_8 = 0) → rec 4 t_7 li lj Q) ∧ (¬ (v_8 = 0) → (((li 2) = (-1)) → rec 3 t_7 li lj Q) ∧ (¬ ((li 2) = (-1)) → (wqX12_cell k t_7 (li 4) (li 5) (fun r_11 t_11 => (∀ v_12 : Int64, v_12 = (if 0 < r_11 then r_11 else -r_11) → (wqX12_cell k t_11 (li 2) (li 3) (fun r_13 t_13 => (∀ v_14 : Int64, v_14 = (if 0 < r_13 then r_13 else -r_13) → (∀ v_15 : Int32, v_15 = (lg_cmp v_12 v_14) → (((0 : Int32) ≤ v_15) → rec 4 t_13 li lj Q) ∧ (¬ ((0 : Int32) ≤ v_15) → rec 3 t_13 li lj Q))))))))))))))
def wbX12_bringsLeast_3 (rec : Nat → XT → (Nat → Int32) → (Nat → Int64) → (Int32 → XT → Prop) → Prop) (k : Nat) (t : XT) (li : Nat → Int32) (lj : Nat → Int64) (Q : Int32 → XT → Prop) : Prop :=
  rec 5 t (uI li 100 1) lj Q
def wbX12_bringsLeast_4 (rec : Nat → XT → (Nat → Int32) → (Nat → Int64) → (Int32 → XT → Prop) → Prop) (k : Nat) (t : XT) (li : Nat → Int32) (lj : Nat → Int64) (Q : Int32 → XT → Prop) : Prop :=
  rec 5 t (uI li 100 0) lj Q
def wbX12_bringsLeast_5 (rec : Nat → XT → (Nat → Int32) → (Nat → Int64) → (Int32 → XT → Prop) → Prop) (k : Nat) (t : XT) (li : Nat → Int32) (lj : Nat → Int64) (Q : Int32 → XT → Prop) : Prop :=
  (((li 100) = 0) → rec 6 t (uI (uI li 6 (li 100)) 100 (li 2)) lj Q) ∧ (¬ ((li 100) = 0) → rec 6 t (uI (uI li 6 (li 100)) 100 (li 4)) lj Q)
def wbX12_bringsLeast_6 (rec : Nat → XT → (Nat → Int32) → (Nat → Int64) → (Int32 → XT → Prop) → Prop) (k : Nat) (t : XT) (li : Nat → Int32) (lj : Nat → Int64) (Q : Int32 → XT → Prop) : Prop :=
  (((li 6) = 0) → rec 7 t (uI (uI li 2 (li 100)) 100 (li 3)) lj Q) ∧ (¬ ((li 6) = 0) → rec 7 t (uI (uI li 2 (li 100)) 100 (li 5)) lj Q)
def wbX12_bringsLeast_7 (rec : Nat → XT → (Nat → Int32) → (Nat → Int64) → (Int32 → XT → Prop) → Prop) (k : Nat) (t : XT) (li : Nat → Int32) (lj : Nat → Int64) (Q : Int32 → XT → Prop) : Prop :=
  (∀ v_19 : Int32, v_19 = (li 5) + Int32.ofInt 1 → rec 2 t (uI (uI li 3 (li 100)) 5 v_19) lj Q)
def wpX12_bringsLeast : Nat → Nat → XT → (Nat → Int32) → (Nat → Int64) → (Int32 → XT → Prop) → Prop
  | 0, _, _, _, _, _ => False
  | k + 1, 0, t, li, lj, Q => wbX12_bringsLeast_0 (wpX12_bringsLeast k) k t li lj Q
  | k + 1, 1, t, li, lj, Q => wbX12_bringsLeast_1 (wpX12_bringsLeast k) k t li lj Q
  | k + 1, 2, t, li, lj, Q => wbX12_bringsLeast_2 (wpX12_bringsLeast k) k t li lj Q
  | k + 1, 3, t, li, lj, Q => wbX12_bringsLeast_3 (wpX12_bringsLeast k) k t li lj Q
  | k + 1, 4, t, li, lj, Q => wbX12_bringsLeast_4 (wpX12_bringsLeast k) k t li lj Q
  | k + 1, 5, t, li, lj, Q => wbX12_bringsLeast_5 (wpX12_bringsLeast k) k t li lj Q
  | k + 1, 6, t, li, lj, Q => wbX12_bringsLeast_6 (wpX12_bringsLeast k) k t li lj Q
  | k + 1, 7, t, li, lj, Q => wbX12_bringsLeast_7 (wpX12_bringsLeast k) k t li lj Q
  | _ + 1, _, _, _, _, _ => False
def wqX12_bringsLeast (k : Nat) (t : XT) (a1 : Int32) (Q : Int32 → XT → Prop) : Prop := wpX12_bringsLeast k 0 t (uI (fun _ => 0) 1 a1) (fun _ => 0) Q
set_option maxHeartbeats 8000000 in
set_option maxRecDepth 100000 in
theorem wkX12_bringsLeast (l : Launch) (D : va_G) (cI cJ cB cZ : ClassId) (bd : Nat → Nat) (k : Nat) (t : XT) (a1 : Int32) (Q : Int32 → XT → Prop) (hR : wqX12_bringsLeast k t a1 Q) : MetI l yX12_bringsLeast wsX12_bringsLeast 2 47 0 0 D (TYS cI cJ cB cZ) (wM cI cJ cB cZ bd t) [.ref (bd 0), .int a1] (fun r u => Q r u) (fun u : XT => (wM cI cJ cB cZ bd u)) := by
  refine x_startI (ty := .boolean) (cc := cX12_bringsLeast) (by decide) rfl (Nat.le_of_ble_eq_true rfl) ?_
  intro p e s m args below meth c A ls B hr hnm h hl
  have hx := B.1.1
  have hb := B.1.2.1
  have hml := B.1.2.2.1
  have hts := B.1.2.2.2.2
  have hown : s.vm.findClass RX12 = some m.cls := B.1.2.2.2.1
  have hin12 : ∀ w ∈ u_ws RX12 TX12 31, w ∈ wsX12_bringsLeast := by decide +kernel
  have main : ∀ k : Nat, (∀ (t : XT) (li : Nat → Int32) (lj : Nat → Int64) (H : Heap) (locs : List Loc) (ls : Array Slot), wpX12_bringsLeast k 0 t li lj Q → lv_has ls 7 [(0, .ref (bd 0)), (1, .int (li 1))] → Hp D A s.heap (wM cI cJ cB cZ bd t) H locs → W p l e { frames := 2, cells := 0, slots := 0, locals := 47 } s m args below meth c H locs 0 0 (MQ below (va_Qi (fun r u => Q r u) (fun u t => xEnd D ((fun u : XT => (wM cI cJ cB cZ bd u)) u) A t) A) args s 0 0 A) (F0 m 0 ls [])) ∧
      (∀ (t : XT) (li : Nat → Int32) (lj : Nat → Int64) (H : Heap) (locs : List Loc) (ls : Array Slot), wpX12_bringsLeast k 1 t li lj Q → lv_has ls 7 [(0, .ref (bd 0)), (1, .int (li 1)), (2, .int (li 2)), (3, .int (li 3)), (4, .int (li 4))] → Hp D A s.heap (wM cI cJ cB cZ bd t) H locs → W p l e { frames := 2, cells := 0, slots := 0, locals := 47 } s m args below meth c H locs 0 0 (MQ below (va_Qi (fun r u => Q r u) (fun u t => xEnd D ((fun u : XT => (wM cI cJ cB cZ bd u)) u) A t) A) args s 0 0 A) (F0 m 7 ls [])) ∧
      (∀ (t : XT) (li : Nat → Int32) (lj : Nat → Int64) (H : Heap) (locs : List Loc) (ls : Array Slot), wpX12_bringsLeast k 2 t li lj Q → lv_has ls 7 [(0, .ref (bd 0)), (1, .int (li 1)), (2, .int (li 2)), (3, .int (li 3)), (4, .int (li 4)), (5, .int (li 5))] → Hp D A s.heap (wM cI cJ cB cZ bd t) H locs → W p l e { frames := 2, cells := 0, slots := 0, locals := 47 } s m args below meth c H locs 0 0 (MQ below (va_Qi (fun r u => Q r u) (fun u t => xEnd D ((fun u : XT => (wM cI cJ cB cZ bd u)) u) A t) A) args s 0 0 A) (F0 m 19 ls [])) ∧
      (∀ (t : XT) (li : Nat → Int32) (lj : Nat → Int64) (H : Heap) (locs : List Loc) (ls : Array Slot), wpX12_bringsLeast k 3 t li lj Q → lv_has ls 7 [(0, .ref (bd 0)), (1, .int (li 1)), (2, .int (li 2)), (3, .int (li 3)), (4, .int (li 4)), (5, .int (li 5))] → Hp D A s.heap (wM cI cJ cB cZ bd t) H locs → W p l e { frames := 2, cells := 0, slots := 0, locals := 47 } s m args below meth c H locs 0 0 (MQ below (va_Qi (fun r u => Q r u) (fun u t => xEnd D ((fun u : XT => (wM cI cJ cB cZ bd u)) u) A t) A) args s 0 0 A) (F0 m 70 ls [])) ∧
      (∀ (t : XT) (li : Nat → Int32) (lj : Nat → Int64) (H : Heap) (locs : List Loc) (ls : Array Slot), wpX12_bringsLeast k 4 t li lj Q → lv_has ls 7 [(0, .ref (bd 0)), (1, .int (li 1)), (2, .int (li 2)), (3, .int (li 3)), (4, .int (li 4)), (5, .int (li 5))] → Hp D A s.heap (wM cI cJ cB cZ bd t) H locs → W p l e { frames := 2, cells := 0, slots := 0, locals := 47 } s m args below meth c H locs 0 0 (MQ below (va_Qi (fun r u => Q r u) (fun u t => xEnd D ((fun u : XT => (wM cI cJ cB cZ bd u)) u) A t) A) args s 0 0 A) (F0 m 74 ls [])) ∧
      (∀ (t : XT) (li : Nat → Int32) (lj : Nat → Int64) (H : Heap) (locs : List Loc) (ls : Array Slot), wpX12_bringsLeast k 5 t li lj Q → lv_has ls 7 [(0, .ref (bd 0)), (1, .int (li 1)), (2, .int (li 2)), (3, .int (li 3)), (4, .int (li 4)), (5, .int (li 5))] → Hp D A s.heap (wM cI cJ cB cZ bd t) H locs → W p l e { frames := 2, cells := 0, slots := 0, locals := 47 } s m args below meth c H locs 0 0 (MQ below (va_Qi (fun r u => Q r u) (fun u t => xEnd D ((fun u : XT => (wM cI cJ cB cZ bd u)) u) A t) A) args s 0 0 A) (F0 m 75 ls [.int (li 100)])) ∧
      (∀ (t : XT) (li : Nat → Int32) (lj : Nat → Int64) (H : Heap) (locs : List Loc) (ls : Array Slot), wpX12_bringsLeast k 6 t li lj Q → lv_has ls 7 [(0, .ref (bd 0)), (1, .int (li 1)), (2, .int (li 2)), (3, .int (li 3)), (4, .int (li 4)), (5, .int (li 5)), (6, .int (li 6))] → Hp D A s.heap (wM cI cJ cB cZ bd t) H locs → W p l e { frames := 2, cells := 0, slots := 0, locals := 47 } s m args below meth c H locs 0 0 (MQ below (va_Qi (fun r u => Q r u) (fun u t => xEnd D ((fun u : XT => (wM cI cJ cB cZ bd u)) u) A t) A) args s 0 0 A) (F0 m 88 ls [.int (li 100)])) ∧
      (∀ (t : XT) (li : Nat → Int32) (lj : Nat → Int64) (H : Heap) (locs : List Loc) (ls : Array Slot), wpX12_bringsLeast k 7 t li lj Q → lv_has ls 7 [(0, .ref (bd 0)), (1, .int (li 1)), (2, .int (li 2)), (3, .int (li 3)), (4, .int (li 4)), (5, .int (li 5)), (6, .int (li 6))] → Hp D A s.heap (wM cI cJ cB cZ bd t) H locs → W p l e { frames := 2, cells := 0, slots := 0, locals := 47 } s m args below meth c H locs 0 0 (MQ below (va_Qi (fun r u => Q r u) (fun u t => xEnd D ((fun u : XT => (wM cI cJ cB cZ bd u)) u) A t) A) args s 0 0 A) (F0 m 100 ls [.int (li 100)])) := by
    intro k
    induction k with
    | zero => exact ⟨fun _ _ _ _ _ _ hR => False.elim hR, fun _ _ _ _ _ _ hR => False.elim hR, fun _ _ _ _ _ _ hR => False.elim hR, fun _ _ _ _ _ _ hR => False.elim hR, fun _ _ _ _ _ _ hR => False.elim hR, fun _ _ _ _ _ _ hR => False.elim hR, fun _ _ _ _ _ _ hR => False.elim hR, fun _ _ _ _ _ _ hR => False.elim hR⟩
    | succ k ih =>
      refine ⟨?_, ?_, ?_, ?_, ?_, ?_, ?_, ?_⟩
      · intro t li lj H locs ls hR hl h
        have hR : wbX12_bringsLeast_0 (wpX12_bringsLeast k) k t li lj Q := hR
        unfold wbX12_bringsLeast_0 at hR
        refine lv_iconst (v := (-1)) hx hb dX12_bringsLeast_0 (by decide) ?_
        refine lv_istore_n (lv' := [(2, .int (-1)), (0, .ref (bd 0)), (1, .int (li 1))]) hx hb dX12_bringsLeast_1 rfl hl (by decide) rfl (fun ls hl => ?_)
        refine lv_iconst (v := (-1)) hx hb dX12_bringsLeast_2 (by decide) ?_
        refine lv_istore_n (lv' := [(3, .int (-1)), (2, .int (-1)), (0, .ref (bd 0)), (1, .int (li 1))]) hx hb dX12_bringsLeast_3 rfl hl (by decide) rfl (fun ls hl => ?_)
        refine lv_iload_n hx hb dX12_bringsLeast_4 rfl (lv_at hl 3 rfl) ?_
        refine lv_istore (lv' := [(4, .int (li 1)), (3, .int (-1)), (2, .int (-1)), (0, .ref (bd 0)), (1, .int (li 1))]) hx hb dX12_bringsLeast_5 hl (by decide) rfl (fun ls hl => ?_)
        exact ih.2.1 t (uI (uI (uI li 2 (-1)) 3 (-1)) 4 (li 1)) lj H locs ls hR (lv_sub hl [3, 4, 2, 1, 0] rfl) h
      · intro t li lj H locs ls hR hl h
        have hR : wbX12_bringsLeast_1 (wpX12_bringsLeast k) k t li lj Q := hR
        unfold wbX12_bringsLeast_1 at hR
        refine lv_iload hx hb dX12_bringsLeast_7 (lv_at hl 4 rfl) ?_
        refine lv_aload_n hx hb dX12_bringsLeast_9 rfl (lv_at hl 0 rfl) ?_
        refine x_get (ci := 12) (C := RX12) (T := TX12) (N := 31) (v := .int (t.1 6)) B h hin12 0 23 rfl rfl (by decide) (by decide +kernel) rfl dX12_bringsLeast_10 ?_
        refine lv_icmp_ge (tgt := 113) hx hb dX12_bringsLeast_13 (by decide) (fun c_1 => ?_) (fun c_1 => ?_)
        · have hR := hR.1 c_1
          refine lv_iload_n hx hb dX12_bringsLeast_113 rfl (lv_at hl 2 rfl) ?_
          refine lv_iconst (v := (-1)) hx hb dX12_bringsLeast_114 (by decide) ?_
          refine lv_icmp_ne (tgt := 120) hx hb dX12_bringsLeast_115 (by decide) (fun c_2 => ?_) (fun c_2 => ?_)
          · have hR := hR.1 c_2
            refine lv_aload_n hx hb dX12_bringsLeast_120 rfl (lv_at hl 0 rfl) ?_
            refine lv_iload_n hx hb dX12_bringsLeast_121 rfl (lv_at hl 1 rfl) ?_
            refine lv_iload_n hx hb dX12_bringsLeast_122 rfl (lv_at hl 2 rfl) ?_
            refine x_cVVF (n := 2) (As := [.int (li 1), .int (li 2)]) (rest := []) B h (wkX12_swapsRows l D cI cJ cB cZ bd k t (li 1) (li 2) _ hR) ⟨⟨_, rfl⟩, by decide +kernel, Nat.le_of_ble_eq_true rfl, Nat.le_of_ble_eq_true rfl⟩ gX12_bringsLeast_X12_swapsRows (show ((wM cI cJ cB cZ bd t) : va_W)[0]? = some (_, .inr (12, _)) from rfl) rfl rfl hl.1 rfl (Nat.le_of_ble_eq_true rfl) dX12_bringsLeast_123 ⟨Nat.le_of_ble_eq_true rfl, Nat.le_of_ble_eq_true rfl⟩ (fun t_3 H locs hR h => ?_)
            refine lv_aload_n hx hb dX12_bringsLeast_126 rfl (lv_at hl 0 rfl) ?_
            refine lv_iload_n hx hb dX12_bringsLeast_127 rfl (lv_at hl 1 rfl) ?_
            refine lv_iload_n hx hb dX12_bringsLeast_128 rfl (lv_at hl 3 rfl) ?_
            refine x_cVVF (n := 2) (As := [.int (li 1), .int (li 3)]) (rest := []) B h (wkX12_swapsColumns l D cI cJ cB cZ bd k t_3 (li 1) (li 3) _ hR) ⟨⟨_, rfl⟩, by decide +kernel, Nat.le_of_ble_eq_true rfl, Nat.le_of_ble_eq_true rfl⟩ gX12_bringsLeast_X12_swapsColumns (show ((wM cI cJ cB cZ bd t_3) : va_W)[0]? = some (_, .inr (12, _)) from rfl) rfl rfl hl.1 rfl (Nat.le_of_ble_eq_true rfl) dX12_bringsLeast_129 ⟨Nat.le_of_ble_eq_true rfl, Nat.le_of_ble_eq_true rfl⟩ (fun t_4 H locs hR h => ?_)
            refine lv_iconst (v := 1) hx hb dX12_bringsLeast_132 (by decide) ?_
            exact x_iret (w1 := (fun u : XT => (wM cI cJ cB cZ bd u))) t_4 B h hr rfl hR dX12_bringsLeast_133
          · have hR := hR.2 c_2
            refine lv_iconst (v := 0) hx hb dX12_bringsLeast_118 (by decide) ?_
            exact x_iret (w1 := (fun u : XT => (wM cI cJ cB cZ bd u))) t B h hr rfl hR dX12_bringsLeast_119
        · have hR := hR.2 c_1
          refine lv_iload_n hx hb dX12_bringsLeast_16 rfl (lv_at hl 1 rfl) ?_
          refine lv_istore (lv' := [(5, .int (li 1)), (0, .ref (bd 0)), (1, .int (li 1)), (2, .int (li 2)), (3, .int (li 3)), (4, .int (li 4))]) hx hb dX12_bringsLeast_17 hl (by decide) rfl (fun ls hl => ?_)
          exact ih.2.2.1 t (uI li 5 (li 1)) lj H locs ls hR (lv_sub hl [1, 2, 3, 4, 5, 0] rfl) h
      · intro t li lj H locs ls hR hl h
        have hR : wbX12_bringsLeast_2 (wpX12_bringsLeast k) k t li lj Q := hR
        unfold wbX12_bringsLeast_2 at hR
        refine lv_iload hx hb dX12_bringsLeast_19 (lv_at hl 5 rfl) ?_
        refine lv_aload_n hx hb dX12_bringsLeast_21 rfl (lv_at hl 0 rfl) ?_
        refine x_get (ci := 12) (C := RX12) (T := TX12) (N := 31) (v := .int (t.1 7)) B h hin12 0 24 rfl rfl (by decide) (by decide +kernel) rfl dX12_bringsLeast_22 ?_
        refine lv_icmp_ge (tgt := 107) hx hb dX12_bringsLeast_25 (by decide) (fun c_5 => ?_) (fun c_5 => ?_)
        · have hR := hR.1 c_5
          obtain ⟨v_6, ev_6⟩ : ∃ v : Int32, v = (li 4) + Int32.ofInt 1 := ⟨_, rfl⟩
          have hR := hR v_6 ev_6
          refine lv_iinc (v := v_6) (lv' := [(4, .int v_6), (0, .ref (bd 0)), (1, .int (li 1)), (2, .int (li 2)), (3, .int (li 3)), (5, .int (li 5))]) hx hb dX12_bringsLeast_107 hl (k := 4) rfl ev_6.symm (by decide) rfl (fun ls hl => ?_)
          refine lv_goto (tgt := 7) hx hb dX12_bringsLeast_110 (by decide) ?_
          exact ih.2.1 t (uI li 4 v_6) lj H locs ls hR (lv_sub hl [1, 2, 3, 4, 0] rfl) h
        · have hR := hR.2 c_5
          refine lv_aload_n hx hb dX12_bringsLeast_28 rfl (lv_at hl 0 rfl) ?_
          refine lv_iload hx hb dX12_bringsLeast_29 (lv_at hl 4 rfl) ?_
          refine lv_iload hx hb dX12_bringsLeast_31 (lv_at hl 5 rfl) ?_
          refine x_cVLF (n := 2) (As := [.int (li 4), .int (li 5)]) (rest := []) B h (wkX12_cell l D cI cJ cB cZ bd k t (li 4) (li 5) _ hR) ⟨⟨_, rfl⟩, by decide +kernel, Nat.le_of_ble_eq_true rfl, Nat.le_of_ble_eq_true rfl⟩ gX12_bringsLeast_X12_cell (show ((wM cI cJ cB cZ bd t) : va_W)[0]? = some (_, .inr (12, _)) from rfl) rfl rfl hl.1 rfl (Nat.le_of_ble_eq_true rfl) dX12_bringsLeast_33 ⟨Nat.le_of_ble_eq_true rfl, Nat.le_of_ble_eq_true rfl⟩ (fun r_7 t_7 H locs hR h => ?_)
          refine lv_lconst (v := 0) hx hb dX12_bringsLeast_36 (by decide) ?_
          refine W.lcmp hx hb dX12_bringsLeast_37 ?_
          refine lv_topi (fun v_8 ev_8 => ?_)
          have hR := hR v_8 ev_8
          refine lv_if_eq (tgt := 74) hx hb dX12_bringsLeast_38 (by decide) (fun c_9 => ?_) (fun c_9 => ?_)
          · have hR := hR.1 c_9
            exact ih.2.2.2.2.1 t_7 li lj H locs ls hR (lv_sub hl [0, 1, 2, 3, 4, 5] rfl) h
          · have hR := hR.2 c_9
            refine lv_iload_n hx hb dX12_bringsLeast_41 rfl (lv_at hl 2 rfl) ?_
            refine lv_iconst (v := (-1)) hx hb dX12_bringsLeast_42 (by decide) ?_
            refine lv_icmp_eq (tgt := 70) hx hb dX12_bringsLeast_43 (by decide) (fun c_10 => ?_) (fun c_10 => ?_)
            · have hR := hR.1 c_10
              exact ih.2.2.2.1 t_7 li lj H locs ls hR (lv_sub hl [0, 1, 2, 3, 4, 5] rfl) h
            · have hR := hR.2 c_10
              refine lv_aload_n hx hb dX12_bringsLeast_46 rfl (lv_at hl 0 rfl) ?_
              refine lv_iload hx hb dX12_bringsLeast_47 (lv_at hl 4 rfl) ?_
              refine lv_iload hx hb dX12_bringsLeast_49 (lv_at hl 5 rfl) ?_
              refine x_cVLF (n := 2) (As := [.int (li 4), .int (li 5)]) (rest := []) B h (wkX12_cell l D cI cJ cB cZ bd k t_7 (li 4) (li 5) _ hR) ⟨⟨_, rfl⟩, by decide +kernel, Nat.le_of_ble_eq_true rfl, Nat.le_of_ble_eq_true rfl⟩ gX12_bringsLeast_X12_cell (show ((wM cI cJ cB cZ bd t_7) : va_W)[0]? = some (_, .inr (12, _)) from rfl) rfl rfl hl.1 rfl (Nat.le_of_ble_eq_true rfl) dX12_bringsLeast_51 ⟨Nat.le_of_ble_eq_true rfl, Nat.le_of_ble_eq_true rfl⟩ (fun r_11 t_11 H locs hR h => ?_)
              refine va_mabs_long hx hb (hml.trans hl.1.symm) hown (hts (.methodLink RX12 283 Lib.MathLoose.abs_long.x) (by decide +kernel)) (hts (.static Lib.MathLoose.abs_long.x) (by decide +kernel)) (hts (.initialized "java/lang/Math") (by decide +kernel)) (hts (.code Lib.MathLoose.abs_long.x Lib.MathLoose.abs_long.code 2 (some .long)) (by decide +kernel)) (Nat.le_of_ble_eq_true rfl) (Nat.le_of_ble_eq_true rfl) (Nat.le_of_ble_eq_true rfl) (Nat.le_of_ble_eq_true rfl) dX12_bringsLeast_54 ?_
              refine lv_topl (fun v_12 ev_12 => ?_)
              have hR := hR v_12 ev_12
              refine lv_aload_n hx hb dX12_bringsLeast_57 rfl (lv_at hl 0 rfl) ?_
              refine lv_iload_n hx hb dX12_bringsLeast_58 rfl (lv_at hl 2 rfl) ?_
              refine lv_iload_n hx hb dX12_bringsLeast_59 rfl (lv_at hl 3 rfl) ?_
              refine x_cVLF (n := 2) (As := [.int (li 2), .int (li 3)]) (rest := [.long v_12]) B h (wkX12_cell l D cI cJ cB cZ bd k t_11 (li 2) (li 3) _ hR) ⟨⟨_, rfl⟩, by decide +kernel, Nat.le_of_ble_eq_true rfl, Nat.le_of_ble_eq_true rfl⟩ gX12_bringsLeast_X12_cell (show ((wM cI cJ cB cZ bd t_11) : va_W)[0]? = some (_, .inr (12, _)) from rfl) rfl rfl hl.1 rfl (Nat.le_of_ble_eq_true rfl) dX12_bringsLeast_60 ⟨Nat.le_of_ble_eq_true rfl, Nat.le_of_ble_eq_true rfl⟩ (fun r_13 t_13 H locs hR h => ?_)
              refine va_mabs_long hx hb (hml.trans hl.1.symm) hown (hts (.methodLink RX12 283 Lib.MathLoose.abs_long.x) (by decide +kernel)) (hts (.static Lib.MathLoose.abs_long.x) (by decide +kernel)) (hts (.initialized "java/lang/Math") (by decide +kernel)) (hts (.code Lib.MathLoose.abs_long.x Lib.MathLoose.abs_long.code 2 (some .long)) (by decide +kernel)) (Nat.le_of_ble_eq_true rfl) (Nat.le_of_ble_eq_true rfl) (Nat.le_of_ble_eq_true rfl) (Nat.le_of_ble_eq_true rfl) dX12_bringsLeast_63 ?_
              refine lv_topl (fun v_14 ev_14 => ?_)
              have hR := hR v_14 ev_14
              refine W.lcmp hx hb dX12_bringsLeast_66 ?_
              refine lv_topi (fun v_15 ev_15 => ?_)
              have hR := hR v_15 ev_15
              refine lv_if_ge (tgt := 74) hx hb dX12_bringsLeast_67 (by decide) (fun c_16 => ?_) (fun c_16 => ?_)
              · have hR := hR.1 c_16
                exact ih.2.2.2.2.1 t_13 li lj H locs ls hR (lv_sub hl [0, 1, 2, 3, 4, 5] rfl) h
              · have hR := hR.2 c_16
                exact ih.2.2.2.1 t_13 li lj H locs ls hR (lv_sub hl [0, 1, 2, 3, 4, 5] rfl) h
      · intro t li lj H locs ls hR hl h
        have hR : wbX12_bringsLeast_3 (wpX12_bringsLeast k) k t li lj Q := hR
        unfold wbX12_bringsLeast_3 at hR
        refine lv_iconst (v := 1) hx hb dX12_bringsLeast_70 (by decide) ?_
        refine lv_goto (tgt := 75) hx hb dX12_bringsLeast_71 (by decide) ?_
        exact ih.2.2.2.2.2.1 t (uI li 100 1) lj H locs ls hR (lv_sub hl [0, 1, 2, 3, 4, 5] rfl) h
      · intro t li lj H locs ls hR hl h
        have hR : wbX12_bringsLeast_4 (wpX12_bringsLeast k) k t li lj Q := hR
        unfold wbX12_bringsLeast_4 at hR
        refine lv_iconst (v := 0) hx hb dX12_bringsLeast_74 (by decide) ?_
        exact ih.2.2.2.2.2.1 t (uI li 100 0) lj H locs ls hR (lv_sub hl [0, 1, 2, 3, 4, 5] rfl) h
      · intro t li lj H locs ls hR hl h
        have hR : wbX12_bringsLeast_5 (wpX12_bringsLeast k) k t li lj Q := hR
        unfold wbX12_bringsLeast_5 at hR
        refine lv_istore (lv' := [(6, .int (li 100)), (0, .ref (bd 0)), (1, .int (li 1)), (2, .int (li 2)), (3, .int (li 3)), (4, .int (li 4)), (5, .int (li 5))]) hx hb dX12_bringsLeast_75 hl (by decide) rfl (fun ls hl => ?_)
        refine lv_iload hx hb dX12_bringsLeast_77 (lv_at hl 0 rfl) ?_
        refine lv_if_eq (tgt := 87) hx hb dX12_bringsLeast_79 (by decide) (fun c_17 => ?_) (fun c_17 => ?_)
        · have hR := hR.1 c_17
          refine lv_iload_n hx hb dX12_bringsLeast_87 rfl (lv_at hl 3 rfl) ?_
          exact ih.2.2.2.2.2.2.1 t (uI (uI li 6 (li 100)) 100 (li 2)) lj H locs ls hR (lv_sub hl [1, 2, 3, 4, 5, 6, 0] rfl) h
        · have hR := hR.2 c_17
          refine lv_iload hx hb dX12_bringsLeast_82 (lv_at hl 5 rfl) ?_
          refine lv_goto (tgt := 88) hx hb dX12_bringsLeast_84 (by decide) ?_
          exact ih.2.2.2.2.2.2.1 t (uI (uI li 6 (li 100)) 100 (li 4)) lj H locs ls hR (lv_sub hl [1, 2, 3, 4, 5, 6, 0] rfl) h
      · intro t li lj H locs ls hR hl h
        have hR : wbX12_bringsLeast_6 (wpX12_bringsLeast k) k t li lj Q := hR
        unfold wbX12_bringsLeast_6 at hR
        refine lv_istore_n (lv' := [(2, .int (li 100)), (0, .ref (bd 0)), (1, .int (li 1)), (3, .int (li 3)), (4, .int (li 4)), (5, .int (li 5)), (6, .int (li 6))]) hx hb dX12_bringsLeast_88 rfl hl (by decide) rfl (fun ls hl => ?_)
        refine lv_iload hx hb dX12_bringsLeast_89 (lv_at hl 6 rfl) ?_
        refine lv_if_eq (tgt := 99) hx hb dX12_bringsLeast_91 (by decide) (fun c_18 => ?_) (fun c_18 => ?_)
        · have hR := hR.1 c_18
          refine lv_iload_n hx hb dX12_bringsLeast_99 rfl (lv_at hl 3 rfl) ?_
          exact ih.2.2.2.2.2.2.2 t (uI (uI li 2 (li 100)) 100 (li 3)) lj H locs ls hR (lv_sub hl [1, 2, 0, 3, 4, 5, 6] rfl) h
        · have hR := hR.2 c_18
          refine lv_iload hx hb dX12_bringsLeast_94 (lv_at hl 5 rfl) ?_
          refine lv_goto (tgt := 100) hx hb dX12_bringsLeast_96 (by decide) ?_
          exact ih.2.2.2.2.2.2.2 t (uI (uI li 2 (li 100)) 100 (li 5)) lj H locs ls hR (lv_sub hl [1, 2, 0, 3, 4, 5, 6] rfl) h
      · intro t li lj H locs ls hR hl h
        have hR : wbX12_bringsLeast_7 (wpX12_bringsLeast k) k t li lj Q := hR
        unfold wbX12_bringsLeast_7 at hR
        refine lv_istore_n (lv' := [(3, .int (li 100)), (0, .ref (bd 0)), (1, .int (li 1)), (2, .int (li 2)), (4, .int (li 4)), (5, .int (li 5)), (6, .int (li 6))]) hx hb dX12_bringsLeast_100 rfl hl (by decide) rfl (fun ls hl => ?_)
        obtain ⟨v_19, ev_19⟩ : ∃ v : Int32, v = (li 5) + Int32.ofInt 1 := ⟨_, rfl⟩
        have hR := hR v_19 ev_19
        refine lv_iinc (v := v_19) (lv' := [(5, .int v_19), (3, .int (li 100)), (0, .ref (bd 0)), (1, .int (li 1)), (2, .int (li 2)), (4, .int (li 4)), (6, .int (li 6))]) hx hb dX12_bringsLeast_101 hl (k := 5) rfl ev_19.symm (by decide) rfl (fun ls hl => ?_)
        refine lv_goto (tgt := 19) hx hb dX12_bringsLeast_104 (by decide) ?_
        exact ih.2.2.1 t (uI (uI li 3 (li 100)) 5 v_19) lj H locs ls hR (lv_sub hl [2, 3, 4, 1, 5, 0] rfl) h
  exact (main k).1 t _ _ s.heap [] ls hR hl h
set_option maxRecDepth 20000 in
theorem ggX12_addsRow_X12_cell : GoodIn wsX12_addsRow wsX12_cell := goodIn_r _ [7, 2, 8, 9, 10, 11, 12, 13, 14, 15, 16, 17, 18, 19, 20, 21, 22, 23, 24, 25, 26, 27, 28, 29, 30, 31, 32, 33, 34, 35, 36, 37, 38] (by decide +kernel) (by decide +kernel)
set_option maxRecDepth 20000 in
theorem gX12_addsRow_X12_cell : GoodIn wsX12_addsRow (wsV RX12 280 RX12 yX12_cell wsX12_cell) := goodIn_app (goodIn_of _ (by decide +kernel)) ggX12_addsRow_X12_cell
def wbX12_addsRow_0 (rec : Nat → XT → (Nat → Int32) → (Nat → Int64) → (XT → Prop) → Prop) (k : Nat) (t : XT) (li : Nat → Int32) (lj : Nat → Int64) (Q : XT → Prop) : Prop :=
  rec 1 t (uI li 5 0) lj Q
def wbX12_addsRow_1 (rec : Nat → XT → (Nat → Int32) → (Nat → Int64) → (XT → Prop) → Prop) (k : Nat) (t : XT) (li : Nat → Int32) (lj : Nat → Int64) (Q : XT → Prop) : Prop :=
  ((((t.1 7) : Int32) ≤ (li 5)) → Q t) ∧ (¬ (((t.1 7) : Int32) ≤ (li 5)) → (∀ v_2 : Int32, v_2 = (60 * (li 1)) → (∀ v_3 : Int32, v_3 = (v_2 + (li 5)) → (vp_in v_3 3600 ∧ (∀ v_4 : Int64, v_4 = (t.2.2.2 4) v_3.toNatClampNeg → (wqX12_cell k t (li 2) (li 5) (fun r_5 t_5 => (∀ v_6 : Int64, v_6 = ((lj 3) * r_5) → (∀ v_7 : Int64, v_7 = (v_4 + v_6) → (vp_in v_3 3600 ∧ (∀ t_8 : XT, t_8 = sB t_5 4 (vp_updL (t_5.2.2.2 4) v_3.toNatClampNeg v_7) → (∀ v_9 : Int32, v_9 = (li 5) + Int32.ofInt 1 → rec 1 t_8 (uI li 5 v_9) lj Q))))))))))))
def wpX12_addsRow : Nat → Nat → XT → (Nat → Int32) → (Nat → Int64) → (XT → Prop) → Prop
  | 0, _, _, _, _, _ => False
  | k + 1, 0, t, li, lj, Q => wbX12_addsRow_0 (wpX12_addsRow k) k t li lj Q
  | k + 1, 1, t, li, lj, Q => wbX12_addsRow_1 (wpX12_addsRow k) k t li lj Q
  | _ + 1, _, _, _, _, _ => False
def wqX12_addsRow (k : Nat) (t : XT) (a1 : Int32) (a2 : Int32) (a3 : Int64) (Q : XT → Prop) : Prop := wpX12_addsRow k 0 t (uI (uI (fun _ => 0) 1 a1) 2 a2) (uI (fun _ => 0) 3 a3) Q
set_option maxHeartbeats 8000000 in
set_option maxRecDepth 100000 in
theorem wkX12_addsRow (l : Launch) (D : va_G) (cI cJ cB cZ : ClassId) (bd : Nat → Nat) (k : Nat) (t : XT) (a1 : Int32) (a2 : Int32) (a3 : Int64) (Q : XT → Prop) (hR : wqX12_addsRow k t a1 a2 a3 Q) : MetV l yX12_addsRow wsX12_addsRow 1 22 0 0 D (TYS cI cJ cB cZ) (wM cI cJ cB cZ bd t) [.ref (bd 0), .int a1, .int a2, .long a3] (fun u => Q u) (fun u : XT => (wM cI cJ cB cZ bd u)) := by
  refine x_startV (ty := .int) (cc := cX12_addsRow) (by decide) rfl (Nat.le_of_ble_eq_true rfl) ?_
  intro p e s m args below meth c A ls B hr hnm h hl
  have hx := B.1.1
  have hb := B.1.2.1
  have hml := B.1.2.2.1
  have hts := B.1.2.2.2.2
  have hown : s.vm.findClass RX12 = some m.cls := B.1.2.2.2.1
  have hin12 : ∀ w ∈ u_ws RX12 TX12 31, w ∈ wsX12_addsRow := by decide +kernel
  have main : ∀ k : Nat, (∀ (t : XT) (li : Nat → Int32) (lj : Nat → Int64) (H : Heap) (locs : List Loc) (ls : Array Slot), wpX12_addsRow k 0 t li lj Q → lv_has ls 6 [(0, .ref (bd 0)), (1, .int (li 1)), (2, .int (li 2)), (3, .long (lj 3))] → Hp D A s.heap (wM cI cJ cB cZ bd t) H locs → W p l e { frames := 1, cells := 0, slots := 0, locals := 22 } s m args below meth c H locs 0 0 (MQ below (va_Qv (fun u => Q u) (fun u t => xEnd D ((fun u : XT => (wM cI cJ cB cZ bd u)) u) A t) A) args s 0 0 A) (F0 m 0 ls [])) ∧
      (∀ (t : XT) (li : Nat → Int32) (lj : Nat → Int64) (H : Heap) (locs : List Loc) (ls : Array Slot), wpX12_addsRow k 1 t li lj Q → lv_has ls 6 [(0, .ref (bd 0)), (1, .int (li 1)), (2, .int (li 2)), (3, .long (lj 3)), (5, .int (li 5))] → Hp D A s.heap (wM cI cJ cB cZ bd t) H locs → W p l e { frames := 1, cells := 0, slots := 0, locals := 22 } s m args below meth c H locs 0 0 (MQ below (va_Qv (fun u => Q u) (fun u t => xEnd D ((fun u : XT => (wM cI cJ cB cZ bd u)) u) A t) A) args s 0 0 A) (F0 m 3 ls [])) := by
    intro k
    induction k with
    | zero => exact ⟨fun _ _ _ _ _ _ hR => False.elim hR, fun _ _ _ _ _ _ hR => False.elim hR⟩
    | succ k ih =>
      refine ⟨?_, ?_⟩
      · intro t li lj H locs ls hR hl h
        have hR : wbX12_addsRow_0 (wpX12_addsRow k) k t li lj Q := hR
        unfold wbX12_addsRow_0 at hR
        refine lv_iconst (v := 0) hx hb dX12_addsRow_0 (by decide) ?_
        refine lv_istore (lv' := [(5, .int 0), (0, .ref (bd 0)), (1, .int (li 1)), (2, .int (li 2)), (3, .long (lj 3))]) hx hb dX12_addsRow_1 hl (by decide) rfl (fun ls hl => ?_)
        exact ih.2 t (uI li 5 0) lj H locs ls hR (lv_sub hl [1, 2, 3, 4, 0] rfl) h
      · intro t li lj H locs ls hR hl h
        have hR : wbX12_addsRow_1 (wpX12_addsRow k) k t li lj Q := hR
        unfold wbX12_addsRow_1 at hR
        refine lv_iload hx hb dX12_addsRow_3 (lv_at hl 4 rfl) ?_
        refine lv_aload_n hx hb dX12_addsRow_5 rfl (lv_at hl 0 rfl) ?_
        refine x_get (ci := 12) (C := RX12) (T := TX12) (N := 31) (v := .int (t.1 7)) B h hin12 0 24 rfl rfl (by decide) (by decide +kernel) rfl dX12_addsRow_6 ?_
        refine lv_icmp_ge (tgt := 42) hx hb dX12_addsRow_9 (by decide) (fun c_1 => ?_) (fun c_1 => ?_)
        · have hR := hR.1 c_1
          exact x_vret (w1 := (fun u : XT => (wM cI cJ cB cZ bd u))) t B h hr hR dX12_addsRow_42
        · have hR := hR.2 c_1
          refine lv_aload_n hx hb dX12_addsRow_12 rfl (lv_at hl 0 rfl) ?_
          refine x_get (ci := 12) (C := RX12) (T := TX12) (N := 31) (v := .ref (bd 17)) B h hin12 0 22 rfl rfl (by decide) (by decide +kernel) rfl dX12_addsRow_13 ?_
          refine lv_bipush (v := 60) hx hb dX12_addsRow_16 (by decide) ?_
          refine lv_iload_n hx hb dX12_addsRow_18 rfl (lv_at hl 1 rfl) ?_
          refine lv_imul hx hb dX12_addsRow_19 ?_
          refine lv_topi (fun v_2 ev_2 => ?_)
          have hR := hR v_2 ev_2
          refine lv_iload hx hb dX12_addsRow_20 (lv_at hl 4 rfl) ?_
          refine lv_iadd hx hb dX12_addsRow_22 ?_
          refine lv_topi (fun v_3 ev_3 => ?_)
          have hR := hR v_3 ev_3
          refine lv_dup2_11 hx hb dX12_addsRow_23 rfl rfl ?_
          obtain ⟨hb_4, hR⟩ := hR
          refine va_lald (f := (t.2.2.2 4)) hx hb B.2.1 h.1 17 1 rfl rfl hb_4 dX12_addsRow_24 ?_
          refine lv_topl (fun v_4 ev_4 => ?_)
          have hR := hR v_4 ev_4
          refine lv_lload_n hx hb dX12_addsRow_25 rfl (lv_at hl 3 rfl) ?_
          refine lv_aload_n hx hb dX12_addsRow_26 rfl (lv_at hl 0 rfl) ?_
          refine lv_iload_n hx hb dX12_addsRow_27 rfl (lv_at hl 2 rfl) ?_
          refine lv_iload hx hb dX12_addsRow_28 (lv_at hl 4 rfl) ?_
          refine x_cVLF (n := 2) (As := [.int (li 2), .int (li 5)]) (rest := [.long (lj 3), .long v_4, .int v_3, .ref (bd 17)]) B h (wkX12_cell l D cI cJ cB cZ bd k t (li 2) (li 5) _ hR) ⟨⟨_, rfl⟩, by decide +kernel, Nat.le_of_ble_eq_true rfl, Nat.le_of_ble_eq_true rfl⟩ gX12_addsRow_X12_cell (show ((wM cI cJ cB cZ bd t) : va_W)[0]? = some (_, .inr (12, _)) from rfl) rfl rfl hl.1 rfl (Nat.le_of_ble_eq_true rfl) dX12_addsRow_30 ⟨Nat.le_of_ble_eq_true rfl, Nat.le_of_ble_eq_true rfl⟩ (fun r_5 t_5 H locs hR h => ?_)
          refine lv_lmul hx hb dX12_addsRow_33 ?_
          refine lv_topl (fun v_6 ev_6 => ?_)
          have hR := hR v_6 ev_6
          refine lv_ladd hx hb dX12_addsRow_34 ?_
          refine lv_topl (fun v_7 ev_7 => ?_)
          have hR := hR v_7 ev_7
          obtain ⟨hb_8, hR⟩ := hR
          refine z_last (f := (t_5.2.2.2 4)) B h 17 1 rfl rfl hb_8 dX12_addsRow_35 (fun H locs h => ?_)
          obtain ⟨t_8, et_8⟩ : ∃ v : XT, v = sB t_5 4 (vp_updL (t_5.2.2.2 4) v_3.toNatClampNeg v_7) := ⟨_, rfl⟩
          have hR := hR t_8 et_8
          have h : Hp D A s.heap (wM cI cJ cB cZ bd t_8) H locs := by rw [et_8]; exact h
          obtain ⟨v_9, ev_9⟩ : ∃ v : Int32, v = (li 5) + Int32.ofInt 1 := ⟨_, rfl⟩
          have hR := hR v_9 ev_9
          refine lv_iinc (v := v_9) (lv' := [(5, .int v_9), (0, .ref (bd 0)), (1, .int (li 1)), (2, .int (li 2)), (3, .long (lj 3))]) hx hb dX12_addsRow_36 hl (k := 4) rfl ev_9.symm (by decide) rfl (fun ls hl => ?_)
          refine lv_goto (tgt := 3) hx hb dX12_addsRow_39 (by decide) ?_
          exact ih.2 t_8 (uI li 5 v_9) lj H locs ls hR (lv_sub hl [1, 2, 3, 4, 0] rfl) h
  exact (main k).1 t _ _ s.heap [] ls hR hl h
set_option maxRecDepth 20000 in
theorem ggX12_addsColumn_X12_cell : GoodIn wsX12_addsColumn wsX12_cell := goodIn_r _ [7, 2, 8, 9, 10, 11, 12, 13, 14, 15, 16, 17, 18, 19, 20, 21, 22, 23, 24, 25, 26, 27, 28, 29, 30, 31, 32, 33, 34, 35, 36, 37, 38] (by decide +kernel) (by decide +kernel)
set_option maxRecDepth 20000 in
theorem gX12_addsColumn_X12_cell : GoodIn wsX12_addsColumn (wsV RX12 280 RX12 yX12_cell wsX12_cell) := goodIn_app (goodIn_of _ (by decide +kernel)) ggX12_addsColumn_X12_cell
def wbX12_addsColumn_0 (rec : Nat → XT → (Nat → Int32) → (Nat → Int64) → (XT → Prop) → Prop) (k : Nat) (t : XT) (li : Nat → Int32) (lj : Nat → Int64) (Q : XT → Prop) : Prop :=
  rec 1 t (uI li 5 0) lj Q
def wbX12_addsColumn_1 (rec : Nat → XT → (Nat → Int32) → (Nat → Int64) → (XT → Prop) → Prop) (k : Nat) (t : XT) (li : Nat → Int32) (lj : Nat → Int64) (Q : XT → Prop) : Prop :=
  ((((t.1 6) : Int32) ≤ (li 5)) → Q t) ∧ (¬ (((t.1 6) : Int32) ≤ (li 5)) → (∀ v_2 : Int32, v_2 = (60 * (li 5)) → (∀ v_3 : Int32, v_3 = (v_2 + (li 1)) → (vp_in v_3 3600 ∧ (∀ v_4 : Int64, v_4 = (t.2.2.2 4) v_3.toNatClampNeg → (wqX12_cell k t (li 5) (li 2) (fun r_5 t_5 => (∀ v_6 : Int64, v_6 = ((lj 3) * r_5) → (∀ v_7 : Int64, v_7 = (v_4 + v_6) → (vp_in v_3 3600 ∧ (∀ t_8 : XT, t_8 = sB t_5 4 (vp_updL (t_5.2.2.2 4) v_3.toNatClampNeg v_7) → (∀ v_9 : Int32, v_9 = (li 5) + Int32.ofInt 1 → rec 1 t_8 (uI li 5 v_9) lj Q))))))))))))
def wpX12_addsColumn : Nat → Nat → XT → (Nat → Int32) → (Nat → Int64) → (XT → Prop) → Prop
  | 0, _, _, _, _, _ => False
  | k + 1, 0, t, li, lj, Q => wbX12_addsColumn_0 (wpX12_addsColumn k) k t li lj Q
  | k + 1, 1, t, li, lj, Q => wbX12_addsColumn_1 (wpX12_addsColumn k) k t li lj Q
  | _ + 1, _, _, _, _, _ => False
def wqX12_addsColumn (k : Nat) (t : XT) (a1 : Int32) (a2 : Int32) (a3 : Int64) (Q : XT → Prop) : Prop := wpX12_addsColumn k 0 t (uI (uI (fun _ => 0) 1 a1) 2 a2) (uI (fun _ => 0) 3 a3) Q
set_option maxHeartbeats 8000000 in
set_option maxRecDepth 100000 in
theorem wkX12_addsColumn (l : Launch) (D : va_G) (cI cJ cB cZ : ClassId) (bd : Nat → Nat) (k : Nat) (t : XT) (a1 : Int32) (a2 : Int32) (a3 : Int64) (Q : XT → Prop) (hR : wqX12_addsColumn k t a1 a2 a3 Q) : MetV l yX12_addsColumn wsX12_addsColumn 1 22 0 0 D (TYS cI cJ cB cZ) (wM cI cJ cB cZ bd t) [.ref (bd 0), .int a1, .int a2, .long a3] (fun u => Q u) (fun u : XT => (wM cI cJ cB cZ bd u)) := by
  refine x_startV (ty := .int) (cc := cX12_addsColumn) (by decide) rfl (Nat.le_of_ble_eq_true rfl) ?_
  intro p e s m args below meth c A ls B hr hnm h hl
  have hx := B.1.1
  have hb := B.1.2.1
  have hml := B.1.2.2.1
  have hts := B.1.2.2.2.2
  have hown : s.vm.findClass RX12 = some m.cls := B.1.2.2.2.1
  have hin12 : ∀ w ∈ u_ws RX12 TX12 31, w ∈ wsX12_addsColumn := by decide +kernel
  have main : ∀ k : Nat, (∀ (t : XT) (li : Nat → Int32) (lj : Nat → Int64) (H : Heap) (locs : List Loc) (ls : Array Slot), wpX12_addsColumn k 0 t li lj Q → lv_has ls 6 [(0, .ref (bd 0)), (1, .int (li 1)), (2, .int (li 2)), (3, .long (lj 3))] → Hp D A s.heap (wM cI cJ cB cZ bd t) H locs → W p l e { frames := 1, cells := 0, slots := 0, locals := 22 } s m args below meth c H locs 0 0 (MQ below (va_Qv (fun u => Q u) (fun u t => xEnd D ((fun u : XT => (wM cI cJ cB cZ bd u)) u) A t) A) args s 0 0 A) (F0 m 0 ls [])) ∧
      (∀ (t : XT) (li : Nat → Int32) (lj : Nat → Int64) (H : Heap) (locs : List Loc) (ls : Array Slot), wpX12_addsColumn k 1 t li lj Q → lv_has ls 6 [(0, .ref (bd 0)), (1, .int (li 1)), (2, .int (li 2)), (3, .long (lj 3)), (5, .int (li 5))] → Hp D A s.heap (wM cI cJ cB cZ bd t) H locs → W p l e { frames := 1, cells := 0, slots := 0, locals := 22 } s m args below meth c H locs 0 0 (MQ below (va_Qv (fun u => Q u) (fun u t => xEnd D ((fun u : XT => (wM cI cJ cB cZ bd u)) u) A t) A) args s 0 0 A) (F0 m 3 ls [])) := by
    intro k
    induction k with
    | zero => exact ⟨fun _ _ _ _ _ _ hR => False.elim hR, fun _ _ _ _ _ _ hR => False.elim hR⟩
    | succ k ih =>
      refine ⟨?_, ?_⟩
      · intro t li lj H locs ls hR hl h
        have hR : wbX12_addsColumn_0 (wpX12_addsColumn k) k t li lj Q := hR
        unfold wbX12_addsColumn_0 at hR
        refine lv_iconst (v := 0) hx hb dX12_addsColumn_0 (by decide) ?_
        refine lv_istore (lv' := [(5, .int 0), (0, .ref (bd 0)), (1, .int (li 1)), (2, .int (li 2)), (3, .long (lj 3))]) hx hb dX12_addsColumn_1 hl (by decide) rfl (fun ls hl => ?_)
        exact ih.2 t (uI li 5 0) lj H locs ls hR (lv_sub hl [1, 2, 3, 4, 0] rfl) h
      · intro t li lj H locs ls hR hl h
        have hR : wbX12_addsColumn_1 (wpX12_addsColumn k) k t li lj Q := hR
        unfold wbX12_addsColumn_1 at hR
        refine lv_iload hx hb dX12_addsColumn_3 (lv_at hl 4 rfl) ?_
        refine lv_aload_n hx hb dX12_addsColumn_5 rfl (lv_at hl 0 rfl) ?_
        refine x_get (ci := 12) (C := RX12) (T := TX12) (N := 31) (v := .int (t.1 6)) B h hin12 0 23 rfl rfl (by decide) (by decide +kernel) rfl dX12_addsColumn_6 ?_
        refine lv_icmp_ge (tgt := 42) hx hb dX12_addsColumn_9 (by decide) (fun c_1 => ?_) (fun c_1 => ?_)
        · have hR := hR.1 c_1
          exact x_vret (w1 := (fun u : XT => (wM cI cJ cB cZ bd u))) t B h hr hR dX12_addsColumn_42
        · have hR := hR.2 c_1
          refine lv_aload_n hx hb dX12_addsColumn_12 rfl (lv_at hl 0 rfl) ?_
          refine x_get (ci := 12) (C := RX12) (T := TX12) (N := 31) (v := .ref (bd 17)) B h hin12 0 22 rfl rfl (by decide) (by decide +kernel) rfl dX12_addsColumn_13 ?_
          refine lv_bipush (v := 60) hx hb dX12_addsColumn_16 (by decide) ?_
          refine lv_iload hx hb dX12_addsColumn_18 (lv_at hl 4 rfl) ?_
          refine lv_imul hx hb dX12_addsColumn_20 ?_
          refine lv_topi (fun v_2 ev_2 => ?_)
          have hR := hR v_2 ev_2
          refine lv_iload_n hx hb dX12_addsColumn_21 rfl (lv_at hl 1 rfl) ?_
          refine lv_iadd hx hb dX12_addsColumn_22 ?_
          refine lv_topi (fun v_3 ev_3 => ?_)
          have hR := hR v_3 ev_3
          refine lv_dup2_11 hx hb dX12_addsColumn_23 rfl rfl ?_
          obtain ⟨hb_4, hR⟩ := hR
          refine va_lald (f := (t.2.2.2 4)) hx hb B.2.1 h.1 17 1 rfl rfl hb_4 dX12_addsColumn_24 ?_
          refine lv_topl (fun v_4 ev_4 => ?_)
          have hR := hR v_4 ev_4
          refine lv_lload_n hx hb dX12_addsColumn_25 rfl (lv_at hl 3 rfl) ?_
          refine lv_aload_n hx hb dX12_addsColumn_26 rfl (lv_at hl 0 rfl) ?_
          refine lv_iload hx hb dX12_addsColumn_27 (lv_at hl 4 rfl) ?_
          refine lv_iload_n hx hb dX12_addsColumn_29 rfl (lv_at hl 2 rfl) ?_
          refine x_cVLF (n := 2) (As := [.int (li 5), .int (li 2)]) (rest := [.long (lj 3), .long v_4, .int v_3, .ref (bd 17)]) B h (wkX12_cell l D cI cJ cB cZ bd k t (li 5) (li 2) _ hR) ⟨⟨_, rfl⟩, by decide +kernel, Nat.le_of_ble_eq_true rfl, Nat.le_of_ble_eq_true rfl⟩ gX12_addsColumn_X12_cell (show ((wM cI cJ cB cZ bd t) : va_W)[0]? = some (_, .inr (12, _)) from rfl) rfl rfl hl.1 rfl (Nat.le_of_ble_eq_true rfl) dX12_addsColumn_30 ⟨Nat.le_of_ble_eq_true rfl, Nat.le_of_ble_eq_true rfl⟩ (fun r_5 t_5 H locs hR h => ?_)
          refine lv_lmul hx hb dX12_addsColumn_33 ?_
          refine lv_topl (fun v_6 ev_6 => ?_)
          have hR := hR v_6 ev_6
          refine lv_ladd hx hb dX12_addsColumn_34 ?_
          refine lv_topl (fun v_7 ev_7 => ?_)
          have hR := hR v_7 ev_7
          obtain ⟨hb_8, hR⟩ := hR
          refine z_last (f := (t_5.2.2.2 4)) B h 17 1 rfl rfl hb_8 dX12_addsColumn_35 (fun H locs h => ?_)
          obtain ⟨t_8, et_8⟩ : ∃ v : XT, v = sB t_5 4 (vp_updL (t_5.2.2.2 4) v_3.toNatClampNeg v_7) := ⟨_, rfl⟩
          have hR := hR t_8 et_8
          have h : Hp D A s.heap (wM cI cJ cB cZ bd t_8) H locs := by rw [et_8]; exact h
          obtain ⟨v_9, ev_9⟩ : ∃ v : Int32, v = (li 5) + Int32.ofInt 1 := ⟨_, rfl⟩
          have hR := hR v_9 ev_9
          refine lv_iinc (v := v_9) (lv' := [(5, .int v_9), (0, .ref (bd 0)), (1, .int (li 1)), (2, .int (li 2)), (3, .long (lj 3))]) hx hb dX12_addsColumn_36 hl (k := 4) rfl ev_9.symm (by decide) rfl (fun ls hl => ?_)
          refine lv_goto (tgt := 3) hx hb dX12_addsColumn_39 (by decide) ?_
          exact ih.2 t_8 (uI li 5 v_9) lj H locs ls hR (lv_sub hl [1, 2, 3, 4, 0] rfl) h
  exact (main k).1 t _ _ s.heap [] ls hR hl h
set_option maxRecDepth 20000 in
theorem ggX12_clears_X12_cell : GoodIn wsX12_clears wsX12_cell := goodIn_r _ [7, 8, 17, 18, 19, 20, 21, 22, 23, 24, 25, 26, 27, 28, 29, 30, 31, 32, 33, 34, 35, 36, 37, 38, 39, 40, 41, 42, 43, 44, 45, 46, 47] (by decide +kernel) (by decide +kernel)
set_option maxRecDepth 20000 in
theorem gX12_clears_X12_cell : GoodIn wsX12_clears (wsV RX12 280 RX12 yX12_cell wsX12_cell) := goodIn_app (goodIn_of _ (by decide +kernel)) ggX12_clears_X12_cell
set_option maxRecDepth 20000 in
theorem ggX12_clears_X12_addsRow : GoodIn wsX12_clears wsX12_addsRow := goodIn_r _ [12, 2, 8, 3, 4, 5, 6, 7, 17, 18, 19, 20, 21, 22, 23, 24, 25, 26, 27, 28, 29, 30, 31, 32, 33, 34, 35, 36, 37, 38, 39, 40, 41, 42, 43, 44, 45, 46, 47] (by decide +kernel) (by decide +kernel)
set_option maxRecDepth 20000 in
theorem gX12_clears_X12_addsRow : GoodIn wsX12_clears (wsV RX12 295 RX12 yX12_addsRow wsX12_addsRow) := goodIn_app (goodIn_of _ (by decide +kernel)) ggX12_clears_X12_addsRow
set_option maxRecDepth 20000 in
theorem ggX12_clears_X12_addsColumn : GoodIn wsX12_clears wsX12_addsColumn := goodIn_r _ [16, 1, 8, 3, 4, 5, 6, 7, 17, 18, 19, 20, 21, 22, 23, 24, 25, 26, 27, 28, 29, 30, 31, 32, 33, 34, 35, 36, 37, 38, 39, 40, 41, 42, 43, 44, 45, 46, 47] (by decide +kernel) (by decide +kernel)
set_option maxRecDepth 20000 in
theorem gX12_clears_X12_addsColumn : GoodIn wsX12_clears (wsV RX12 299 RX12 yX12_addsColumn wsX12_addsColumn) := goodIn_app (goodIn_of _ (by decide +kernel)) ggX12_clears_X12_addsColumn
def wbX12_clears_0 (rec : Nat → XT → (Nat → Int32) → (Nat → Int64) → (Int32 → XT → Prop) → Prop) (k : Nat) (t : XT) (li : Nat → Int32) (lj : Nat → Int64) (Q : Int32 → XT → Prop) : Prop :=
  (∀ v_1 : Int32, v_1 = ((li 1) + 1) → rec 1 t (uI (uI li 2 1) 3 v_1) lj Q)
def wbX12_clears_1 (rec : Nat → XT → (Nat → Int32) → (Nat → Int64) → (Int32 → XT → Prop) → Prop) (k : Nat) (t : XT) (li : Nat → Int32) (lj : Nat → Int64) (Q : Int32 → XT → Prop) : Prop :=
  ((((t.1 6) : Int32) ≤ (li 3)) → (∀ v_3 : Int32, v_3 = ((li 1) + 1) → rec 4 t (uI li 3 v_3) lj Q)) ∧ (¬ (((t.1 6) : Int32) ≤ (li 3)) → (wqX12_cell k t (li 3) (li 1) (fun r_4 t_4 => (wqX12_cell k t_4 (li 1) (li 1) (fun r_5 t_5 => ((¬ r_5 = 0) ∧ (∀ v_6 : Int64, v_6 = (r_4 / r_5) → (∀ v_7 : Int64, v_7 = (-v_6) → (wqX12_addsRow k t_5 (li 3) (li 1) v_7 (fun t_8 => (((li 2) = 0) → rec 2 t_8 li lj Q) ∧ (¬ ((li 2) = 0) → (wqX12_cell k t_8 (li 3) (li 1) (fun r_10 t_10 => (∀ v_11 : Int32, v_11 = (lg_cmp r_10 0) → ((¬ v_11 = 0) → rec 2 t_10 li lj Q) ∧ ((v_11 = 0) → rec 3 t_10 (uI li 100 1) lj Q)))))))))))))))
def wbX12_clears_2 (rec : Nat → XT → (Nat → Int32) → (Nat → Int64) → (Int32 → XT → Prop) → Prop) (k : Nat) (t : XT) (li : Nat → Int32) (lj : Nat → Int64) (Q : Int32 → XT → Prop) : Prop :=
  rec 3 t (uI li 100 0) lj Q
def wbX12_clears_3 (rec : Nat → XT → (Nat → Int32) → (Nat → Int64) → (Int32 → XT → Prop) → Prop) (k : Nat) (t : XT) (li : Nat → Int32) (lj : Nat → Int64) (Q : Int32 → XT → Prop) : Prop :=
  (∀ v_13 : Int32, v_13 = (li 3) + Int32.ofInt 1 → rec 1 t (uI (uI li 2 (li 100)) 3 v_13) lj Q)
def wbX12_clears_4 (rec : Nat → XT → (Nat → Int32) → (Nat → Int64) → (Int32 → XT → Prop) → Prop) (k : Nat) (t : XT) (li : Nat → Int32) (lj : Nat → Int64) (Q : Int32 → XT → Prop) : Prop :=
  ((((t.1 7) : Int32) ≤ (li 3)) → (((li 2) = 0 ∨ (li 2) = 1) ∧ Q (li 2) t)) ∧ (¬ (((t.1 7) : Int32) ≤ (li 3)) → (wqX12_cell k t (li 1) (li 3) (fun r_16 t_16 => (wqX12_cell k t_16 (li 1) (li 1) (fun r_17 t_17 => ((¬ r_17 = 0) ∧ (∀ v_18 : Int64, v_18 = (r_16 / r_17) → (∀ v_19 : Int64, v_19 = (-v_18) → (wqX12_addsColumn k t_17 (li 3) (li 1) v_19 (fun t_20 => (((li 2) = 0) → rec 5 t_20 li lj Q) ∧ (¬ ((li 2) = 0) → (wqX12_cell k t_20 (li 1) (li 3) (fun r_22 t_22 => (∀ v_23 : Int32, v_23 = (lg_cmp r_22 0) → ((¬ v_23 = 0) → rec 5 t_22 li lj Q) ∧ ((v_23 = 0) → rec 6 t_22 (uI li 100 1) lj Q)))))))))))))))
def wbX12_clears_5 (rec : Nat → XT → (Nat → Int32) → (Nat → Int64) → (Int32 → XT → Prop) → Prop) (k : Nat) (t : XT) (li : Nat → Int32) (lj : Nat → Int64) (Q : Int32 → XT → Prop) : Prop :=
  rec 6 t (uI li 100 0) lj Q
def wbX12_clears_6 (rec : Nat → XT → (Nat → Int32) → (Nat → Int64) → (Int32 → XT → Prop) → Prop) (k : Nat) (t : XT) (li : Nat → Int32) (lj : Nat → Int64) (Q : Int32 → XT → Prop) : Prop :=
  (∀ v_25 : Int32, v_25 = (li 3) + Int32.ofInt 1 → rec 4 t (uI (uI li 2 (li 100)) 3 v_25) lj Q)
def wpX12_clears : Nat → Nat → XT → (Nat → Int32) → (Nat → Int64) → (Int32 → XT → Prop) → Prop
  | 0, _, _, _, _, _ => False
  | k + 1, 0, t, li, lj, Q => wbX12_clears_0 (wpX12_clears k) k t li lj Q
  | k + 1, 1, t, li, lj, Q => wbX12_clears_1 (wpX12_clears k) k t li lj Q
  | k + 1, 2, t, li, lj, Q => wbX12_clears_2 (wpX12_clears k) k t li lj Q
  | k + 1, 3, t, li, lj, Q => wbX12_clears_3 (wpX12_clears k) k t li lj Q
  | k + 1, 4, t, li, lj, Q => wbX12_clears_4 (wpX12_clears k) k t li lj Q
  | k + 1, 5, t, li, lj, Q => wbX12_clears_5 (wpX12_clears k) k t li lj Q
  | k + 1, 6, t, li, lj, Q => wbX12_clears_6 (wpX12_clears k) k t li lj Q
  | _ + 1, _, _, _, _, _ => False
def wqX12_clears (k : Nat) (t : XT) (a1 : Int32) (Q : Int32 → XT → Prop) : Prop := wpX12_clears k 0 t (uI (fun _ => 0) 1 a1) (fun _ => 0) Q
set_option maxHeartbeats 8000000 in
set_option maxRecDepth 100000 in
theorem wkX12_clears (l : Launch) (D : va_G) (cI cJ cB cZ : ClassId) (bd : Nat → Nat) (k : Nat) (t : XT) (a1 : Int32) (Q : Int32 → XT → Prop) (hR : wqX12_clears k t a1 Q) : MetI l yX12_clears wsX12_clears 2 47 0 0 D (TYS cI cJ cB cZ) (wM cI cJ cB cZ bd t) [.ref (bd 0), .int a1] (fun r u => Q r u) (fun u : XT => (wM cI cJ cB cZ bd u)) := by
  refine x_startI (ty := .boolean) (cc := cX12_clears) (by decide) rfl (Nat.le_of_ble_eq_true rfl) ?_
  intro p e s m args below meth c A ls B hr hnm h hl
  have hx := B.1.1
  have hb := B.1.2.1
  have hml := B.1.2.2.1
  have hts := B.1.2.2.2.2
  have hown : s.vm.findClass RX12 = some m.cls := B.1.2.2.2.1
  have hin12 : ∀ w ∈ u_ws RX12 TX12 31, w ∈ wsX12_clears := by decide +kernel
  have main : ∀ k : Nat, (∀ (t : XT) (li : Nat → Int32) (lj : Nat → Int64) (H : Heap) (locs : List Loc) (ls : Array Slot), wpX12_clears k 0 t li lj Q → lv_has ls 4 [(0, .ref (bd 0)), (1, .int (li 1))] → Hp D A s.heap (wM cI cJ cB cZ bd t) H locs → W p l e { frames := 2, cells := 0, slots := 0, locals := 47 } s m args below meth c H locs 0 0 (MQ below (va_Qi (fun r u => Q r u) (fun u t => xEnd D ((fun u : XT => (wM cI cJ cB cZ bd u)) u) A t) A) args s 0 0 A) (F0 m 0 ls [])) ∧
      (∀ (t : XT) (li : Nat → Int32) (lj : Nat → Int64) (H : Heap) (locs : List Loc) (ls : Array Slot), wpX12_clears k 1 t li lj Q → lv_has ls 4 [(0, .ref (bd 0)), (1, .int (li 1)), (2, .int (li 2)), (3, .int (li 3))] → Hp D A s.heap (wM cI cJ cB cZ bd t) H locs → W p l e { frames := 2, cells := 0, slots := 0, locals := 47 } s m args below meth c H locs 0 0 (MQ below (va_Qi (fun r u => Q r u) (fun u t => xEnd D ((fun u : XT => (wM cI cJ cB cZ bd u)) u) A t) A) args s 0 0 A) (F0 m 6 ls [])) ∧
      (∀ (t : XT) (li : Nat → Int32) (lj : Nat → Int64) (H : Heap) (locs : List Loc) (ls : Array Slot), wpX12_clears k 2 t li lj Q → lv_has ls 4 [(0, .ref (bd 0)), (1, .int (li 1)), (2, .int (li 2)), (3, .int (li 3))] → Hp D A s.heap (wM cI cJ cB cZ bd t) H locs → W p l e { frames := 2, cells := 0, slots := 0, locals := 47 } s m args below meth c H locs 0 0 (MQ below (va_Qi (fun r u => Q r u) (fun u t => xEnd D ((fun u : XT => (wM cI cJ cB cZ bd u)) u) A t) A) args s 0 0 A) (F0 m 53 ls [])) ∧
      (∀ (t : XT) (li : Nat → Int32) (lj : Nat → Int64) (H : Heap) (locs : List Loc) (ls : Array Slot), wpX12_clears k 3 t li lj Q → lv_has ls 4 [(0, .ref (bd 0)), (1, .int (li 1)), (2, .int (li 2)), (3, .int (li 3))] → Hp D A s.heap (wM cI cJ cB cZ bd t) H locs → W p l e { frames := 2, cells := 0, slots := 0, locals := 47 } s m args below meth c H locs 0 0 (MQ below (va_Qi (fun r u => Q r u) (fun u t => xEnd D ((fun u : XT => (wM cI cJ cB cZ bd u)) u) A t) A) args s 0 0 A) (F0 m 54 ls [.int (li 100)])) ∧
      (∀ (t : XT) (li : Nat → Int32) (lj : Nat → Int64) (H : Heap) (locs : List Loc) (ls : Array Slot), wpX12_clears k 4 t li lj Q → lv_has ls 4 [(0, .ref (bd 0)), (1, .int (li 1)), (2, .int (li 2)), (3, .int (li 3))] → Hp D A s.heap (wM cI cJ cB cZ bd t) H locs → W p l e { frames := 2, cells := 0, slots := 0, locals := 47 } s m args below meth c H locs 0 0 (MQ below (va_Qi (fun r u => Q r u) (fun u t => xEnd D ((fun u : XT => (wM cI cJ cB cZ bd u)) u) A t) A) args s 0 0 A) (F0 m 65 ls [])) ∧
      (∀ (t : XT) (li : Nat → Int32) (lj : Nat → Int64) (H : Heap) (locs : List Loc) (ls : Array Slot), wpX12_clears k 5 t li lj Q → lv_has ls 4 [(0, .ref (bd 0)), (1, .int (li 1)), (2, .int (li 2)), (3, .int (li 3))] → Hp D A s.heap (wM cI cJ cB cZ bd t) H locs → W p l e { frames := 2, cells := 0, slots := 0, locals := 47 } s m args below meth c H locs 0 0 (MQ below (va_Qi (fun r u => Q r u) (fun u t => xEnd D ((fun u : XT => (wM cI cJ cB cZ bd u)) u) A t) A) args s 0 0 A) (F0 m 112 ls [])) ∧
      (∀ (t : XT) (li : Nat → Int32) (lj : Nat → Int64) (H : Heap) (locs : List Loc) (ls : Array Slot), wpX12_clears k 6 t li lj Q → lv_has ls 4 [(0, .ref (bd 0)), (1, .int (li 1)), (2, .int (li 2)), (3, .int (li 3))] → Hp D A s.heap (wM cI cJ cB cZ bd t) H locs → W p l e { frames := 2, cells := 0, slots := 0, locals := 47 } s m args below meth c H locs 0 0 (MQ below (va_Qi (fun r u => Q r u) (fun u t => xEnd D ((fun u : XT => (wM cI cJ cB cZ bd u)) u) A t) A) args s 0 0 A) (F0 m 113 ls [.int (li 100)])) := by
    intro k
    induction k with
    | zero => exact ⟨fun _ _ _ _ _ _ hR => False.elim hR, fun _ _ _ _ _ _ hR => False.elim hR, fun _ _ _ _ _ _ hR => False.elim hR, fun _ _ _ _ _ _ hR => False.elim hR, fun _ _ _ _ _ _ hR => False.elim hR, fun _ _ _ _ _ _ hR => False.elim hR, fun _ _ _ _ _ _ hR => False.elim hR⟩
    | succ k ih =>
      refine ⟨?_, ?_, ?_, ?_, ?_, ?_, ?_⟩
      · intro t li lj H locs ls hR hl h
        have hR : wbX12_clears_0 (wpX12_clears k) k t li lj Q := hR
        unfold wbX12_clears_0 at hR
        refine lv_iconst (v := 1) hx hb dX12_clears_0 (by decide) ?_
        refine lv_istore_n (lv' := [(2, .int 1), (0, .ref (bd 0)), (1, .int (li 1))]) hx hb dX12_clears_1 rfl hl (by decide) rfl (fun ls hl => ?_)
        refine lv_iload_n hx hb dX12_clears_2 rfl (lv_at hl 2 rfl) ?_
        refine lv_iconst (v := 1) hx hb dX12_clears_3 (by decide) ?_
        refine lv_iadd hx hb dX12_clears_4 ?_
        refine lv_topi (fun v_1 ev_1 => ?_)
        have hR := hR v_1 ev_1
        refine lv_istore_n (lv' := [(3, .int v_1), (2, .int 1), (0, .ref (bd 0)), (1, .int (li 1))]) hx hb dX12_clears_5 rfl hl (by decide) rfl (fun ls hl => ?_)
        exact ih.2.1 t (uI (uI li 2 1) 3 v_1) lj H locs ls hR (lv_sub hl [2, 3, 1, 0] rfl) h
      · intro t li lj H locs ls hR hl h
        have hR : wbX12_clears_1 (wpX12_clears k) k t li lj Q := hR
        unfold wbX12_clears_1 at hR
        refine lv_iload_n hx hb dX12_clears_6 rfl (lv_at hl 3 rfl) ?_
        refine lv_aload_n hx hb dX12_clears_7 rfl (lv_at hl 0 rfl) ?_
        refine x_get (ci := 12) (C := RX12) (T := TX12) (N := 31) (v := .int (t.1 6)) B h hin12 0 23 rfl rfl (by decide) (by decide +kernel) rfl dX12_clears_8 ?_
        refine lv_icmp_ge (tgt := 61) hx hb dX12_clears_11 (by decide) (fun c_2 => ?_) (fun c_2 => ?_)
        · have hR := hR.1 c_2
          refine lv_iload_n hx hb dX12_clears_61 rfl (lv_at hl 1 rfl) ?_
          refine lv_iconst (v := 1) hx hb dX12_clears_62 (by decide) ?_
          refine lv_iadd hx hb dX12_clears_63 ?_
          refine lv_topi (fun v_3 ev_3 => ?_)
          have hR := hR v_3 ev_3
          refine lv_istore_n (lv' := [(3, .int v_3), (0, .ref (bd 0)), (1, .int (li 1)), (2, .int (li 2))]) hx hb dX12_clears_64 rfl hl (by decide) rfl (fun ls hl => ?_)
          exact ih.2.2.2.2.1 t (uI li 3 v_3) lj H locs ls hR (lv_sub hl [1, 2, 3, 0] rfl) h
        · have hR := hR.2 c_2
          refine lv_aload_n hx hb dX12_clears_14 rfl (lv_at hl 0 rfl) ?_
          refine lv_iload_n hx hb dX12_clears_15 rfl (lv_at hl 3 rfl) ?_
          refine lv_iload_n hx hb dX12_clears_16 rfl (lv_at hl 1 rfl) ?_
          refine lv_aload_n hx hb dX12_clears_17 rfl (lv_at hl 0 rfl) ?_
          refine lv_iload_n hx hb dX12_clears_18 rfl (lv_at hl 3 rfl) ?_
          refine lv_iload_n hx hb dX12_clears_19 rfl (lv_at hl 1 rfl) ?_
          refine x_cVLF (n := 2) (As := [.int (li 3), .int (li 1)]) (rest := [.int (li 1), .int (li 3), .ref (bd 0)]) B h (wkX12_cell l D cI cJ cB cZ bd k t (li 3) (li 1) _ hR) ⟨⟨_, rfl⟩, by decide +kernel, Nat.le_of_ble_eq_true rfl, Nat.le_of_ble_eq_true rfl⟩ gX12_clears_X12_cell (show ((wM cI cJ cB cZ bd t) : va_W)[0]? = some (_, .inr (12, _)) from rfl) rfl rfl hl.1 rfl (Nat.le_of_ble_eq_true rfl) dX12_clears_20 ⟨Nat.le_of_ble_eq_true rfl, Nat.le_of_ble_eq_true rfl⟩ (fun r_4 t_4 H locs hR h => ?_)
          refine lv_aload_n hx hb dX12_clears_23 rfl (lv_at hl 0 rfl) ?_
          refine lv_iload_n hx hb dX12_clears_24 rfl (lv_at hl 1 rfl) ?_
          refine lv_iload_n hx hb dX12_clears_25 rfl (lv_at hl 1 rfl) ?_
          refine x_cVLF (n := 2) (As := [.int (li 1), .int (li 1)]) (rest := [.long r_4, .int (li 1), .int (li 3), .ref (bd 0)]) B h (wkX12_cell l D cI cJ cB cZ bd k t_4 (li 1) (li 1) _ hR) ⟨⟨_, rfl⟩, by decide +kernel, Nat.le_of_ble_eq_true rfl, Nat.le_of_ble_eq_true rfl⟩ gX12_clears_X12_cell (show ((wM cI cJ cB cZ bd t_4) : va_W)[0]? = some (_, .inr (12, _)) from rfl) rfl rfl hl.1 rfl (Nat.le_of_ble_eq_true rfl) dX12_clears_26 ⟨Nat.le_of_ble_eq_true rfl, Nat.le_of_ble_eq_true rfl⟩ (fun r_5 t_5 H locs hR h => ?_)
          obtain ⟨hd_6, hR⟩ := hR
          refine lv_ldiv hx hb dX12_clears_29 hd_6 ?_
          refine lv_topl (fun v_6 ev_6 => ?_)
          have hR := hR v_6 ev_6
          refine lv_lneg hx hb dX12_clears_30 ?_
          refine lv_topl (fun v_7 ev_7 => ?_)
          have hR := hR v_7 ev_7
          refine x_cVVF (n := 3) (As := [.int (li 3), .int (li 1), .long v_7]) (rest := []) B h (wkX12_addsRow l D cI cJ cB cZ bd k t_5 (li 3) (li 1) v_7 _ hR) ⟨⟨_, rfl⟩, by decide +kernel, Nat.le_of_ble_eq_true rfl, Nat.le_of_ble_eq_true rfl⟩ gX12_clears_X12_addsRow (show ((wM cI cJ cB cZ bd t_5) : va_W)[0]? = some (_, .inr (12, _)) from rfl) rfl rfl hl.1 rfl (Nat.le_of_ble_eq_true rfl) dX12_clears_31 ⟨Nat.le_of_ble_eq_true rfl, Nat.le_of_ble_eq_true rfl⟩ (fun t_8 H locs hR h => ?_)
          refine lv_iload_n hx hb dX12_clears_34 rfl (lv_at hl 2 rfl) ?_
          refine lv_if_eq (tgt := 53) hx hb dX12_clears_35 (by decide) (fun c_9 => ?_) (fun c_9 => ?_)
          · have hR := hR.1 c_9
            exact ih.2.2.1 t_8 li lj H locs ls hR (lv_sub hl [0, 1, 2, 3] rfl) h
          · have hR := hR.2 c_9
            refine lv_aload_n hx hb dX12_clears_38 rfl (lv_at hl 0 rfl) ?_
            refine lv_iload_n hx hb dX12_clears_39 rfl (lv_at hl 3 rfl) ?_
            refine lv_iload_n hx hb dX12_clears_40 rfl (lv_at hl 1 rfl) ?_
            refine x_cVLF (n := 2) (As := [.int (li 3), .int (li 1)]) (rest := []) B h (wkX12_cell l D cI cJ cB cZ bd k t_8 (li 3) (li 1) _ hR) ⟨⟨_, rfl⟩, by decide +kernel, Nat.le_of_ble_eq_true rfl, Nat.le_of_ble_eq_true rfl⟩ gX12_clears_X12_cell (show ((wM cI cJ cB cZ bd t_8) : va_W)[0]? = some (_, .inr (12, _)) from rfl) rfl rfl hl.1 rfl (Nat.le_of_ble_eq_true rfl) dX12_clears_41 ⟨Nat.le_of_ble_eq_true rfl, Nat.le_of_ble_eq_true rfl⟩ (fun r_10 t_10 H locs hR h => ?_)
            refine lv_lconst (v := 0) hx hb dX12_clears_44 (by decide) ?_
            refine W.lcmp hx hb dX12_clears_45 ?_
            refine lv_topi (fun v_11 ev_11 => ?_)
            have hR := hR v_11 ev_11
            refine lv_if_ne (tgt := 53) hx hb dX12_clears_46 (by decide) (fun c_12 => ?_) (fun c_12 => ?_)
            · have hR := hR.1 c_12
              exact ih.2.2.1 t_10 li lj H locs ls hR (lv_sub hl [0, 1, 2, 3] rfl) h
            · have hR := hR.2 c_12
              refine lv_iconst (v := 1) hx hb dX12_clears_49 (by decide) ?_
              refine lv_goto (tgt := 54) hx hb dX12_clears_50 (by decide) ?_
              exact ih.2.2.2.1 t_10 (uI li 100 1) lj H locs ls hR (lv_sub hl [0, 1, 2, 3] rfl) h
      · intro t li lj H locs ls hR hl h
        have hR : wbX12_clears_2 (wpX12_clears k) k t li lj Q := hR
        unfold wbX12_clears_2 at hR
        refine lv_iconst (v := 0) hx hb dX12_clears_53 (by decide) ?_
        exact ih.2.2.2.1 t (uI li 100 0) lj H locs ls hR (lv_sub hl [0, 1, 2, 3] rfl) h
      · intro t li lj H locs ls hR hl h
        have hR : wbX12_clears_3 (wpX12_clears k) k t li lj Q := hR
        unfold wbX12_clears_3 at hR
        refine lv_istore_n (lv' := [(2, .int (li 100)), (0, .ref (bd 0)), (1, .int (li 1)), (3, .int (li 3))]) hx hb dX12_clears_54 rfl hl (by decide) rfl (fun ls hl => ?_)
        obtain ⟨v_13, ev_13⟩ : ∃ v : Int32, v = (li 3) + Int32.ofInt 1 := ⟨_, rfl⟩
        have hR := hR v_13 ev_13
        refine lv_iinc (v := v_13) (lv' := [(3, .int v_13), (2, .int (li 100)), (0, .ref (bd 0)), (1, .int (li 1))]) hx hb dX12_clears_55 hl (k := 3) rfl ev_13.symm (by decide) rfl (fun ls hl => ?_)
        refine lv_goto (tgt := 6) hx hb dX12_clears_58 (by decide) ?_
        exact ih.2.1 t (uI (uI li 2 (li 100)) 3 v_13) lj H locs ls hR (lv_sub hl [2, 3, 1, 0] rfl) h
      · intro t li lj H locs ls hR hl h
        have hR : wbX12_clears_4 (wpX12_clears k) k t li lj Q := hR
        unfold wbX12_clears_4 at hR
        refine lv_iload_n hx hb dX12_clears_65 rfl (lv_at hl 3 rfl) ?_
        refine lv_aload_n hx hb dX12_clears_66 rfl (lv_at hl 0 rfl) ?_
        refine x_get (ci := 12) (C := RX12) (T := TX12) (N := 31) (v := .int (t.1 7)) B h hin12 0 24 rfl rfl (by decide) (by decide +kernel) rfl dX12_clears_67 ?_
        refine lv_icmp_ge (tgt := 120) hx hb dX12_clears_70 (by decide) (fun c_14 => ?_) (fun c_14 => ?_)
        · have hR := hR.1 c_14
          refine lv_iload_n hx hb dX12_clears_120 rfl (lv_at hl 2 rfl) ?_
          obtain ⟨hz_15, hR⟩ := hR
          exact x_iret (w1 := (fun u : XT => (wM cI cJ cB cZ bd u))) t B h hr (by rcases hz_15 with h_ | h_ <;> rw [h_] <;> rfl) hR dX12_clears_121
        · have hR := hR.2 c_14
          refine lv_aload_n hx hb dX12_clears_73 rfl (lv_at hl 0 rfl) ?_
          refine lv_iload_n hx hb dX12_clears_74 rfl (lv_at hl 3 rfl) ?_
          refine lv_iload_n hx hb dX12_clears_75 rfl (lv_at hl 1 rfl) ?_
          refine lv_aload_n hx hb dX12_clears_76 rfl (lv_at hl 0 rfl) ?_
          refine lv_iload_n hx hb dX12_clears_77 rfl (lv_at hl 1 rfl) ?_
          refine lv_iload_n hx hb dX12_clears_78 rfl (lv_at hl 3 rfl) ?_
          refine x_cVLF (n := 2) (As := [.int (li 1), .int (li 3)]) (rest := [.int (li 1), .int (li 3), .ref (bd 0)]) B h (wkX12_cell l D cI cJ cB cZ bd k t (li 1) (li 3) _ hR) ⟨⟨_, rfl⟩, by decide +kernel, Nat.le_of_ble_eq_true rfl, Nat.le_of_ble_eq_true rfl⟩ gX12_clears_X12_cell (show ((wM cI cJ cB cZ bd t) : va_W)[0]? = some (_, .inr (12, _)) from rfl) rfl rfl hl.1 rfl (Nat.le_of_ble_eq_true rfl) dX12_clears_79 ⟨Nat.le_of_ble_eq_true rfl, Nat.le_of_ble_eq_true rfl⟩ (fun r_16 t_16 H locs hR h => ?_)
          refine lv_aload_n hx hb dX12_clears_82 rfl (lv_at hl 0 rfl) ?_
          refine lv_iload_n hx hb dX12_clears_83 rfl (lv_at hl 1 rfl) ?_
          refine lv_iload_n hx hb dX12_clears_84 rfl (lv_at hl 1 rfl) ?_
          refine x_cVLF (n := 2) (As := [.int (li 1), .int (li 1)]) (rest := [.long r_16, .int (li 1), .int (li 3), .ref (bd 0)]) B h (wkX12_cell l D cI cJ cB cZ bd k t_16 (li 1) (li 1) _ hR) ⟨⟨_, rfl⟩, by decide +kernel, Nat.le_of_ble_eq_true rfl, Nat.le_of_ble_eq_true rfl⟩ gX12_clears_X12_cell (show ((wM cI cJ cB cZ bd t_16) : va_W)[0]? = some (_, .inr (12, _)) from rfl) rfl rfl hl.1 rfl (Nat.le_of_ble_eq_true rfl) dX12_clears_85 ⟨Nat.le_of_ble_eq_true rfl, Nat.le_of_ble_eq_true rfl⟩ (fun r_17 t_17 H locs hR h => ?_)
          obtain ⟨hd_18, hR⟩ := hR
          refine lv_ldiv hx hb dX12_clears_88 hd_18 ?_
          refine lv_topl (fun v_18 ev_18 => ?_)
          have hR := hR v_18 ev_18
          refine lv_lneg hx hb dX12_clears_89 ?_
          refine lv_topl (fun v_19 ev_19 => ?_)
          have hR := hR v_19 ev_19
          refine x_cVVF (n := 3) (As := [.int (li 3), .int (li 1), .long v_19]) (rest := []) B h (wkX12_addsColumn l D cI cJ cB cZ bd k t_17 (li 3) (li 1) v_19 _ hR) ⟨⟨_, rfl⟩, by decide +kernel, Nat.le_of_ble_eq_true rfl, Nat.le_of_ble_eq_true rfl⟩ gX12_clears_X12_addsColumn (show ((wM cI cJ cB cZ bd t_17) : va_W)[0]? = some (_, .inr (12, _)) from rfl) rfl rfl hl.1 rfl (Nat.le_of_ble_eq_true rfl) dX12_clears_90 ⟨Nat.le_of_ble_eq_true rfl, Nat.le_of_ble_eq_true rfl⟩ (fun t_20 H locs hR h => ?_)
          refine lv_iload_n hx hb dX12_clears_93 rfl (lv_at hl 2 rfl) ?_
          refine lv_if_eq (tgt := 112) hx hb dX12_clears_94 (by decide) (fun c_21 => ?_) (fun c_21 => ?_)
          · have hR := hR.1 c_21
            exact ih.2.2.2.2.2.1 t_20 li lj H locs ls hR (lv_sub hl [0, 1, 2, 3] rfl) h
          · have hR := hR.2 c_21
            refine lv_aload_n hx hb dX12_clears_97 rfl (lv_at hl 0 rfl) ?_
            refine lv_iload_n hx hb dX12_clears_98 rfl (lv_at hl 1 rfl) ?_
            refine lv_iload_n hx hb dX12_clears_99 rfl (lv_at hl 3 rfl) ?_
            refine x_cVLF (n := 2) (As := [.int (li 1), .int (li 3)]) (rest := []) B h (wkX12_cell l D cI cJ cB cZ bd k t_20 (li 1) (li 3) _ hR) ⟨⟨_, rfl⟩, by decide +kernel, Nat.le_of_ble_eq_true rfl, Nat.le_of_ble_eq_true rfl⟩ gX12_clears_X12_cell (show ((wM cI cJ cB cZ bd t_20) : va_W)[0]? = some (_, .inr (12, _)) from rfl) rfl rfl hl.1 rfl (Nat.le_of_ble_eq_true rfl) dX12_clears_100 ⟨Nat.le_of_ble_eq_true rfl, Nat.le_of_ble_eq_true rfl⟩ (fun r_22 t_22 H locs hR h => ?_)
            refine lv_lconst (v := 0) hx hb dX12_clears_103 (by decide) ?_
            refine W.lcmp hx hb dX12_clears_104 ?_
            refine lv_topi (fun v_23 ev_23 => ?_)
            have hR := hR v_23 ev_23
            refine lv_if_ne (tgt := 112) hx hb dX12_clears_105 (by decide) (fun c_24 => ?_) (fun c_24 => ?_)
            · have hR := hR.1 c_24
              exact ih.2.2.2.2.2.1 t_22 li lj H locs ls hR (lv_sub hl [0, 1, 2, 3] rfl) h
            · have hR := hR.2 c_24
              refine lv_iconst (v := 1) hx hb dX12_clears_108 (by decide) ?_
              refine lv_goto (tgt := 113) hx hb dX12_clears_109 (by decide) ?_
              exact ih.2.2.2.2.2.2 t_22 (uI li 100 1) lj H locs ls hR (lv_sub hl [0, 1, 2, 3] rfl) h
      · intro t li lj H locs ls hR hl h
        have hR : wbX12_clears_5 (wpX12_clears k) k t li lj Q := hR
        unfold wbX12_clears_5 at hR
        refine lv_iconst (v := 0) hx hb dX12_clears_112 (by decide) ?_
        exact ih.2.2.2.2.2.2 t (uI li 100 0) lj H locs ls hR (lv_sub hl [0, 1, 2, 3] rfl) h
      · intro t li lj H locs ls hR hl h
        have hR : wbX12_clears_6 (wpX12_clears k) k t li lj Q := hR
        unfold wbX12_clears_6 at hR
        refine lv_istore_n (lv' := [(2, .int (li 100)), (0, .ref (bd 0)), (1, .int (li 1)), (3, .int (li 3))]) hx hb dX12_clears_113 rfl hl (by decide) rfl (fun ls hl => ?_)
        obtain ⟨v_25, ev_25⟩ : ∃ v : Int32, v = (li 3) + Int32.ofInt 1 := ⟨_, rfl⟩
        have hR := hR v_25 ev_25
        refine lv_iinc (v := v_25) (lv' := [(3, .int v_25), (2, .int (li 100)), (0, .ref (bd 0)), (1, .int (li 1))]) hx hb dX12_clears_114 hl (k := 3) rfl ev_25.symm (by decide) rfl (fun ls hl => ?_)
        refine lv_goto (tgt := 65) hx hb dX12_clears_117 (by decide) ?_
        exact ih.2.2.2.2.1 t (uI (uI li 2 (li 100)) 3 v_25) lj H locs ls hR (lv_sub hl [2, 3, 1, 0] rfl) h
  exact (main k).1 t _ _ s.heap [] ls hR hl h
