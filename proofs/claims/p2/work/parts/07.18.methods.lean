set_option maxRecDepth 20000 in
theorem ggX12_cancel_X12_areEnds : GoodIn wsX12_cancel wsX12_areEnds := goodIn_r _ [8, 9, 10, 11, 7, 12, 2, 13, 14, 15, 16, 17, 18, 19, 20, 21, 22, 23, 24, 25, 26, 27, 28, 29, 30, 31, 32, 33, 34, 35, 36, 37, 90, 91, 92, 93, 94, 95, 96, 97, 98, 99, 100, 101, 102, 103, 104, 105, 106, 107, 108, 109, 110, 111, 112, 113, 114, 115, 116, 117, 118, 119, 120] (by decide +kernel) (by decide +kernel)
set_option maxRecDepth 20000 in
theorem gX12_cancel_X12_areEnds : GoodIn wsX12_cancel (wsV RX12 229 RX12 yX12_areEnds wsX12_areEnds) := goodIn_app (goodIn_of _ (by decide +kernel)) ggX12_cancel_X12_areEnds
set_option maxRecDepth 20000 in
theorem ggX12_cancel_X12_waysFrom : GoodIn wsX12_cancel wsX12_waysFrom := goodIn_r _ [41, 22, 42, 43, 44, 45, 7, 46, 47, 48, 13, 14, 15, 16, 17, 18, 19, 20, 21, 23, 24, 25, 49, 50, 51, 52, 2, 26, 27, 28, 29, 30, 31, 32, 33, 34, 35, 36, 37, 53, 54, 55, 56, 57, 58, 59, 60, 61, 62, 63, 64, 65, 66, 67, 68, 69, 70, 71, 90, 91, 92, 93, 94, 95, 96, 97, 98, 99, 100, 101, 102, 103, 104, 105, 106, 107, 108, 109, 110, 111, 112, 113, 114, 115, 116, 117, 118, 119, 120] (by decide +kernel) (by decide +kernel)
set_option maxRecDepth 20000 in
theorem gX12_cancel_X12_waysFrom : GoodIn wsX12_cancel (wsV RX12 232 RX12 yX12_waysFrom wsX12_waysFrom) := goodIn_app (goodIn_of _ (by decide +kernel)) ggX12_cancel_X12_waysFrom
set_option maxRecDepth 20000 in
theorem ggX12_cancel_X12_laysPath : GoodIn wsX12_cancel wsX12_laysPath := goodIn_r _ [75, 1, 42, 2, 38, 39, 40, 7, 41, 22, 43, 44, 45, 46, 47, 48, 13, 14, 15, 16, 17, 18, 19, 20, 21, 23, 24, 25, 49, 50, 51, 52, 26, 27, 28, 29, 30, 31, 32, 33, 34, 35, 36, 37, 53, 54, 55, 56, 57, 58, 59, 60, 61, 62, 63, 64, 65, 66, 67, 68, 69, 70, 71, 76, 77, 78, 79, 3, 90, 91, 92, 93, 94, 95, 96, 97, 98, 99, 100, 101, 102, 103, 104, 105, 106, 107, 108, 109, 110, 111, 112, 113, 114, 115, 116, 117, 118, 119, 120] (by decide +kernel) (by decide +kernel)
set_option maxRecDepth 20000 in
theorem gX12_cancel_X12_laysPath : GoodIn wsX12_cancel (wsV RX12 249 RX12 yX12_laysPath wsX12_laysPath) := goodIn_app (goodIn_of _ (by decide +kernel)) ggX12_cancel_X12_laysPath
set_option maxRecDepth 20000 in
theorem ggX12_cancel_X12_remembers : GoodIn wsX12_cancel wsX12_remembers := goodIn_r _ [83, 84, 85, 2, 17, 53, 54, 7, 55, 90, 91, 92, 93, 94, 95, 96, 97, 98, 99, 100, 101, 102, 103, 104, 105, 106, 107, 108, 109, 110, 111, 112, 113, 114, 115, 116, 117, 118, 119, 120] (by decide +kernel) (by decide +kernel)
set_option maxRecDepth 20000 in
theorem gX12_cancel_X12_remembers : GoodIn wsX12_cancel (wsV RX12 194 RX12 yX12_remembers wsX12_remembers) := goodIn_app (goodIn_of _ (by decide +kernel)) ggX12_cancel_X12_remembers
set_option maxRecDepth 20000 in
theorem ggX12_cancel_X12_criticalMany : GoodIn wsX12_cancel wsX12_criticalMany := goodIn_r _ [89, 22, 9, 10, 11, 7, 12, 2, 13, 14, 15, 16, 17, 18, 19, 20, 21, 23, 24, 25, 53, 54, 55, 90, 91, 92, 93, 94, 95, 96, 97, 98, 99, 100, 101, 102, 103, 104, 105, 106, 107, 108, 109, 110, 111, 112, 113, 114, 115, 116, 117, 118, 119, 120] (by decide +kernel) (by decide +kernel)
set_option maxRecDepth 20000 in
theorem gX12_cancel_X12_criticalMany : GoodIn wsX12_cancel (wsV RX12 197 RX12 yX12_criticalMany wsX12_criticalMany) := goodIn_app (goodIn_of _ (by decide +kernel)) ggX12_cancel_X12_criticalMany
def wbX12_cancel_0 (rec : Nat → XT → (Nat → Int32) → (Nat → Int64) → (Int32 → XT → Prop) → Prop) (k : Nat) (t : XT) (li : Nat → Int32) (lj : Nat → Int64) (Q : Int32 → XT → Prop) : Prop :=
  (wqX12_areEnds k t (li 1) (li 2) (fun r_1 t_1 => ((¬ r_1 = 0) → (wqX12_waysFrom k t_1 (li 1) (li 2) (fun r_3 t_3 => (∀ v_4 : Int32, v_4 = (lg_cmp r_3 1) → ((v_4 = 0) → (wqX12_laysPath k t_3 (li 1) (li 2) 0 (fun r_6 t_6 => (wqX12_remembers k t_6  (fun t_7 => rec 1 t_7 (uI li 3 0) lj Q))))) ∧ (¬ (v_4 = 0) → Q (-2) t_3))))) ∧ ((r_1 = 0) → Q (-1) t_1)))
def wbX12_cancel_1 (rec : Nat → XT → (Nat → Int32) → (Nat → Int64) → (Int32 → XT → Prop) → Prop) (k : Nat) (t : XT) (li : Nat → Int32) (lj : Nat → Int64) (Q : Int32 → XT → Prop) : Prop :=
  ((((t.1 5) : Int32) ≤ (li 3)) → rec 2 t (uI li 3 0) lj Q) ∧ (¬ (((t.1 5) : Int32) ≤ (li 3)) → (vp_in (li 3) 122 ∧ (∀ v_9 : Int32, v_9 = (t.2.2.1 10) (li 3).toNatClampNeg → (vp_in v_9 60 ∧ (∀ t_10 : XT, t_10 = sA t 4 (upd (t.2.2.1 4) v_9.toNatClampNeg (-1)) → (∀ v_11 : Int32, v_11 = (li 3) + Int32.ofInt 1 → rec 1 t_10 (uI li 3 v_11) lj Q))))))
def wbX12_cancel_2 (rec : Nat → XT → (Nat → Int32) → (Nat → Int64) → (Int32 → XT → Prop) → Prop) (k : Nat) (t : XT) (li : Nat → Int32) (lj : Nat → Int64) (Q : Int32 → XT → Prop) : Prop :=
  (∀ v_12 : Int32, v_12 = ((li 3) + 1) → ((((t.1 5) : Int32) ≤ v_12) → (wqX12_criticalMany k t  (fun r_14 t_14 => Q r_14 t_14))) ∧ (¬ (((t.1 5) : Int32) ≤ v_12) → (vp_in (li 3) 122 ∧ (∀ v_15 : Int32, v_15 = (t.2.2.1 10) (li 3).toNatClampNeg → (∀ v_16 : Int32, v_16 = ((li 3) + 1) → (vp_in v_16 122 ∧ (∀ v_17 : Int32, v_17 = (t.2.2.1 10) v_16.toNatClampNeg → (vp_in v_15 60 ∧ (∀ t_18 : XT, t_18 = sA t 4 (upd (t.2.2.1 4) v_15.toNatClampNeg v_17) → (∀ v_19 : Int32, v_19 = ((li 3) + 1) → (vp_in v_19 122 ∧ (∀ v_20 : Int32, v_20 = (t_18.2.2.1 10) v_19.toNatClampNeg → (vp_in (li 3) 122 ∧ (∀ v_21 : Int32, v_21 = (t_18.2.2.1 10) (li 3).toNatClampNeg → (vp_in v_20 60 ∧ (∀ t_22 : XT, t_22 = sA t_18 4 (upd (t_18.2.2.1 4) v_20.toNatClampNeg v_21) → (∀ v_23 : Int32, v_23 = (li 3) + Int32.ofInt 2 → rec 2 t_22 (uI li 3 v_23) lj Q)))))))))))))))))
def wpX12_cancel : Nat → Nat → XT → (Nat → Int32) → (Nat → Int64) → (Int32 → XT → Prop) → Prop
  | 0, _, _, _, _, _ => False
  | k + 1, 0, t, li, lj, Q => wbX12_cancel_0 (wpX12_cancel k) k t li lj Q
  | k + 1, 1, t, li, lj, Q => wbX12_cancel_1 (wpX12_cancel k) k t li lj Q
  | k + 1, 2, t, li, lj, Q => wbX12_cancel_2 (wpX12_cancel k) k t li lj Q
  | _ + 1, _, _, _, _, _ => False
def wqX12_cancel (k : Nat) (t : XT) (a1 : Int32) (a2 : Int32) (Q : Int32 → XT → Prop) : Prop := wpX12_cancel k 0 t (uI (uI (fun _ => 0) 1 a1) 2 a2) (fun _ => 0) Q
set_option maxHeartbeats 8000000 in
set_option maxRecDepth 100000 in
theorem wkX12_cancel (l : Launch) (D : va_G) (cI cJ cB cZ : ClassId) (bd : Nat → Nat) (k : Nat) (t : XT) (a1 : Int32) (a2 : Int32) (Q : Int32 → XT → Prop) (hR : wqX12_cancel k t a1 a2 Q) : MetI l yX12_cancel wsX12_cancel 8 189 0 0 D (TYS cI cJ cB cZ) (wM cI cJ cB cZ bd t) [.ref (bd 0), .int a1, .int a2] (fun r u => Q r u) (fun u : XT => (wM cI cJ cB cZ bd u)) := by
  refine x_startI (ty := .int) (cc := cX12_cancel) (by decide) rfl (Nat.le_of_ble_eq_true rfl) ?_
  intro p e s m args below meth c A ls B hr hnm h hl
  have hx := B.1.1
  have hb := B.1.2.1
  have hml := B.1.2.2.1
  have hts := B.1.2.2.2.2
  have hown : s.vm.findClass RX12 = some m.cls := B.1.2.2.2.1
  have hin12 : ∀ w ∈ u_ws RX12 TX12 31, w ∈ wsX12_cancel := by decide +kernel
  have main : ∀ k : Nat, (∀ (t : XT) (li : Nat → Int32) (lj : Nat → Int64) (H : Heap) (locs : List Loc) (ls : Array Slot), wpX12_cancel k 0 t li lj Q → lv_has ls 4 [(0, .ref (bd 0)), (1, .int (li 1)), (2, .int (li 2))] → Hp D A s.heap (wM cI cJ cB cZ bd t) H locs → W p l e { frames := 8, cells := 0, slots := 0, locals := 189 } s m args below meth c H locs 0 0 (MQ below (va_Qi (fun r u => Q r u) (fun u t => xEnd D ((fun u : XT => (wM cI cJ cB cZ bd u)) u) A t) A) args s 0 0 A) (F0 m 0 ls [])) ∧
      (∀ (t : XT) (li : Nat → Int32) (lj : Nat → Int64) (H : Heap) (locs : List Loc) (ls : Array Slot), wpX12_cancel k 1 t li lj Q → lv_has ls 4 [(0, .ref (bd 0)), (1, .int (li 1)), (2, .int (li 2)), (3, .int (li 3))] → Hp D A s.heap (wM cI cJ cB cZ bd t) H locs → W p l e { frames := 8, cells := 0, slots := 0, locals := 189 } s m args below meth c H locs 0 0 (MQ below (va_Qi (fun r u => Q r u) (fun u t => xEnd D ((fun u : XT => (wM cI cJ cB cZ bd u)) u) A t) A) args s 0 0 A) (F0 m 39 ls [])) ∧
      (∀ (t : XT) (li : Nat → Int32) (lj : Nat → Int64) (H : Heap) (locs : List Loc) (ls : Array Slot), wpX12_cancel k 2 t li lj Q → lv_has ls 4 [(0, .ref (bd 0)), (1, .int (li 1)), (2, .int (li 2)), (3, .int (li 3))] → Hp D A s.heap (wM cI cJ cB cZ bd t) H locs → W p l e { frames := 8, cells := 0, slots := 0, locals := 189 } s m args below meth c H locs 0 0 (MQ below (va_Qi (fun r u => Q r u) (fun u t => xEnd D ((fun u : XT => (wM cI cJ cB cZ bd u)) u) A t) A) args s 0 0 A) (F0 m 67 ls [])) := by
    intro k
    induction k with
    | zero => exact ⟨fun _ _ _ _ _ _ hR => False.elim hR, fun _ _ _ _ _ _ hR => False.elim hR, fun _ _ _ _ _ _ hR => False.elim hR⟩
    | succ k ih =>
      refine ⟨?_, ?_, ?_⟩
      · intro t li lj H locs ls hR hl h
        have hR : wbX12_cancel_0 (wpX12_cancel k) k t li lj Q := hR
        unfold wbX12_cancel_0 at hR
        refine lv_aload_n hx hb dX12_cancel_0 rfl (lv_at hl 0 rfl) ?_
        refine lv_iload_n hx hb dX12_cancel_1 rfl (lv_at hl 1 rfl) ?_
        refine lv_iload_n hx hb dX12_cancel_2 rfl (lv_at hl 2 rfl) ?_
        refine x_cVIF (n := 2) (As := [.int (li 1), .int (li 2)]) (rest := []) B h (wkX12_areEnds l D cI cJ cB cZ bd k t (li 1) (li 2) _ hR) ⟨⟨_, rfl⟩, by decide +kernel, Nat.le_of_ble_eq_true rfl, Nat.le_of_ble_eq_true rfl⟩ gX12_cancel_X12_areEnds (show ((wM cI cJ cB cZ bd t) : va_W)[0]? = some (_, .inr (12, _)) from rfl) rfl rfl hl.1 rfl (Nat.le_of_ble_eq_true rfl) dX12_cancel_3 ⟨Nat.le_of_ble_eq_true rfl, Nat.le_of_ble_eq_true rfl⟩ (fun r_1 t_1 H locs hR h => ?_)
        refine lv_if_ne (tgt := 11) hx hb dX12_cancel_6 (by decide) (fun c_2 => ?_) (fun c_2 => ?_)
        · have hR := hR.1 c_2
          refine lv_aload_n hx hb dX12_cancel_11 rfl (lv_at hl 0 rfl) ?_
          refine lv_iload_n hx hb dX12_cancel_12 rfl (lv_at hl 1 rfl) ?_
          refine lv_iload_n hx hb dX12_cancel_13 rfl (lv_at hl 2 rfl) ?_
          refine x_cVLF (n := 2) (As := [.int (li 1), .int (li 2)]) (rest := []) B h (wkX12_waysFrom l D cI cJ cB cZ bd k t_1 (li 1) (li 2) _ hR) ⟨⟨_, rfl⟩, by decide +kernel, Nat.le_of_ble_eq_true rfl, Nat.le_of_ble_eq_true rfl⟩ gX12_cancel_X12_waysFrom (show ((wM cI cJ cB cZ bd t_1) : va_W)[0]? = some (_, .inr (12, _)) from rfl) rfl rfl hl.1 rfl (Nat.le_of_ble_eq_true rfl) dX12_cancel_14 ⟨Nat.le_of_ble_eq_true rfl, Nat.le_of_ble_eq_true rfl⟩ (fun r_3 t_3 H locs hR h => ?_)
          refine lv_lconst (v := 1) hx hb dX12_cancel_17 (by decide) ?_
          refine W.lcmp hx hb dX12_cancel_18 ?_
          refine lv_topi (fun v_4 ev_4 => ?_)
          have hR := hR v_4 ev_4
          refine lv_if_eq (tgt := 25) hx hb dX12_cancel_19 (by decide) (fun c_5 => ?_) (fun c_5 => ?_)
          · have hR := hR.1 c_5
            refine lv_aload_n hx hb dX12_cancel_25 rfl (lv_at hl 0 rfl) ?_
            refine lv_iload_n hx hb dX12_cancel_26 rfl (lv_at hl 1 rfl) ?_
            refine lv_iload_n hx hb dX12_cancel_27 rfl (lv_at hl 2 rfl) ?_
            refine lv_lconst (v := 0) hx hb dX12_cancel_28 (by decide) ?_
            refine x_cVIF (n := 3) (As := [.int (li 1), .int (li 2), .long 0]) (rest := []) B h (wkX12_laysPath l D cI cJ cB cZ bd k t_3 (li 1) (li 2) 0 _ hR) ⟨⟨_, rfl⟩, by decide +kernel, Nat.le_of_ble_eq_true rfl, Nat.le_of_ble_eq_true rfl⟩ gX12_cancel_X12_laysPath (show ((wM cI cJ cB cZ bd t_3) : va_W)[0]? = some (_, .inr (12, _)) from rfl) rfl rfl hl.1 rfl (Nat.le_of_ble_eq_true rfl) dX12_cancel_29 ⟨Nat.le_of_ble_eq_true rfl, Nat.le_of_ble_eq_true rfl⟩ (fun r_6 t_6 H locs hR h => ?_)
            refine lv_pop hx hb dX12_cancel_32 rfl ?_
            refine lv_aload_n hx hb dX12_cancel_33 rfl (lv_at hl 0 rfl) ?_
            refine x_cVVF (n := 0) (As := []) (rest := []) B h (wkX12_remembers l D cI cJ cB cZ bd k t_6  _ hR) ⟨⟨_, rfl⟩, by decide +kernel, Nat.le_of_ble_eq_true rfl, Nat.le_of_ble_eq_true rfl⟩ gX12_cancel_X12_remembers (show ((wM cI cJ cB cZ bd t_6) : va_W)[0]? = some (_, .inr (12, _)) from rfl) rfl rfl hl.1 rfl (Nat.le_of_ble_eq_true rfl) dX12_cancel_34 ⟨Nat.le_of_ble_eq_true rfl, Nat.le_of_ble_eq_true rfl⟩ (fun t_7 H locs hR h => ?_)
            refine lv_iconst (v := 0) hx hb dX12_cancel_37 (by decide) ?_
            refine lv_istore_n (lv' := [(3, .int 0), (0, .ref (bd 0)), (1, .int (li 1)), (2, .int (li 2))]) hx hb dX12_cancel_38 rfl hl (by decide) rfl (fun ls hl => ?_)
            exact ih.2.1 t_7 (uI li 3 0) lj H locs ls hR (lv_sub hl [1, 2, 3, 0] rfl) h
          · have hR := hR.2 c_5
            refine lv_bipush (v := (-2)) hx hb dX12_cancel_22 (by decide) ?_
            exact x_iret (w1 := (fun u : XT => (wM cI cJ cB cZ bd u))) t_3 B h hr rfl hR dX12_cancel_24
        · have hR := hR.2 c_2
          refine lv_iconst (v := (-1)) hx hb dX12_cancel_9 (by decide) ?_
          exact x_iret (w1 := (fun u : XT => (wM cI cJ cB cZ bd u))) t_1 B h hr rfl hR dX12_cancel_10
      · intro t li lj H locs ls hR hl h
        have hR : wbX12_cancel_1 (wpX12_cancel k) k t li lj Q := hR
        unfold wbX12_cancel_1 at hR
        refine lv_iload_n hx hb dX12_cancel_39 rfl (lv_at hl 3 rfl) ?_
        refine lv_aload_n hx hb dX12_cancel_40 rfl (lv_at hl 0 rfl) ?_
        refine x_get (ci := 12) (C := RX12) (T := TX12) (N := 31) (v := .int (t.1 5)) B h hin12 0 18 rfl rfl (by decide) (by decide +kernel) rfl dX12_cancel_41 ?_
        refine lv_icmp_ge (tgt := 65) hx hb dX12_cancel_44 (by decide) (fun c_8 => ?_) (fun c_8 => ?_)
        · have hR := hR.1 c_8
          refine lv_iconst (v := 0) hx hb dX12_cancel_65 (by decide) ?_
          refine lv_istore_n (lv' := [(3, .int 0), (0, .ref (bd 0)), (1, .int (li 1)), (2, .int (li 2))]) hx hb dX12_cancel_66 rfl hl (by decide) rfl (fun ls hl => ?_)
          exact ih.2.2 t (uI li 3 0) lj H locs ls hR (lv_sub hl [1, 2, 3, 0] rfl) h
        · have hR := hR.2 c_8
          refine lv_aload_n hx hb dX12_cancel_47 rfl (lv_at hl 0 rfl) ?_
          refine x_get (ci := 12) (C := RX12) (T := TX12) (N := 31) (v := .ref (bd 5)) B h hin12 0 8 rfl rfl (by decide) (by decide +kernel) rfl dX12_cancel_48 ?_
          refine lv_aload_n hx hb dX12_cancel_51 rfl (lv_at hl 0 rfl) ?_
          refine x_get (ci := 12) (C := RX12) (T := TX12) (N := 31) (v := .ref (bd 13)) B h hin12 0 17 rfl rfl (by decide) (by decide +kernel) rfl dX12_cancel_52 ?_
          refine lv_iload_n hx hb dX12_cancel_55 rfl (lv_at hl 3 rfl) ?_
          obtain ⟨hb_9, hR⟩ := hR
          refine va_iald (f := (t.2.2.1 10)) hx hb B.2.1 h.1 13 0 rfl rfl hb_9 dX12_cancel_56 ?_
          refine lv_topi (fun v_9 ev_9 => ?_)
          have hR := hR v_9 ev_9
          refine lv_iconst (v := (-1)) hx hb dX12_cancel_57 (by decide) ?_
          obtain ⟨hb_10, hR⟩ := hR
          refine z_iast (f := (t.2.2.1 4)) B h 5 0 rfl rfl hb_10 dX12_cancel_58 (fun H locs h => ?_)
          obtain ⟨t_10, et_10⟩ : ∃ v : XT, v = sA t 4 (upd (t.2.2.1 4) v_9.toNatClampNeg (-1)) := ⟨_, rfl⟩
          have hR := hR t_10 et_10
          have h : Hp D A s.heap (wM cI cJ cB cZ bd t_10) H locs := by rw [et_10]; exact h
          obtain ⟨v_11, ev_11⟩ : ∃ v : Int32, v = (li 3) + Int32.ofInt 1 := ⟨_, rfl⟩
          have hR := hR v_11 ev_11
          refine lv_iinc (v := v_11) (lv' := [(3, .int v_11), (0, .ref (bd 0)), (1, .int (li 1)), (2, .int (li 2))]) hx hb dX12_cancel_59 hl (k := 3) rfl ev_11.symm (by decide) rfl (fun ls hl => ?_)
          refine lv_goto (tgt := 39) hx hb dX12_cancel_62 (by decide) ?_
          exact ih.2.1 t_10 (uI li 3 v_11) lj H locs ls hR (lv_sub hl [1, 2, 3, 0] rfl) h
      · intro t li lj H locs ls hR hl h
        have hR : wbX12_cancel_2 (wpX12_cancel k) k t li lj Q := hR
        unfold wbX12_cancel_2 at hR
        refine lv_iload_n hx hb dX12_cancel_67 rfl (lv_at hl 3 rfl) ?_
        refine lv_iconst (v := 1) hx hb dX12_cancel_68 (by decide) ?_
        refine lv_iadd hx hb dX12_cancel_69 ?_
        refine lv_topi (fun v_12 ev_12 => ?_)
        have hR := hR v_12 ev_12
        refine lv_aload_n hx hb dX12_cancel_70 rfl (lv_at hl 0 rfl) ?_
        refine x_get (ci := 12) (C := RX12) (T := TX12) (N := 31) (v := .int (t.1 5)) B h hin12 0 18 rfl rfl (by decide) (by decide +kernel) rfl dX12_cancel_71 ?_
        refine lv_icmp_ge (tgt := 121) hx hb dX12_cancel_74 (by decide) (fun c_13 => ?_) (fun c_13 => ?_)
        · have hR := hR.1 c_13
          refine lv_aload_n hx hb dX12_cancel_121 rfl (lv_at hl 0 rfl) ?_
          refine x_cVIF (n := 0) (As := []) (rest := []) B h (wkX12_criticalMany l D cI cJ cB cZ bd k t  _ hR) ⟨⟨_, rfl⟩, by decide +kernel, Nat.le_of_ble_eq_true rfl, Nat.le_of_ble_eq_true rfl⟩ gX12_cancel_X12_criticalMany (show ((wM cI cJ cB cZ bd t) : va_W)[0]? = some (_, .inr (12, _)) from rfl) rfl rfl hl.1 rfl (Nat.le_of_ble_eq_true rfl) dX12_cancel_122 ⟨Nat.le_of_ble_eq_true rfl, Nat.le_of_ble_eq_true rfl⟩ (fun r_14 t_14 H locs hR h => ?_)
          exact x_iret (w1 := (fun u : XT => (wM cI cJ cB cZ bd u))) t_14 B h hr rfl hR dX12_cancel_125
        · have hR := hR.2 c_13
          refine lv_aload_n hx hb dX12_cancel_77 rfl (lv_at hl 0 rfl) ?_
          refine x_get (ci := 12) (C := RX12) (T := TX12) (N := 31) (v := .ref (bd 5)) B h hin12 0 8 rfl rfl (by decide) (by decide +kernel) rfl dX12_cancel_78 ?_
          refine lv_aload_n hx hb dX12_cancel_81 rfl (lv_at hl 0 rfl) ?_
          refine x_get (ci := 12) (C := RX12) (T := TX12) (N := 31) (v := .ref (bd 13)) B h hin12 0 17 rfl rfl (by decide) (by decide +kernel) rfl dX12_cancel_82 ?_
          refine lv_iload_n hx hb dX12_cancel_85 rfl (lv_at hl 3 rfl) ?_
          obtain ⟨hb_15, hR⟩ := hR
          refine va_iald (f := (t.2.2.1 10)) hx hb B.2.1 h.1 13 0 rfl rfl hb_15 dX12_cancel_86 ?_
          refine lv_topi (fun v_15 ev_15 => ?_)
          have hR := hR v_15 ev_15
          refine lv_aload_n hx hb dX12_cancel_87 rfl (lv_at hl 0 rfl) ?_
          refine x_get (ci := 12) (C := RX12) (T := TX12) (N := 31) (v := .ref (bd 13)) B h hin12 0 17 rfl rfl (by decide) (by decide +kernel) rfl dX12_cancel_88 ?_
          refine lv_iload_n hx hb dX12_cancel_91 rfl (lv_at hl 3 rfl) ?_
          refine lv_iconst (v := 1) hx hb dX12_cancel_92 (by decide) ?_
          refine lv_iadd hx hb dX12_cancel_93 ?_
          refine lv_topi (fun v_16 ev_16 => ?_)
          have hR := hR v_16 ev_16
          obtain ⟨hb_17, hR⟩ := hR
          refine va_iald (f := (t.2.2.1 10)) hx hb B.2.1 h.1 13 0 rfl rfl hb_17 dX12_cancel_94 ?_
          refine lv_topi (fun v_17 ev_17 => ?_)
          have hR := hR v_17 ev_17
          obtain ⟨hb_18, hR⟩ := hR
          refine z_iast (f := (t.2.2.1 4)) B h 5 0 rfl rfl hb_18 dX12_cancel_95 (fun H locs h => ?_)
          obtain ⟨t_18, et_18⟩ : ∃ v : XT, v = sA t 4 (upd (t.2.2.1 4) v_15.toNatClampNeg v_17) := ⟨_, rfl⟩
          have hR := hR t_18 et_18
          have h : Hp D A s.heap (wM cI cJ cB cZ bd t_18) H locs := by rw [et_18]; exact h
          refine lv_aload_n hx hb dX12_cancel_96 rfl (lv_at hl 0 rfl) ?_
          refine x_get (ci := 12) (C := RX12) (T := TX12) (N := 31) (v := .ref (bd 5)) B h hin12 0 8 rfl rfl (by decide) (by decide +kernel) rfl dX12_cancel_97 ?_
          refine lv_aload_n hx hb dX12_cancel_100 rfl (lv_at hl 0 rfl) ?_
          refine x_get (ci := 12) (C := RX12) (T := TX12) (N := 31) (v := .ref (bd 13)) B h hin12 0 17 rfl rfl (by decide) (by decide +kernel) rfl dX12_cancel_101 ?_
          refine lv_iload_n hx hb dX12_cancel_104 rfl (lv_at hl 3 rfl) ?_
          refine lv_iconst (v := 1) hx hb dX12_cancel_105 (by decide) ?_
          refine lv_iadd hx hb dX12_cancel_106 ?_
          refine lv_topi (fun v_19 ev_19 => ?_)
          have hR := hR v_19 ev_19
          obtain ⟨hb_20, hR⟩ := hR
          refine va_iald (f := (t_18.2.2.1 10)) hx hb B.2.1 h.1 13 0 rfl rfl hb_20 dX12_cancel_107 ?_
          refine lv_topi (fun v_20 ev_20 => ?_)
          have hR := hR v_20 ev_20
          refine lv_aload_n hx hb dX12_cancel_108 rfl (lv_at hl 0 rfl) ?_
          refine x_get (ci := 12) (C := RX12) (T := TX12) (N := 31) (v := .ref (bd 13)) B h hin12 0 17 rfl rfl (by decide) (by decide +kernel) rfl dX12_cancel_109 ?_
          refine lv_iload_n hx hb dX12_cancel_112 rfl (lv_at hl 3 rfl) ?_
          obtain ⟨hb_21, hR⟩ := hR
          refine va_iald (f := (t_18.2.2.1 10)) hx hb B.2.1 h.1 13 0 rfl rfl hb_21 dX12_cancel_113 ?_
          refine lv_topi (fun v_21 ev_21 => ?_)
          have hR := hR v_21 ev_21
          obtain ⟨hb_22, hR⟩ := hR
          refine z_iast (f := (t_18.2.2.1 4)) B h 5 0 rfl rfl hb_22 dX12_cancel_114 (fun H locs h => ?_)
          obtain ⟨t_22, et_22⟩ : ∃ v : XT, v = sA t_18 4 (upd (t_18.2.2.1 4) v_20.toNatClampNeg v_21) := ⟨_, rfl⟩
          have hR := hR t_22 et_22
          have h : Hp D A s.heap (wM cI cJ cB cZ bd t_22) H locs := by rw [et_22]; exact h
          obtain ⟨v_23, ev_23⟩ : ∃ v : Int32, v = (li 3) + Int32.ofInt 2 := ⟨_, rfl⟩
          have hR := hR v_23 ev_23
          refine lv_iinc (v := v_23) (lv' := [(3, .int v_23), (0, .ref (bd 0)), (1, .int (li 1)), (2, .int (li 2))]) hx hb dX12_cancel_115 hl (k := 3) rfl ev_23.symm (by decide) rfl (fun ls hl => ?_)
          refine lv_goto (tgt := 67) hx hb dX12_cancel_118 (by decide) ?_
          exact ih.2.2 t_22 (uI li 3 v_23) lj H locs ls hR (lv_sub hl [1, 2, 3, 0] rfl) h
  exact (main k).1 t _ _ s.heap [] ls hR hl h
set_option maxRecDepth 20000 in
theorem ggX12_overOf_X12_isFaceThere : GoodIn wsX12_overOf wsX12_isFaceThere := goodIn_r _ [5, 6, 7, 8, 9, 4, 10, 11, 12, 13, 14, 15, 16, 17, 18, 19, 20, 21, 22, 23, 24, 25, 26, 27, 28, 29, 30, 31, 32, 33, 34, 35, 36, 37, 38, 39, 40, 41, 42, 43, 44, 45, 46, 47, 48, 49, 50, 51, 52, 53] (by decide +kernel) (by decide +kernel)
set_option maxRecDepth 20000 in
theorem gX12_overOf_X12_isFaceThere : GoodIn wsX12_overOf (wsV RX12 162 RX12 yX12_isFaceThere wsX12_isFaceThere) := goodIn_app (goodIn_of _ (by decide +kernel)) ggX12_overOf_X12_isFaceThere
def wbX12_overOf_0 (rec : Nat → XT → (Nat → Int32) → (Nat → Int64) → (Int32 → XT → Prop) → Prop) (k : Nat) (t : XT) (li : Nat → Int32) (lj : Nat → Int64) (Q : Int32 → XT → Prop) : Prop :=
  rec 1 t (uI li 2 0) lj Q
def wbX12_overOf_1 (rec : Nat → XT → (Nat → Int32) → (Nat → Int64) → (Int32 → XT → Prop) → Prop) (k : Nat) (t : XT) (li : Nat → Int32) (lj : Nat → Int64) (Q : Int32 → XT → Prop) : Prop :=
  (wqX12_isFaceThere k t (li 1) (li 2) (fun r_1 t_1 => ((¬ r_1 = 0) → Q (li 2) t_1) ∧ ((r_1 = 0) → (∀ v_3 : Int32, v_3 = (li 2) + Int32.ofInt 1 → rec 1 t_1 (uI li 2 v_3) lj Q))))
def wpX12_overOf : Nat → Nat → XT → (Nat → Int32) → (Nat → Int64) → (Int32 → XT → Prop) → Prop
  | 0, _, _, _, _, _ => False
  | k + 1, 0, t, li, lj, Q => wbX12_overOf_0 (wpX12_overOf k) k t li lj Q
  | k + 1, 1, t, li, lj, Q => wbX12_overOf_1 (wpX12_overOf k) k t li lj Q
  | _ + 1, _, _, _, _, _ => False
def wqX12_overOf (k : Nat) (t : XT) (a1 : Int32) (Q : Int32 → XT → Prop) : Prop := wpX12_overOf k 0 t (uI (fun _ => 0) 1 a1) (fun _ => 0) Q
set_option maxHeartbeats 8000000 in
set_option maxRecDepth 100000 in
theorem wkX12_overOf (l : Launch) (D : va_G) (cI cJ cB cZ : ClassId) (bd : Nat → Nat) (k : Nat) (t : XT) (a1 : Int32) (Q : Int32 → XT → Prop) (hR : wqX12_overOf k t a1 Q) : MetI l yX12_overOf wsX12_overOf 4 85 0 0 D (TYS cI cJ cB cZ) (wM cI cJ cB cZ bd t) [.ref (bd 0), .int a1] (fun r u => Q r u) (fun u : XT => (wM cI cJ cB cZ bd u)) := by
  refine x_startI (ty := .int) (cc := cX12_overOf) (by decide) rfl (Nat.le_of_ble_eq_true rfl) ?_
  intro p e s m args below meth c A ls B hr hnm h hl
  have hx := B.1.1
  have hb := B.1.2.1
  have hml := B.1.2.2.1
  have hts := B.1.2.2.2.2
  have hown : s.vm.findClass RX12 = some m.cls := B.1.2.2.2.1
  have main : ∀ k : Nat, (∀ (t : XT) (li : Nat → Int32) (lj : Nat → Int64) (H : Heap) (locs : List Loc) (ls : Array Slot), wpX12_overOf k 0 t li lj Q → lv_has ls 3 [(0, .ref (bd 0)), (1, .int (li 1))] → Hp D A s.heap (wM cI cJ cB cZ bd t) H locs → W p l e { frames := 4, cells := 0, slots := 0, locals := 85 } s m args below meth c H locs 0 0 (MQ below (va_Qi (fun r u => Q r u) (fun u t => xEnd D ((fun u : XT => (wM cI cJ cB cZ bd u)) u) A t) A) args s 0 0 A) (F0 m 0 ls [])) ∧
      (∀ (t : XT) (li : Nat → Int32) (lj : Nat → Int64) (H : Heap) (locs : List Loc) (ls : Array Slot), wpX12_overOf k 1 t li lj Q → lv_has ls 3 [(0, .ref (bd 0)), (1, .int (li 1)), (2, .int (li 2))] → Hp D A s.heap (wM cI cJ cB cZ bd t) H locs → W p l e { frames := 4, cells := 0, slots := 0, locals := 85 } s m args below meth c H locs 0 0 (MQ below (va_Qi (fun r u => Q r u) (fun u t => xEnd D ((fun u : XT => (wM cI cJ cB cZ bd u)) u) A t) A) args s 0 0 A) (F0 m 2 ls [])) := by
    intro k
    induction k with
    | zero => exact ⟨fun _ _ _ _ _ _ hR => False.elim hR, fun _ _ _ _ _ _ hR => False.elim hR⟩
    | succ k ih =>
      refine ⟨?_, ?_⟩
      · intro t li lj H locs ls hR hl h
        have hR : wbX12_overOf_0 (wpX12_overOf k) k t li lj Q := hR
        unfold wbX12_overOf_0 at hR
        refine lv_iconst (v := 0) hx hb dX12_overOf_0 (by decide) ?_
        refine lv_istore_n (lv' := [(2, .int 0), (0, .ref (bd 0)), (1, .int (li 1))]) hx hb dX12_overOf_1 rfl hl (by decide) rfl (fun ls hl => ?_)
        exact ih.2 t (uI li 2 0) lj H locs ls hR (lv_sub hl [1, 2, 0] rfl) h
      · intro t li lj H locs ls hR hl h
        have hR : wbX12_overOf_1 (wpX12_overOf k) k t li lj Q := hR
        unfold wbX12_overOf_1 at hR
        refine lv_aload_n hx hb dX12_overOf_2 rfl (lv_at hl 0 rfl) ?_
        refine lv_iload_n hx hb dX12_overOf_3 rfl (lv_at hl 1 rfl) ?_
        refine lv_iload_n hx hb dX12_overOf_4 rfl (lv_at hl 2 rfl) ?_
        refine x_cVIF (n := 2) (As := [.int (li 1), .int (li 2)]) (rest := []) B h (wkX12_isFaceThere l D cI cJ cB cZ bd k t (li 1) (li 2) _ hR) ⟨⟨_, rfl⟩, by decide +kernel, Nat.le_of_ble_eq_true rfl, Nat.le_of_ble_eq_true rfl⟩ gX12_overOf_X12_isFaceThere (show ((wM cI cJ cB cZ bd t) : va_W)[0]? = some (_, .inr (12, _)) from rfl) rfl rfl hl.1 rfl (Nat.le_of_ble_eq_true rfl) dX12_overOf_5 ⟨Nat.le_of_ble_eq_true rfl, Nat.le_of_ble_eq_true rfl⟩ (fun r_1 t_1 H locs hR h => ?_)
        refine lv_if_ne (tgt := 17) hx hb dX12_overOf_8 (by decide) (fun c_2 => ?_) (fun c_2 => ?_)
        · have hR := hR.1 c_2
          refine lv_iload_n hx hb dX12_overOf_17 rfl (lv_at hl 2 rfl) ?_
          exact x_iret (w1 := (fun u : XT => (wM cI cJ cB cZ bd u))) t_1 B h hr rfl hR dX12_overOf_18
        · have hR := hR.2 c_2
          obtain ⟨v_3, ev_3⟩ : ∃ v : Int32, v = (li 2) + Int32.ofInt 1 := ⟨_, rfl⟩
          have hR := hR v_3 ev_3
          refine lv_iinc (v := v_3) (lv' := [(2, .int v_3), (0, .ref (bd 0)), (1, .int (li 1))]) hx hb dX12_overOf_11 hl (k := 2) rfl ev_3.symm (by decide) rfl (fun ls hl => ?_)
          refine lv_goto (tgt := 2) hx hb dX12_overOf_14 (by decide) ?_
          exact ih.2 t_1 (uI li 2 v_3) lj H locs ls hR (lv_sub hl [1, 2, 0] rfl) h
  exact (main k).1 t _ _ s.heap [] ls hR hl h
set_option maxRecDepth 20000 in
theorem ggX12_isFreeFace_X12_isThere : GoodIn wsX12_isFreeFace wsX12_isThere := goodIn_r _ [5, 6, 7, 8, 9, 4, 10, 11, 12, 13, 14, 46, 47, 48, 49, 50, 51, 52, 53, 54, 55, 56, 57, 58, 59, 60, 61, 62, 63, 64, 65, 66, 67, 68, 69, 70, 71, 72, 73, 74, 75, 76] (by decide +kernel) (by decide +kernel)
set_option maxRecDepth 20000 in
theorem gX12_isFreeFace_X12_isThere : GoodIn wsX12_isFreeFace (wsV RX12 156 RX12 yX12_isThere wsX12_isThere) := goodIn_app (goodIn_of _ (by decide +kernel)) ggX12_isFreeFace_X12_isThere
set_option maxRecDepth 20000 in
theorem ggX12_isFreeFace_X12_facesOver : GoodIn wsX12_isFreeFace wsX12_facesOver := goodIn_r _ [18, 11, 19, 20, 21, 4, 22, 6, 23, 24, 25, 26, 27, 28, 29, 30, 31, 32, 33, 34, 35, 36, 37, 38, 39, 40, 41, 46, 47, 48, 49, 50, 51, 52, 53, 54, 55, 56, 57, 58, 59, 60, 61, 62, 63, 64, 65, 66, 67, 68, 69, 70, 71, 72, 73, 74, 75, 76] (by decide +kernel) (by decide +kernel)
set_option maxRecDepth 20000 in
theorem gX12_isFreeFace_X12_facesOver : GoodIn wsX12_isFreeFace (wsV RX12 176 RX12 yX12_facesOver wsX12_facesOver) := goodIn_app (goodIn_of _ (by decide +kernel)) ggX12_isFreeFace_X12_facesOver
set_option maxRecDepth 20000 in
theorem ggX12_isFreeFace_X12_overOf : GoodIn wsX12_isFreeFace wsX12_overOf := goodIn_r _ [45, 19, 20, 21, 4, 22, 6, 23, 24, 25, 26, 27, 28, 29, 30, 31, 32, 33, 34, 35, 36, 37, 38, 46, 47, 48, 49, 50, 51, 52, 53, 54, 55, 56, 57, 58, 59, 60, 61, 62, 63, 64, 65, 66, 67, 68, 69, 70, 71, 72, 73, 74, 75, 76] (by decide +kernel) (by decide +kernel)
set_option maxRecDepth 20000 in
theorem gX12_isFreeFace_X12_overOf : GoodIn wsX12_isFreeFace (wsV RX12 262 RX12 yX12_overOf wsX12_overOf) := goodIn_app (goodIn_of _ (by decide +kernel)) ggX12_isFreeFace_X12_overOf
def wbX12_isFreeFace_0 (rec : Nat → XT → (Nat → Int32) → (Nat → Int64) → (Int32 → XT → Prop) → Prop) (k : Nat) (t : XT) (li : Nat → Int32) (lj : Nat → Int64) (Q : Int32 → XT → Prop) : Prop :=
  (wqX12_isThere k t (li 1) (fun r_1 t_1 => ((r_1 = 0) → rec 1 t_1 li lj Q) ∧ (¬ (r_1 = 0) → (wqX12_facesOver k t_1 (li 1) (fun r_3 t_3 => ((r_3 = 1) → (wqX12_overOf k t_3 (li 1) (fun r_5 t_5 => (wqX12_facesOver k t_5 r_5 (fun r_6 t_6 => ((¬ r_6 = 0) → Q 0 t_6) ∧ ((r_6 = 0) → Q 1 t_6)))))) ∧ (¬ (r_3 = 1) → rec 1 t_3 li lj Q))))))
def wbX12_isFreeFace_1 (rec : Nat → XT → (Nat → Int32) → (Nat → Int64) → (Int32 → XT → Prop) → Prop) (k : Nat) (t : XT) (li : Nat → Int32) (lj : Nat → Int64) (Q : Int32 → XT → Prop) : Prop :=
  Q 0 t
def wpX12_isFreeFace : Nat → Nat → XT → (Nat → Int32) → (Nat → Int64) → (Int32 → XT → Prop) → Prop
  | 0, _, _, _, _, _ => False
  | k + 1, 0, t, li, lj, Q => wbX12_isFreeFace_0 (wpX12_isFreeFace k) k t li lj Q
  | k + 1, 1, t, li, lj, Q => wbX12_isFreeFace_1 (wpX12_isFreeFace k) k t li lj Q
  | _ + 1, _, _, _, _, _ => False
def wqX12_isFreeFace (k : Nat) (t : XT) (a1 : Int32) (Q : Int32 → XT → Prop) : Prop := wpX12_isFreeFace k 0 t (uI (fun _ => 0) 1 a1) (fun _ => 0) Q
set_option maxHeartbeats 8000000 in
set_option maxRecDepth 100000 in
theorem wkX12_isFreeFace (l : Launch) (D : va_G) (cI cJ cB cZ : ClassId) (bd : Nat → Nat) (k : Nat) (t : XT) (a1 : Int32) (Q : Int32 → XT → Prop) (hR : wqX12_isFreeFace k t a1 Q) : MetI l yX12_isFreeFace wsX12_isFreeFace 5 108 0 0 D (TYS cI cJ cB cZ) (wM cI cJ cB cZ bd t) [.ref (bd 0), .int a1] (fun r u => Q r u) (fun u : XT => (wM cI cJ cB cZ bd u)) := by
  refine x_startI (ty := .boolean) (cc := cX12_isFreeFace) (by decide) rfl (Nat.le_of_ble_eq_true rfl) ?_
  intro p e s m args below meth c A ls B hr hnm h hl
  have hx := B.1.1
  have hb := B.1.2.1
  have hml := B.1.2.2.1
  have hts := B.1.2.2.2.2
  have hown : s.vm.findClass RX12 = some m.cls := B.1.2.2.2.1
  have main : ∀ k : Nat, (∀ (t : XT) (li : Nat → Int32) (lj : Nat → Int64) (H : Heap) (locs : List Loc) (ls : Array Slot), wpX12_isFreeFace k 0 t li lj Q → lv_has ls 2 [(0, .ref (bd 0)), (1, .int (li 1))] → Hp D A s.heap (wM cI cJ cB cZ bd t) H locs → W p l e { frames := 5, cells := 0, slots := 0, locals := 108 } s m args below meth c H locs 0 0 (MQ below (va_Qi (fun r u => Q r u) (fun u t => xEnd D ((fun u : XT => (wM cI cJ cB cZ bd u)) u) A t) A) args s 0 0 A) (F0 m 0 ls [])) ∧
      (∀ (t : XT) (li : Nat → Int32) (lj : Nat → Int64) (H : Heap) (locs : List Loc) (ls : Array Slot), wpX12_isFreeFace k 1 t li lj Q → lv_has ls 2 [(0, .ref (bd 0)), (1, .int (li 1))] → Hp D A s.heap (wM cI cJ cB cZ bd t) H locs → W p l e { frames := 5, cells := 0, slots := 0, locals := 108 } s m args below meth c H locs 0 0 (MQ below (va_Qi (fun r u => Q r u) (fun u t => xEnd D ((fun u : XT => (wM cI cJ cB cZ bd u)) u) A t) A) args s 0 0 A) (F0 m 17 ls [])) := by
    intro k
    induction k with
    | zero => exact ⟨fun _ _ _ _ _ _ hR => False.elim hR, fun _ _ _ _ _ _ hR => False.elim hR⟩
    | succ k ih =>
      refine ⟨?_, ?_⟩
      · intro t li lj H locs ls hR hl h
        have hR : wbX12_isFreeFace_0 (wpX12_isFreeFace k) k t li lj Q := hR
        unfold wbX12_isFreeFace_0 at hR
        refine lv_aload_n hx hb dX12_isFreeFace_0 rfl (lv_at hl 0 rfl) ?_
        refine lv_iload_n hx hb dX12_isFreeFace_1 rfl (lv_at hl 1 rfl) ?_
        refine x_cVIF (n := 1) (As := [.int (li 1)]) (rest := []) B h (wkX12_isThere l D cI cJ cB cZ bd k t (li 1) _ hR) ⟨⟨_, rfl⟩, by decide +kernel, Nat.le_of_ble_eq_true rfl, Nat.le_of_ble_eq_true rfl⟩ gX12_isFreeFace_X12_isThere (show ((wM cI cJ cB cZ bd t) : va_W)[0]? = some (_, .inr (12, _)) from rfl) rfl rfl hl.1 rfl (Nat.le_of_ble_eq_true rfl) dX12_isFreeFace_2 ⟨Nat.le_of_ble_eq_true rfl, Nat.le_of_ble_eq_true rfl⟩ (fun r_1 t_1 H locs hR h => ?_)
        refine lv_if_eq (tgt := 17) hx hb dX12_isFreeFace_5 (by decide) (fun c_2 => ?_) (fun c_2 => ?_)
        · have hR := hR.1 c_2
          exact ih.2 t_1 li lj H locs ls hR (lv_sub hl [0, 1] rfl) h
        · have hR := hR.2 c_2
          refine lv_aload_n hx hb dX12_isFreeFace_8 rfl (lv_at hl 0 rfl) ?_
          refine lv_iload_n hx hb dX12_isFreeFace_9 rfl (lv_at hl 1 rfl) ?_
          refine x_cVIF (n := 1) (As := [.int (li 1)]) (rest := []) B h (wkX12_facesOver l D cI cJ cB cZ bd k t_1 (li 1) _ hR) ⟨⟨_, rfl⟩, by decide +kernel, Nat.le_of_ble_eq_true rfl, Nat.le_of_ble_eq_true rfl⟩ gX12_isFreeFace_X12_facesOver (show ((wM cI cJ cB cZ bd t_1) : va_W)[0]? = some (_, .inr (12, _)) from rfl) rfl rfl hl.1 rfl (Nat.le_of_ble_eq_true rfl) dX12_isFreeFace_10 ⟨Nat.le_of_ble_eq_true rfl, Nat.le_of_ble_eq_true rfl⟩ (fun r_3 t_3 H locs hR h => ?_)
          refine lv_iconst (v := 1) hx hb dX12_isFreeFace_13 (by decide) ?_
          refine lv_icmp_eq (tgt := 19) hx hb dX12_isFreeFace_14 (by decide) (fun c_4 => ?_) (fun c_4 => ?_)
          · have hR := hR.1 c_4
            refine lv_aload_n hx hb dX12_isFreeFace_19 rfl (lv_at hl 0 rfl) ?_
            refine lv_aload_n hx hb dX12_isFreeFace_20 rfl (lv_at hl 0 rfl) ?_
            refine lv_iload_n hx hb dX12_isFreeFace_21 rfl (lv_at hl 1 rfl) ?_
            refine x_cVIF (n := 1) (As := [.int (li 1)]) (rest := [.ref (bd 0)]) B h (wkX12_overOf l D cI cJ cB cZ bd k t_3 (li 1) _ hR) ⟨⟨_, rfl⟩, by decide +kernel, Nat.le_of_ble_eq_true rfl, Nat.le_of_ble_eq_true rfl⟩ gX12_isFreeFace_X12_overOf (show ((wM cI cJ cB cZ bd t_3) : va_W)[0]? = some (_, .inr (12, _)) from rfl) rfl rfl hl.1 rfl (Nat.le_of_ble_eq_true rfl) dX12_isFreeFace_22 ⟨Nat.le_of_ble_eq_true rfl, Nat.le_of_ble_eq_true rfl⟩ (fun r_5 t_5 H locs hR h => ?_)
            refine x_cVIF (n := 1) (As := [.int r_5]) (rest := []) B h (wkX12_facesOver l D cI cJ cB cZ bd k t_5 r_5 _ hR) ⟨⟨_, rfl⟩, by decide +kernel, Nat.le_of_ble_eq_true rfl, Nat.le_of_ble_eq_true rfl⟩ gX12_isFreeFace_X12_facesOver (show ((wM cI cJ cB cZ bd t_5) : va_W)[0]? = some (_, .inr (12, _)) from rfl) rfl rfl hl.1 rfl (Nat.le_of_ble_eq_true rfl) dX12_isFreeFace_25 ⟨Nat.le_of_ble_eq_true rfl, Nat.le_of_ble_eq_true rfl⟩ (fun r_6 t_6 H locs hR h => ?_)
            refine lv_if_ne (tgt := 35) hx hb dX12_isFreeFace_28 (by decide) (fun c_7 => ?_) (fun c_7 => ?_)
            · have hR := hR.1 c_7
              refine lv_iconst (v := 0) hx hb dX12_isFreeFace_35 (by decide) ?_
              exact x_iret (w1 := (fun u : XT => (wM cI cJ cB cZ bd u))) t_6 B h hr rfl hR dX12_isFreeFace_36
            · have hR := hR.2 c_7
              refine lv_iconst (v := 1) hx hb dX12_isFreeFace_31 (by decide) ?_
              refine lv_goto (tgt := 36) hx hb dX12_isFreeFace_32 (by decide) ?_
              exact x_iret (w1 := (fun u : XT => (wM cI cJ cB cZ bd u))) t_6 B h hr rfl hR dX12_isFreeFace_36
          · have hR := hR.2 c_4
            exact ih.2 t_3 li lj H locs ls hR (lv_sub hl [0, 1] rfl) h
      · intro t li lj H locs ls hR hl h
        have hR : wbX12_isFreeFace_1 (wpX12_isFreeFace k) k t li lj Q := hR
        unfold wbX12_isFreeFace_1 at hR
        refine lv_iconst (v := 0) hx hb dX12_isFreeFace_17 (by decide) ?_
        exact x_iret (w1 := (fun u : XT => (wM cI cJ cB cZ bd u))) t B h hr rfl hR dX12_isFreeFace_18
  exact (main k).1 t _ _ s.heap [] ls hR hl h
set_option maxRecDepth 20000 in
theorem ggX12_thereMany_X12_truth : GoodIn wsX12_thereMany wsX12_truth := goodIn_r _ [6] (by decide +kernel) (by decide +kernel)
set_option maxRecDepth 20000 in
theorem gX12_thereMany_X12_truth : GoodIn wsX12_thereMany (va_wsS RX12 105 yX12_truth wsX12_truth) := goodIn_app (goodIn_of _ (by decide +kernel)) ggX12_thereMany_X12_truth
def wbX12_thereMany_0 (rec : Nat → XT → (Nat → Int32) → (Nat → Int64) → (Int32 → XT → Prop) → Prop) (k : Nat) (t : XT) (li : Nat → Int32) (lj : Nat → Int64) (Q : Int32 → XT → Prop) : Prop :=
  rec 1 t (uI (uI li 1 0) 2 0) lj Q
def wbX12_thereMany_1 (rec : Nat → XT → (Nat → Int32) → (Nat → Int64) → (Int32 → XT → Prop) → Prop) (k : Nat) (t : XT) (li : Nat → Int32) (lj : Nat → Int64) (Q : Int32 → XT → Prop) : Prop :=
  ((((t.1 3) : Int32) ≤ (li 2)) → Q (li 1) t) ∧ (¬ (((t.1 3) : Int32) ≤ (li 2)) → (vp_in (li 2) 60 ∧ (∀ v_2 : Int32, v_2 = (t.2.2.1 5) (li 2).toNatClampNeg → ((¬ v_2 = 0) → rec 2 t (uI (uI li 101 0) 100 (li 1)) lj Q) ∧ ((v_2 = 0) → rec 2 t (uI (uI li 101 1) 100 (li 1)) lj Q))))
def wbX12_thereMany_2 (rec : Nat → XT → (Nat → Int32) → (Nat → Int64) → (Int32 → XT → Prop) → Prop) (k : Nat) (t : XT) (li : Nat → Int32) (lj : Nat → Int64) (Q : Int32 → XT → Prop) : Prop :=
  (wqX12_truth k (li 101) (fun r_4 => (∀ v_5 : Int32, v_5 = ((li 100) + r_4) → (∀ v_6 : Int32, v_6 = (li 2) + Int32.ofInt 1 → rec 1 t (uI (uI li 1 v_5) 2 v_6) lj Q))))
def wpX12_thereMany : Nat → Nat → XT → (Nat → Int32) → (Nat → Int64) → (Int32 → XT → Prop) → Prop
  | 0, _, _, _, _, _ => False
  | k + 1, 0, t, li, lj, Q => wbX12_thereMany_0 (wpX12_thereMany k) k t li lj Q
  | k + 1, 1, t, li, lj, Q => wbX12_thereMany_1 (wpX12_thereMany k) k t li lj Q
  | k + 1, 2, t, li, lj, Q => wbX12_thereMany_2 (wpX12_thereMany k) k t li lj Q
  | _ + 1, _, _, _, _, _ => False
def wqX12_thereMany (k : Nat) (t : XT)  (Q : Int32 → XT → Prop) : Prop := wpX12_thereMany k 0 t (fun _ => 0) (fun _ => 0) Q
set_option maxHeartbeats 8000000 in
set_option maxRecDepth 100000 in
theorem wkX12_thereMany (l : Launch) (D : va_G) (cI cJ cB cZ : ClassId) (bd : Nat → Nat) (k : Nat) (t : XT)  (Q : Int32 → XT → Prop) (hR : wqX12_thereMany k t  Q) : MetI l yX12_thereMany wsX12_thereMany 1 20 0 0 D (TYS cI cJ cB cZ) (wM cI cJ cB cZ bd t) [.ref (bd 0)] (fun r u => Q r u) (fun u : XT => (wM cI cJ cB cZ bd u)) := by
  refine x_startI (ty := .int) (cc := cX12_thereMany) (by decide) rfl (Nat.le_of_ble_eq_true rfl) ?_
  intro p e s m args below meth c A ls B hr hnm h hl
  have hx := B.1.1
  have hb := B.1.2.1
  have hml := B.1.2.2.1
  have hts := B.1.2.2.2.2
  have hown : s.vm.findClass RX12 = some m.cls := B.1.2.2.2.1
  have hin12 : ∀ w ∈ u_ws RX12 TX12 31, w ∈ wsX12_thereMany := by decide +kernel
  have main : ∀ k : Nat, (∀ (t : XT) (li : Nat → Int32) (lj : Nat → Int64) (H : Heap) (locs : List Loc) (ls : Array Slot), wpX12_thereMany k 0 t li lj Q → lv_has ls 3 [(0, .ref (bd 0))] → Hp D A s.heap (wM cI cJ cB cZ bd t) H locs → W p l e { frames := 1, cells := 0, slots := 0, locals := 20 } s m args below meth c H locs 0 0 (MQ below (va_Qi (fun r u => Q r u) (fun u t => xEnd D ((fun u : XT => (wM cI cJ cB cZ bd u)) u) A t) A) args s 0 0 A) (F0 m 0 ls [])) ∧
      (∀ (t : XT) (li : Nat → Int32) (lj : Nat → Int64) (H : Heap) (locs : List Loc) (ls : Array Slot), wpX12_thereMany k 1 t li lj Q → lv_has ls 3 [(0, .ref (bd 0)), (1, .int (li 1)), (2, .int (li 2))] → Hp D A s.heap (wM cI cJ cB cZ bd t) H locs → W p l e { frames := 1, cells := 0, slots := 0, locals := 20 } s m args below meth c H locs 0 0 (MQ below (va_Qi (fun r u => Q r u) (fun u t => xEnd D ((fun u : XT => (wM cI cJ cB cZ bd u)) u) A t) A) args s 0 0 A) (F0 m 4 ls [])) ∧
      (∀ (t : XT) (li : Nat → Int32) (lj : Nat → Int64) (H : Heap) (locs : List Loc) (ls : Array Slot), wpX12_thereMany k 2 t li lj Q → lv_has ls 3 [(0, .ref (bd 0)), (1, .int (li 1)), (2, .int (li 2))] → Hp D A s.heap (wM cI cJ cB cZ bd t) H locs → W p l e { frames := 1, cells := 0, slots := 0, locals := 20 } s m args below meth c H locs 0 0 (MQ below (va_Qi (fun r u => Q r u) (fun u t => xEnd D ((fun u : XT => (wM cI cJ cB cZ bd u)) u) A t) A) args s 0 0 A) (F0 m 27 ls [.int (li 101), .int (li 100)])) := by
    intro k
    induction k with
    | zero => exact ⟨fun _ _ _ _ _ _ hR => False.elim hR, fun _ _ _ _ _ _ hR => False.elim hR, fun _ _ _ _ _ _ hR => False.elim hR⟩
    | succ k ih =>
      refine ⟨?_, ?_, ?_⟩
      · intro t li lj H locs ls hR hl h
        have hR : wbX12_thereMany_0 (wpX12_thereMany k) k t li lj Q := hR
        unfold wbX12_thereMany_0 at hR
        refine lv_iconst (v := 0) hx hb dX12_thereMany_0 (by decide) ?_
        refine lv_istore_n (lv' := [(1, .int 0), (0, .ref (bd 0))]) hx hb dX12_thereMany_1 rfl hl (by decide) rfl (fun ls hl => ?_)
        refine lv_iconst (v := 0) hx hb dX12_thereMany_2 (by decide) ?_
        refine lv_istore_n (lv' := [(2, .int 0), (1, .int 0), (0, .ref (bd 0))]) hx hb dX12_thereMany_3 rfl hl (by decide) rfl (fun ls hl => ?_)
        exact ih.2.1 t (uI (uI li 1 0) 2 0) lj H locs ls hR (lv_sub hl [2, 1, 0] rfl) h
      · intro t li lj H locs ls hR hl h
        have hR : wbX12_thereMany_1 (wpX12_thereMany k) k t li lj Q := hR
        unfold wbX12_thereMany_1 at hR
        refine lv_iload_n hx hb dX12_thereMany_4 rfl (lv_at hl 2 rfl) ?_
        refine lv_aload_n hx hb dX12_thereMany_5 rfl (lv_at hl 0 rfl) ?_
        refine x_get (ci := 12) (C := RX12) (T := TX12) (N := 31) (v := .int (t.1 3)) B h hin12 0 5 rfl rfl (by decide) (by decide +kernel) rfl dX12_thereMany_6 ?_
        refine lv_icmp_ge (tgt := 38) hx hb dX12_thereMany_9 (by decide) (fun c_1 => ?_) (fun c_1 => ?_)
        · have hR := hR.1 c_1
          refine lv_iload_n hx hb dX12_thereMany_38 rfl (lv_at hl 1 rfl) ?_
          exact x_iret (w1 := (fun u : XT => (wM cI cJ cB cZ bd u))) t B h hr rfl hR dX12_thereMany_39
        · have hR := hR.2 c_1
          refine lv_iload_n hx hb dX12_thereMany_12 rfl (lv_at hl 1 rfl) ?_
          refine lv_aload_n hx hb dX12_thereMany_13 rfl (lv_at hl 0 rfl) ?_
          refine x_get (ci := 12) (C := RX12) (T := TX12) (N := 31) (v := .ref (bd 6)) B h hin12 0 9 rfl rfl (by decide) (by decide +kernel) rfl dX12_thereMany_14 ?_
          refine lv_iload_n hx hb dX12_thereMany_17 rfl (lv_at hl 2 rfl) ?_
          obtain ⟨hb_2, hR⟩ := hR
          refine va_zald (f := (t.2.2.1 5)) hx hb B.2.1 h.1 6 3 rfl rfl hb_2 dX12_thereMany_18 ?_
          refine lv_topi (fun v_2 ev_2 => ?_)
          have hR := hR v_2 ev_2
          refine lv_if_ne (tgt := 26) hx hb dX12_thereMany_19 (by decide) (fun c_3 => ?_) (fun c_3 => ?_)
          · have hR := hR.1 c_3
            refine lv_iconst (v := 0) hx hb dX12_thereMany_26 (by decide) ?_
            exact ih.2.2 t (uI (uI li 101 0) 100 (li 1)) lj H locs ls hR (lv_sub hl [0, 1, 2] rfl) h
          · have hR := hR.2 c_3
            refine lv_iconst (v := 1) hx hb dX12_thereMany_22 (by decide) ?_
            refine lv_goto (tgt := 27) hx hb dX12_thereMany_23 (by decide) ?_
            exact ih.2.2 t (uI (uI li 101 1) 100 (li 1)) lj H locs ls hR (lv_sub hl [0, 1, 2] rfl) h
      · intro t li lj H locs ls hR hl h
        have hR : wbX12_thereMany_2 (wpX12_thereMany k) k t li lj Q := hR
        unfold wbX12_thereMany_2 at hR
        refine x_cSIE (n := 1) (As := [.int (li 101)]) (rest := [.int (li 100)]) B h (wkX12_truth l D cI cJ cB cZ bd k (li 101) _ hR) ⟨⟨_, rfl⟩, by decide +kernel, Nat.le_of_ble_eq_true rfl, Nat.le_of_ble_eq_true rfl⟩ gX12_thereMany_X12_truth rfl hl.1 rfl (Nat.le_of_ble_eq_true rfl) dX12_thereMany_27 ⟨Nat.le_of_ble_eq_true rfl, Nat.le_of_ble_eq_true rfl⟩ (fun r_4 _ H locs hR h => ?_)
        refine lv_iadd hx hb dX12_thereMany_30 ?_
        refine lv_topi (fun v_5 ev_5 => ?_)
        have hR := hR v_5 ev_5
        refine lv_istore_n (lv' := [(1, .int v_5), (0, .ref (bd 0)), (2, .int (li 2))]) hx hb dX12_thereMany_31 rfl hl (by decide) rfl (fun ls hl => ?_)
        obtain ⟨v_6, ev_6⟩ : ∃ v : Int32, v = (li 2) + Int32.ofInt 1 := ⟨_, rfl⟩
        have hR := hR v_6 ev_6
        refine lv_iinc (v := v_6) (lv' := [(2, .int v_6), (1, .int v_5), (0, .ref (bd 0))]) hx hb dX12_thereMany_32 hl (k := 2) rfl ev_6.symm (by decide) rfl (fun ls hl => ?_)
        refine lv_goto (tgt := 4) hx hb dX12_thereMany_35 (by decide) ?_
        exact ih.2.1 t (uI (uI li 1 v_5) 2 v_6) lj H locs ls hR (lv_sub hl [2, 1, 0] rfl) h
  exact (main k).1 t _ _ s.heap [] ls hR hl h
set_option maxRecDepth 20000 in
theorem ggX12_collapse_X12_isThere : GoodIn wsX12_collapse wsX12_isThere := goodIn_r _ [6, 1, 7, 8, 9, 5, 10, 11, 12, 13, 14, 65, 66, 67, 68, 69, 70, 71, 72, 73, 74, 75, 76, 77, 78, 79, 80, 81, 82, 83, 84, 85, 86, 87, 88, 89, 90, 91, 92, 93, 94, 95] (by decide +kernel) (by decide +kernel)
set_option maxRecDepth 20000 in
theorem gX12_collapse_X12_isThere : GoodIn wsX12_collapse (wsV RX12 156 RX12 yX12_isThere wsX12_isThere) := goodIn_app (goodIn_of _ (by decide +kernel)) ggX12_collapse_X12_isThere
set_option maxRecDepth 20000 in
theorem ggX12_collapse_X12_isFreeFace : GoodIn wsX12_collapse wsX12_isFreeFace := goodIn_r _ [18, 2, 3, 4, 5, 6, 1, 7, 8, 9, 10, 11, 12, 13, 14, 19, 20, 21, 22, 23, 24, 25, 26, 27, 28, 29, 30, 31, 32, 33, 34, 35, 36, 37, 38, 39, 40, 41, 42, 43, 44, 45, 46, 47, 48, 49, 65, 66, 67, 68, 69, 70, 71, 72, 73, 74, 75, 76, 77, 78, 79, 80, 81, 82, 83, 84, 85, 86, 87, 88, 89, 90, 91, 92, 93, 94, 95] (by decide +kernel) (by decide +kernel)
set_option maxRecDepth 20000 in
theorem gX12_collapse_X12_isFreeFace : GoodIn wsX12_collapse (wsV RX12 265 RX12 yX12_isFreeFace wsX12_isFreeFace) := goodIn_app (goodIn_of _ (by decide +kernel)) ggX12_collapse_X12_isFreeFace
set_option maxRecDepth 20000 in
theorem ggX12_collapse_X12_remembers : GoodIn wsX12_collapse wsX12_remembers := goodIn_r _ [53, 54, 55, 56, 1, 43, 44, 5, 45, 65, 66, 67, 68, 69, 70, 71, 72, 73, 74, 75, 76, 77, 78, 79, 80, 81, 82, 83, 84, 85, 86, 87, 88, 89, 90, 91, 92, 93, 94, 95] (by decide +kernel) (by decide +kernel)
set_option maxRecDepth 20000 in
theorem gX12_collapse_X12_remembers : GoodIn wsX12_collapse (wsV RX12 194 RX12 yX12_remembers wsX12_remembers) := goodIn_app (goodIn_of _ (by decide +kernel)) ggX12_collapse_X12_remembers
set_option maxRecDepth 20000 in
theorem ggX12_collapse_X12_overOf : GoodIn wsX12_collapse wsX12_overOf := goodIn_r _ [49, 23, 24, 25, 5, 26, 1, 27, 28, 29, 30, 31, 32, 33, 34, 35, 36, 37, 38, 39, 40, 41, 42, 65, 66, 67, 68, 69, 70, 71, 72, 73, 74, 75, 76, 77, 78, 79, 80, 81, 82, 83, 84, 85, 86, 87, 88, 89, 90, 91, 92, 93, 94, 95] (by decide +kernel) (by decide +kernel)
set_option maxRecDepth 20000 in
theorem gX12_collapse_X12_overOf : GoodIn wsX12_collapse (wsV RX12 262 RX12 yX12_overOf wsX12_overOf) := goodIn_app (goodIn_of _ (by decide +kernel)) ggX12_collapse_X12_overOf
set_option maxRecDepth 20000 in
theorem ggX12_collapse_X12_frees : GoodIn wsX12_collapse wsX12_frees := goodIn_r _ [60, 56, 65, 66, 67, 68, 69, 70, 71, 72, 73, 74, 75, 76, 77, 78, 79, 80, 81, 82, 83, 84, 85, 86, 87, 88, 89, 90, 91, 92, 93, 94, 95] (by decide +kernel) (by decide +kernel)
set_option maxRecDepth 20000 in
theorem gX12_collapse_X12_frees : GoodIn wsX12_collapse (wsV RX12 191 RX12 yX12_frees wsX12_frees) := goodIn_app (goodIn_of _ (by decide +kernel)) ggX12_collapse_X12_frees
set_option maxRecDepth 20000 in
theorem ggX12_collapse_X12_thereMany : GoodIn wsX12_collapse wsX12_thereMany := goodIn_r _ [64, 11, 1, 43, 44, 5, 45, 65, 66, 67, 68, 69, 70, 71, 72, 73, 74, 75, 76, 77, 78, 79, 80, 81, 82, 83, 84, 85, 86, 87, 88, 89, 90, 91, 92, 93, 94, 95] (by decide +kernel) (by decide +kernel)
set_option maxRecDepth 20000 in
theorem gX12_collapse_X12_thereMany : GoodIn wsX12_collapse (wsV RX12 268 RX12 yX12_thereMany wsX12_thereMany) := goodIn_app (goodIn_of _ (by decide +kernel)) ggX12_collapse_X12_thereMany
def wbX12_collapse_0 (rec : Nat → XT → (Nat → Int32) → (Nat → Int64) → (Int32 → XT → Prop) → Prop) (k : Nat) (t : XT) (li : Nat → Int32) (lj : Nat → Int64) (Q : Int32 → XT → Prop) : Prop :=
  (wqX12_isThere k t (li 1) (fun r_1 t_1 => ((¬ r_1 = 0) → (wqX12_isFreeFace k t_1 (li 1) (fun r_3 t_3 => ((¬ r_3 = 0) → (wqX12_remembers k t_3  (fun t_5 => (wqX12_overOf k t_5 (li 1) (fun r_6 t_6 => (wqX12_frees k t_6 (li 1) (fun t_7 => (wqX12_frees k t_7 r_6 (fun t_8 => (vp_in (li 1) 60 ∧ (∀ t_9 : XT, t_9 = sA t_8 5 (upd (t_8.2.2.1 5) (li 1).toNatClampNeg (vp_nar .boolean 1)) → (vp_in r_6 60 ∧ (∀ t_10 : XT, t_10 = sA t_9 5 (upd (t_9.2.2.1 5) r_6.toNatClampNeg (vp_nar .boolean 1)) → (wqX12_thereMany k t_10  (fun r_11 t_11 => Q r_11 t_11))))))))))))))) ∧ ((r_3 = 0) → Q (-2) t_3)))) ∧ ((r_1 = 0) → Q (-1) t_1)))
def wpX12_collapse : Nat → Nat → XT → (Nat → Int32) → (Nat → Int64) → (Int32 → XT → Prop) → Prop
  | 0, _, _, _, _, _ => False
  | k + 1, 0, t, li, lj, Q => wbX12_collapse_0 (wpX12_collapse k) k t li lj Q
  | _ + 1, _, _, _, _, _ => False
def wqX12_collapse (k : Nat) (t : XT) (a1 : Int32) (Q : Int32 → XT → Prop) : Prop := wpX12_collapse k 0 t (uI (fun _ => 0) 1 a1) (fun _ => 0) Q
set_option maxHeartbeats 8000000 in
set_option maxRecDepth 100000 in
theorem wkX12_collapse (l : Launch) (D : va_G) (cI cJ cB cZ : ClassId) (bd : Nat → Nat) (k : Nat) (t : XT) (a1 : Int32) (Q : Int32 → XT → Prop) (hR : wqX12_collapse k t a1 Q) : MetI l yX12_collapse wsX12_collapse 6 129 0 0 D (TYS cI cJ cB cZ) (wM cI cJ cB cZ bd t) [.ref (bd 0), .int a1] (fun r u => Q r u) (fun u : XT => (wM cI cJ cB cZ bd u)) := by
  refine x_startI (ty := .int) (cc := cX12_collapse) (by decide) rfl (Nat.le_of_ble_eq_true rfl) ?_
  intro p e s m args below meth c A ls B hr hnm h hl
  have hx := B.1.1
  have hb := B.1.2.1
  have hml := B.1.2.2.1
  have hts := B.1.2.2.2.2
  have hown : s.vm.findClass RX12 = some m.cls := B.1.2.2.2.1
  have hin12 : ∀ w ∈ u_ws RX12 TX12 31, w ∈ wsX12_collapse := by decide +kernel
  have main : ∀ k : Nat, (∀ (t : XT) (li : Nat → Int32) (lj : Nat → Int64) (H : Heap) (locs : List Loc) (ls : Array Slot), wpX12_collapse k 0 t li lj Q → lv_has ls 3 [(0, .ref (bd 0)), (1, .int (li 1))] → Hp D A s.heap (wM cI cJ cB cZ bd t) H locs → W p l e { frames := 6, cells := 0, slots := 0, locals := 129 } s m args below meth c H locs 0 0 (MQ below (va_Qi (fun r u => Q r u) (fun u t => xEnd D ((fun u : XT => (wM cI cJ cB cZ bd u)) u) A t) A) args s 0 0 A) (F0 m 0 ls [])) := by
    intro k
    induction k with
    | zero => exact fun _ _ _ _ _ _ hR => False.elim hR
    | succ k ih =>
      intro t li lj H locs ls hR hl h
      have hR : wbX12_collapse_0 (wpX12_collapse k) k t li lj Q := hR
      unfold wbX12_collapse_0 at hR
      refine lv_aload_n hx hb dX12_collapse_0 rfl (lv_at hl 0 rfl) ?_
      refine lv_iload_n hx hb dX12_collapse_1 rfl (lv_at hl 1 rfl) ?_
      refine x_cVIF (n := 1) (As := [.int (li 1)]) (rest := []) B h (wkX12_isThere l D cI cJ cB cZ bd k t (li 1) _ hR) ⟨⟨_, rfl⟩, by decide +kernel, Nat.le_of_ble_eq_true rfl, Nat.le_of_ble_eq_true rfl⟩ gX12_collapse_X12_isThere (show ((wM cI cJ cB cZ bd t) : va_W)[0]? = some (_, .inr (12, _)) from rfl) rfl rfl hl.1 rfl (Nat.le_of_ble_eq_true rfl) dX12_collapse_2 ⟨Nat.le_of_ble_eq_true rfl, Nat.le_of_ble_eq_true rfl⟩ (fun r_1 t_1 H locs hR h => ?_)
      refine lv_if_ne (tgt := 10) hx hb dX12_collapse_5 (by decide) (fun c_2 => ?_) (fun c_2 => ?_)
      · have hR := hR.1 c_2
        refine lv_aload_n hx hb dX12_collapse_10 rfl (lv_at hl 0 rfl) ?_
        refine lv_iload_n hx hb dX12_collapse_11 rfl (lv_at hl 1 rfl) ?_
        refine x_cVIF (n := 1) (As := [.int (li 1)]) (rest := []) B h (wkX12_isFreeFace l D cI cJ cB cZ bd k t_1 (li 1) _ hR) ⟨⟨_, rfl⟩, by decide +kernel, Nat.le_of_ble_eq_true rfl, Nat.le_of_ble_eq_true rfl⟩ gX12_collapse_X12_isFreeFace (show ((wM cI cJ cB cZ bd t_1) : va_W)[0]? = some (_, .inr (12, _)) from rfl) rfl rfl hl.1 rfl (Nat.le_of_ble_eq_true rfl) dX12_collapse_12 ⟨Nat.le_of_ble_eq_true rfl, Nat.le_of_ble_eq_true rfl⟩ (fun r_3 t_3 H locs hR h => ?_)
        refine lv_if_ne (tgt := 21) hx hb dX12_collapse_15 (by decide) (fun c_4 => ?_) (fun c_4 => ?_)
        · have hR := hR.1 c_4
          refine lv_aload_n hx hb dX12_collapse_21 rfl (lv_at hl 0 rfl) ?_
          refine x_cVVF (n := 0) (As := []) (rest := []) B h (wkX12_remembers l D cI cJ cB cZ bd k t_3  _ hR) ⟨⟨_, rfl⟩, by decide +kernel, Nat.le_of_ble_eq_true rfl, Nat.le_of_ble_eq_true rfl⟩ gX12_collapse_X12_remembers (show ((wM cI cJ cB cZ bd t_3) : va_W)[0]? = some (_, .inr (12, _)) from rfl) rfl rfl hl.1 rfl (Nat.le_of_ble_eq_true rfl) dX12_collapse_22 ⟨Nat.le_of_ble_eq_true rfl, Nat.le_of_ble_eq_true rfl⟩ (fun t_5 H locs hR h => ?_)
          refine lv_aload_n hx hb dX12_collapse_25 rfl (lv_at hl 0 rfl) ?_
          refine lv_iload_n hx hb dX12_collapse_26 rfl (lv_at hl 1 rfl) ?_
          refine x_cVIF (n := 1) (As := [.int (li 1)]) (rest := []) B h (wkX12_overOf l D cI cJ cB cZ bd k t_5 (li 1) _ hR) ⟨⟨_, rfl⟩, by decide +kernel, Nat.le_of_ble_eq_true rfl, Nat.le_of_ble_eq_true rfl⟩ gX12_collapse_X12_overOf (show ((wM cI cJ cB cZ bd t_5) : va_W)[0]? = some (_, .inr (12, _)) from rfl) rfl rfl hl.1 rfl (Nat.le_of_ble_eq_true rfl) dX12_collapse_27 ⟨Nat.le_of_ble_eq_true rfl, Nat.le_of_ble_eq_true rfl⟩ (fun r_6 t_6 H locs hR h => ?_)
          refine lv_istore_n (lv' := [(2, .int r_6), (0, .ref (bd 0)), (1, .int (li 1))]) hx hb dX12_collapse_30 rfl hl (by decide) rfl (fun ls hl => ?_)
          refine lv_aload_n hx hb dX12_collapse_31 rfl (lv_at hl 1 rfl) ?_
          refine lv_iload_n hx hb dX12_collapse_32 rfl (lv_at hl 2 rfl) ?_
          refine x_cVVF (n := 1) (As := [.int (li 1)]) (rest := []) B h (wkX12_frees l D cI cJ cB cZ bd k t_6 (li 1) _ hR) ⟨⟨_, rfl⟩, by decide +kernel, Nat.le_of_ble_eq_true rfl, Nat.le_of_ble_eq_true rfl⟩ gX12_collapse_X12_frees (show ((wM cI cJ cB cZ bd t_6) : va_W)[0]? = some (_, .inr (12, _)) from rfl) rfl rfl hl.1 rfl (Nat.le_of_ble_eq_true rfl) dX12_collapse_33 ⟨Nat.le_of_ble_eq_true rfl, Nat.le_of_ble_eq_true rfl⟩ (fun t_7 H locs hR h => ?_)
          refine lv_aload_n hx hb dX12_collapse_36 rfl (lv_at hl 1 rfl) ?_
          refine lv_iload_n hx hb dX12_collapse_37 rfl (lv_at hl 0 rfl) ?_
          refine x_cVVF (n := 1) (As := [.int r_6]) (rest := []) B h (wkX12_frees l D cI cJ cB cZ bd k t_7 r_6 _ hR) ⟨⟨_, rfl⟩, by decide +kernel, Nat.le_of_ble_eq_true rfl, Nat.le_of_ble_eq_true rfl⟩ gX12_collapse_X12_frees (show ((wM cI cJ cB cZ bd t_7) : va_W)[0]? = some (_, .inr (12, _)) from rfl) rfl rfl hl.1 rfl (Nat.le_of_ble_eq_true rfl) dX12_collapse_38 ⟨Nat.le_of_ble_eq_true rfl, Nat.le_of_ble_eq_true rfl⟩ (fun t_8 H locs hR h => ?_)
          refine lv_aload_n hx hb dX12_collapse_41 rfl (lv_at hl 1 rfl) ?_
          refine x_get (ci := 12) (C := RX12) (T := TX12) (N := 31) (v := .ref (bd 6)) B h hin12 0 9 rfl rfl (by decide) (by decide +kernel) rfl dX12_collapse_42 ?_
          refine lv_iload_n hx hb dX12_collapse_45 rfl (lv_at hl 2 rfl) ?_
          refine lv_iconst (v := 1) hx hb dX12_collapse_46 (by decide) ?_
          obtain ⟨hb_9, hR⟩ := hR
          refine z_zast (f := (t_8.2.2.1 5)) B h 6 3 rfl rfl hb_9 dX12_collapse_47 (fun H locs h => ?_)
          obtain ⟨t_9, et_9⟩ : ∃ v : XT, v = sA t_8 5 (upd (t_8.2.2.1 5) (li 1).toNatClampNeg (vp_nar .boolean 1)) := ⟨_, rfl⟩
          have hR := hR t_9 et_9
          have h : Hp D A s.heap (wM cI cJ cB cZ bd t_9) H locs := by rw [et_9]; exact h
          refine lv_aload_n hx hb dX12_collapse_48 rfl (lv_at hl 1 rfl) ?_
          refine x_get (ci := 12) (C := RX12) (T := TX12) (N := 31) (v := .ref (bd 6)) B h hin12 0 9 rfl rfl (by decide) (by decide +kernel) rfl dX12_collapse_49 ?_
          refine lv_iload_n hx hb dX12_collapse_52 rfl (lv_at hl 0 rfl) ?_
          refine lv_iconst (v := 1) hx hb dX12_collapse_53 (by decide) ?_
          obtain ⟨hb_10, hR⟩ := hR
          refine z_zast (f := (t_9.2.2.1 5)) B h 6 3 rfl rfl hb_10 dX12_collapse_54 (fun H locs h => ?_)
          obtain ⟨t_10, et_10⟩ : ∃ v : XT, v = sA t_9 5 (upd (t_9.2.2.1 5) r_6.toNatClampNeg (vp_nar .boolean 1)) := ⟨_, rfl⟩
          have hR := hR t_10 et_10
          have h : Hp D A s.heap (wM cI cJ cB cZ bd t_10) H locs := by rw [et_10]; exact h
          refine lv_aload_n hx hb dX12_collapse_55 rfl (lv_at hl 1 rfl) ?_
          refine x_cVIF (n := 0) (As := []) (rest := []) B h (wkX12_thereMany l D cI cJ cB cZ bd k t_10  _ hR) ⟨⟨_, rfl⟩, by decide +kernel, Nat.le_of_ble_eq_true rfl, Nat.le_of_ble_eq_true rfl⟩ gX12_collapse_X12_thereMany (show ((wM cI cJ cB cZ bd t_10) : va_W)[0]? = some (_, .inr (12, _)) from rfl) rfl rfl hl.1 rfl (Nat.le_of_ble_eq_true rfl) dX12_collapse_56 ⟨Nat.le_of_ble_eq_true rfl, Nat.le_of_ble_eq_true rfl⟩ (fun r_11 t_11 H locs hR h => ?_)
          exact x_iret (w1 := (fun u : XT => (wM cI cJ cB cZ bd u))) t_11 B h hr rfl hR dX12_collapse_59
        · have hR := hR.2 c_4
          refine lv_bipush (v := (-2)) hx hb dX12_collapse_18 (by decide) ?_
          exact x_iret (w1 := (fun u : XT => (wM cI cJ cB cZ bd u))) t_3 B h hr rfl hR dX12_collapse_20
      · have hR := hR.2 c_2
        refine lv_iconst (v := (-1)) hx hb dX12_collapse_8 (by decide) ?_
        exact x_iret (w1 := (fun u : XT => (wM cI cJ cB cZ bd u))) t_1 B h hr rfl hR dX12_collapse_9
  exact (main k) t _ _ s.heap [] ls hR hl h
def wbX12_undo_0 (rec : Nat → XT → (Nat → Int32) → (Nat → Int64) → (Int32 → XT → Prop) → Prop) (k : Nat) (t : XT) (li : Nat → Int32) (lj : Nat → Int64) (Q : Int32 → XT → Prop) : Prop :=
  ((¬ (t.1 4) = 0) → (∀ v_2 : Int32, v_2 = ((t.1 4) - 1) → (∀ t_3 : XT, t_3 = sI t 4 v_2 → (∀ v_4 : Int32, v_4 = (120 * (t_3.1 4)) → rec 1 t_3 (uI (uI li 1 v_4) 2 0) lj Q)))) ∧ (((t.1 4) = 0) → Q (-1) t)
def wbX12_undo_1 (rec : Nat → XT → (Nat → Int32) → (Nat → Int64) → (Int32 → XT → Prop) → Prop) (k : Nat) (t : XT) (li : Nat → Int32) (lj : Nat → Int64) (Q : Int32 → XT → Prop) : Prop :=
  (((60 : Int32) ≤ (li 2)) → Q (t.1 4) t) ∧ (¬ ((60 : Int32) ≤ (li 2)) → (∀ v_6 : Int32, v_6 = ((li 1) + (li 2)) → (vp_in v_6 1920 ∧ (∀ v_7 : Int32, v_7 = (t.2.2.1 8) v_6.toNatClampNeg → (vp_in (li 2) 60 ∧ (∀ t_8 : XT, t_8 = sA t 4 (upd (t.2.2.1 4) (li 2).toNatClampNeg v_7) → (∀ v_9 : Int32, v_9 = ((li 1) + 60) → (∀ v_10 : Int32, v_10 = (v_9 + (li 2)) → (vp_in v_10 1920 ∧ (∀ v_11 : Int32, v_11 = (t_8.2.2.1 8) v_10.toNatClampNeg → ((¬ v_11 = 1) → rec 2 t_8 (uI (uI li 102 0) 101 (li 2)) lj Q) ∧ ((v_11 = 1) → rec 2 t_8 (uI (uI li 102 1) 101 (li 2)) lj Q)))))))))))
def wbX12_undo_2 (rec : Nat → XT → (Nat → Int32) → (Nat → Int64) → (Int32 → XT → Prop) → Prop) (k : Nat) (t : XT) (li : Nat → Int32) (lj : Nat → Int64) (Q : Int32 → XT → Prop) : Prop :=
  (vp_in (li 101) 60 ∧ (∀ t_13 : XT, t_13 = sA t 5 (upd (t.2.2.1 5) (li 101).toNatClampNeg (vp_nar .boolean (li 102))) → (∀ v_14 : Int32, v_14 = (li 2) + Int32.ofInt 1 → rec 1 t_13 (uI li 2 v_14) lj Q)))
def wpX12_undo : Nat → Nat → XT → (Nat → Int32) → (Nat → Int64) → (Int32 → XT → Prop) → Prop
  | 0, _, _, _, _, _ => False
  | k + 1, 0, t, li, lj, Q => wbX12_undo_0 (wpX12_undo k) k t li lj Q
  | k + 1, 1, t, li, lj, Q => wbX12_undo_1 (wpX12_undo k) k t li lj Q
  | k + 1, 2, t, li, lj, Q => wbX12_undo_2 (wpX12_undo k) k t li lj Q
  | _ + 1, _, _, _, _, _ => False
def wqX12_undo (k : Nat) (t : XT)  (Q : Int32 → XT → Prop) : Prop := wpX12_undo k 0 t (fun _ => 0) (fun _ => 0) Q
set_option maxHeartbeats 8000000 in
set_option maxRecDepth 100000 in
theorem wkX12_undo (l : Launch) (D : va_G) (cI cJ cB cZ : ClassId) (bd : Nat → Nat) (k : Nat) (t : XT)  (Q : Int32 → XT → Prop) (hR : wqX12_undo k t  Q) : MetI l yX12_undo wsX12_undo 0 0 0 0 D (TYS cI cJ cB cZ) (wM cI cJ cB cZ bd t) [.ref (bd 0)] (fun r u => Q r u) (fun u : XT => (wM cI cJ cB cZ bd u)) := by
  refine x_startI (ty := .int) (cc := cX12_undo) (by decide) rfl (Nat.le_of_ble_eq_true rfl) ?_
  intro p e s m args below meth c A ls B hr hnm h hl
  have hx := B.1.1
  have hb := B.1.2.1
  have hml := B.1.2.2.1
  have hts := B.1.2.2.2.2
  have hown : s.vm.findClass RX12 = some m.cls := B.1.2.2.2.1
  have hin12 : ∀ w ∈ u_ws RX12 TX12 31, w ∈ wsX12_undo := by decide +kernel
  have main : ∀ k : Nat, (∀ (t : XT) (li : Nat → Int32) (lj : Nat → Int64) (H : Heap) (locs : List Loc) (ls : Array Slot), wpX12_undo k 0 t li lj Q → lv_has ls 3 [(0, .ref (bd 0))] → Hp D A s.heap (wM cI cJ cB cZ bd t) H locs → W p l e { frames := 0, cells := 0, slots := 0, locals := 0 } s m args below meth c H locs 0 0 (MQ below (va_Qi (fun r u => Q r u) (fun u t => xEnd D ((fun u : XT => (wM cI cJ cB cZ bd u)) u) A t) A) args s 0 0 A) (F0 m 0 ls [])) ∧
      (∀ (t : XT) (li : Nat → Int32) (lj : Nat → Int64) (H : Heap) (locs : List Loc) (ls : Array Slot), wpX12_undo k 1 t li lj Q → lv_has ls 3 [(0, .ref (bd 0)), (1, .int (li 1)), (2, .int (li 2))] → Hp D A s.heap (wM cI cJ cB cZ bd t) H locs → W p l e { frames := 0, cells := 0, slots := 0, locals := 0 } s m args below meth c H locs 0 0 (MQ below (va_Qi (fun r u => Q r u) (fun u t => xEnd D ((fun u : XT => (wM cI cJ cB cZ bd u)) u) A t) A) args s 0 0 A) (F0 m 29 ls [])) ∧
      (∀ (t : XT) (li : Nat → Int32) (lj : Nat → Int64) (H : Heap) (locs : List Loc) (ls : Array Slot), wpX12_undo k 2 t li lj Q → lv_has ls 3 [(0, .ref (bd 0)), (1, .int (li 1)), (2, .int (li 2))] → Hp D A s.heap (wM cI cJ cB cZ bd t) H locs → W p l e { frames := 0, cells := 0, slots := 0, locals := 0 } s m args below meth c H locs 0 0 (MQ below (va_Qi (fun r u => Q r u) (fun u t => xEnd D ((fun u : XT => (wM cI cJ cB cZ bd u)) u) A t) A) args s 0 0 A) (F0 m 74 ls [.int (li 102), .int (li 101), .ref (bd 6)])) := by
    intro k
    induction k with
    | zero => exact ⟨fun _ _ _ _ _ _ hR => False.elim hR, fun _ _ _ _ _ _ hR => False.elim hR, fun _ _ _ _ _ _ hR => False.elim hR⟩
    | succ k ih =>
      refine ⟨?_, ?_, ?_⟩
      · intro t li lj H locs ls hR hl h
        have hR : wbX12_undo_0 (wpX12_undo k) k t li lj Q := hR
        unfold wbX12_undo_0 at hR
        refine lv_aload_n hx hb dX12_undo_0 rfl (lv_at hl 0 rfl) ?_
        refine x_get (ci := 12) (C := RX12) (T := TX12) (N := 31) (v := .int (t.1 4)) B h hin12 0 13 rfl rfl (by decide) (by decide +kernel) rfl dX12_undo_1 ?_
        refine lv_if_ne (tgt := 9) hx hb dX12_undo_4 (by decide) (fun c_1 => ?_) (fun c_1 => ?_)
        · have hR := hR.1 c_1
          refine lv_aload_n hx hb dX12_undo_9 rfl (lv_at hl 0 rfl) ?_
          refine lv_dup hx hb dX12_undo_10 rfl ?_
          refine x_get (ci := 12) (C := RX12) (T := TX12) (N := 31) (v := .int (t.1 4)) B h hin12 0 13 rfl rfl (by decide) (by decide +kernel) rfl dX12_undo_11 ?_
          refine lv_iconst (v := 1) hx hb dX12_undo_14 (by decide) ?_
          refine lv_isub hx hb dX12_undo_15 ?_
          refine lv_topi (fun v_2 ev_2 => ?_)
          have hR := hR v_2 ev_2
          refine x_put (ci := 12) (C := RX12) (T := TX12) (N := 31) (v := .int v_2) (ty := .int) B h hin12 tyX12 tyX12_ok nmX12 0 13 rfl rfl (by decide) (by decide +kernel) rfl rfl rfl rfl (Nat.le_of_ble_eq_true rfl) dX12_undo_16 (fun H locs h => ?_)
          obtain ⟨t_3, et_3⟩ : ∃ v : XT, v = sI t 4 v_2 := ⟨_, rfl⟩
          have hR := hR t_3 et_3
          have h : Hp D A s.heap (wM cI cJ cB cZ bd t_3) H locs := by rw [et_3]; exact h
          refine lv_bipush (v := 120) hx hb dX12_undo_19 (by decide) ?_
          refine lv_aload_n hx hb dX12_undo_21 rfl (lv_at hl 0 rfl) ?_
          refine x_get (ci := 12) (C := RX12) (T := TX12) (N := 31) (v := .int (t_3.1 4)) B h hin12 0 13 rfl rfl (by decide) (by decide +kernel) rfl dX12_undo_22 ?_
          refine lv_imul hx hb dX12_undo_25 ?_
          refine lv_topi (fun v_4 ev_4 => ?_)
          have hR := hR v_4 ev_4
          refine lv_istore_n (lv' := [(1, .int v_4), (0, .ref (bd 0))]) hx hb dX12_undo_26 rfl hl (by decide) rfl (fun ls hl => ?_)
          refine lv_iconst (v := 0) hx hb dX12_undo_27 (by decide) ?_
          refine lv_istore_n (lv' := [(2, .int 0), (1, .int v_4), (0, .ref (bd 0))]) hx hb dX12_undo_28 rfl hl (by decide) rfl (fun ls hl => ?_)
          exact ih.2.1 t_3 (uI (uI li 1 v_4) 2 0) lj H locs ls hR (lv_sub hl [2, 1, 0] rfl) h
        · have hR := hR.2 c_1
          refine lv_iconst (v := (-1)) hx hb dX12_undo_7 (by decide) ?_
          exact x_iret (w1 := (fun u : XT => (wM cI cJ cB cZ bd u))) t B h hr rfl hR dX12_undo_8
      · intro t li lj H locs ls hR hl h
        have hR : wbX12_undo_1 (wpX12_undo k) k t li lj Q := hR
        unfold wbX12_undo_1 at hR
        refine lv_iload_n hx hb dX12_undo_29 rfl (lv_at hl 2 rfl) ?_
        refine lv_bipush (v := 60) hx hb dX12_undo_30 (by decide) ?_
        refine lv_icmp_ge (tgt := 81) hx hb dX12_undo_32 (by decide) (fun c_5 => ?_) (fun c_5 => ?_)
        · have hR := hR.1 c_5
          refine lv_aload_n hx hb dX12_undo_81 rfl (lv_at hl 0 rfl) ?_
          refine x_get (ci := 12) (C := RX12) (T := TX12) (N := 31) (v := .int (t.1 4)) B h hin12 0 13 rfl rfl (by decide) (by decide +kernel) rfl dX12_undo_82 ?_
          exact x_iret (w1 := (fun u : XT => (wM cI cJ cB cZ bd u))) t B h hr rfl hR dX12_undo_85
        · have hR := hR.2 c_5
          refine lv_aload_n hx hb dX12_undo_35 rfl (lv_at hl 0 rfl) ?_
          refine x_get (ci := 12) (C := RX12) (T := TX12) (N := 31) (v := .ref (bd 5)) B h hin12 0 8 rfl rfl (by decide) (by decide +kernel) rfl dX12_undo_36 ?_
          refine lv_iload_n hx hb dX12_undo_39 rfl (lv_at hl 2 rfl) ?_
          refine lv_aload_n hx hb dX12_undo_40 rfl (lv_at hl 0 rfl) ?_
          refine x_get (ci := 12) (C := RX12) (T := TX12) (N := 31) (v := .ref (bd 9)) B h hin12 0 12 rfl rfl (by decide) (by decide +kernel) rfl dX12_undo_41 ?_
          refine lv_iload_n hx hb dX12_undo_44 rfl (lv_at hl 1 rfl) ?_
          refine lv_iload_n hx hb dX12_undo_45 rfl (lv_at hl 2 rfl) ?_
          refine lv_iadd hx hb dX12_undo_46 ?_
          refine lv_topi (fun v_6 ev_6 => ?_)
          have hR := hR v_6 ev_6
          obtain ⟨hb_7, hR⟩ := hR
          refine va_iald (f := (t.2.2.1 8)) hx hb B.2.1 h.1 9 0 rfl rfl hb_7 dX12_undo_47 ?_
          refine lv_topi (fun v_7 ev_7 => ?_)
          have hR := hR v_7 ev_7
          obtain ⟨hb_8, hR⟩ := hR
          refine z_iast (f := (t.2.2.1 4)) B h 5 0 rfl rfl hb_8 dX12_undo_48 (fun H locs h => ?_)
          obtain ⟨t_8, et_8⟩ : ∃ v : XT, v = sA t 4 (upd (t.2.2.1 4) (li 2).toNatClampNeg v_7) := ⟨_, rfl⟩
          have hR := hR t_8 et_8
          have h : Hp D A s.heap (wM cI cJ cB cZ bd t_8) H locs := by rw [et_8]; exact h
          refine lv_aload_n hx hb dX12_undo_49 rfl (lv_at hl 0 rfl) ?_
          refine x_get (ci := 12) (C := RX12) (T := TX12) (N := 31) (v := .ref (bd 6)) B h hin12 0 9 rfl rfl (by decide) (by decide +kernel) rfl dX12_undo_50 ?_
          refine lv_iload_n hx hb dX12_undo_53 rfl (lv_at hl 2 rfl) ?_
          refine lv_aload_n hx hb dX12_undo_54 rfl (lv_at hl 0 rfl) ?_
          refine x_get (ci := 12) (C := RX12) (T := TX12) (N := 31) (v := .ref (bd 9)) B h hin12 0 12 rfl rfl (by decide) (by decide +kernel) rfl dX12_undo_55 ?_
          refine lv_iload_n hx hb dX12_undo_58 rfl (lv_at hl 1 rfl) ?_
          refine lv_bipush (v := 60) hx hb dX12_undo_59 (by decide) ?_
          refine lv_iadd hx hb dX12_undo_61 ?_
          refine lv_topi (fun v_9 ev_9 => ?_)
          have hR := hR v_9 ev_9
          refine lv_iload_n hx hb dX12_undo_62 rfl (lv_at hl 2 rfl) ?_
          refine lv_iadd hx hb dX12_undo_63 ?_
          refine lv_topi (fun v_10 ev_10 => ?_)
          have hR := hR v_10 ev_10
          obtain ⟨hb_11, hR⟩ := hR
          refine va_iald (f := (t_8.2.2.1 8)) hx hb B.2.1 h.1 9 0 rfl rfl hb_11 dX12_undo_64 ?_
          refine lv_topi (fun v_11 ev_11 => ?_)
          have hR := hR v_11 ev_11
          refine lv_iconst (v := 1) hx hb dX12_undo_65 (by decide) ?_
          refine lv_icmp_ne (tgt := 73) hx hb dX12_undo_66 (by decide) (fun c_12 => ?_) (fun c_12 => ?_)
          · have hR := hR.1 c_12
            refine lv_iconst (v := 0) hx hb dX12_undo_73 (by decide) ?_
            exact ih.2.2 t_8 (uI (uI li 102 0) 101 (li 2)) lj H locs ls hR (lv_sub hl [0, 1, 2] rfl) h
          · have hR := hR.2 c_12
            refine lv_iconst (v := 1) hx hb dX12_undo_69 (by decide) ?_
            refine lv_goto (tgt := 74) hx hb dX12_undo_70 (by decide) ?_
            exact ih.2.2 t_8 (uI (uI li 102 1) 101 (li 2)) lj H locs ls hR (lv_sub hl [0, 1, 2] rfl) h
      · intro t li lj H locs ls hR hl h
        have hR : wbX12_undo_2 (wpX12_undo k) k t li lj Q := hR
        unfold wbX12_undo_2 at hR
        obtain ⟨hb_13, hR⟩ := hR
        refine z_zast (f := (t.2.2.1 5)) B h 6 3 rfl rfl hb_13 dX12_undo_74 (fun H locs h => ?_)
        obtain ⟨t_13, et_13⟩ : ∃ v : XT, v = sA t 5 (upd (t.2.2.1 5) (li 101).toNatClampNeg (vp_nar .boolean (li 102))) := ⟨_, rfl⟩
        have hR := hR t_13 et_13
        have h : Hp D A s.heap (wM cI cJ cB cZ bd t_13) H locs := by rw [et_13]; exact h
        obtain ⟨v_14, ev_14⟩ : ∃ v : Int32, v = (li 2) + Int32.ofInt 1 := ⟨_, rfl⟩
        have hR := hR v_14 ev_14
        refine lv_iinc (v := v_14) (lv' := [(2, .int v_14), (0, .ref (bd 0)), (1, .int (li 1))]) hx hb dX12_undo_75 hl (k := 2) rfl ev_14.symm (by decide) rfl (fun ls hl => ?_)
        refine lv_goto (tgt := 29) hx hb dX12_undo_78 (by decide) ?_
        exact ih.2.1 t_13 (uI li 2 v_14) lj H locs ls hR (lv_sub hl [1, 2, 0] rfl) h
  exact (main k).1 t _ _ s.heap [] ls hR hl h
