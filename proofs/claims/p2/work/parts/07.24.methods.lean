set_option maxRecDepth 20000 in
theorem ggX12_undivided_X12_cell : GoodIn wsX12_undivided wsX12_cell := goodIn_r _ [7, 8, 9, 10, 11, 12, 13, 14, 15, 16, 17, 18, 19, 20, 21, 22, 23, 24, 25, 26, 27, 28, 29, 30, 31, 32, 33, 34, 35, 36, 37, 38, 39] (by decide +kernel) (by decide +kernel)
set_option maxRecDepth 20000 in
theorem gX12_undivided_X12_cell : GoodIn wsX12_undivided (wsV RX12 280 RX12 yX12_cell wsX12_cell) := goodIn_app (goodIn_of _ (by decide +kernel)) ggX12_undivided_X12_cell
def wbX12_undivided_0 (rec : Nat → XT → (Nat → Int32) → (Nat → Int64) → (Int32 → XT → Prop) → Prop) (k : Nat) (t : XT) (li : Nat → Int32) (lj : Nat → Int64) (Q : Int32 → XT → Prop) : Prop :=
  (∀ v_1 : Int32, v_1 = ((li 1) + 1) → rec 1 t (uI li 2 v_1) lj Q)
def wbX12_undivided_1 (rec : Nat → XT → (Nat → Int32) → (Nat → Int64) → (Int32 → XT → Prop) → Prop) (k : Nat) (t : XT) (li : Nat → Int32) (lj : Nat → Int64) (Q : Int32 → XT → Prop) : Prop :=
  ((((t.1 6) : Int32) ≤ (li 2)) → Q (-1) t) ∧ (¬ (((t.1 6) : Int32) ≤ (li 2)) → (∀ v_3 : Int32, v_3 = ((li 1) + 1) → rec 2 t (uI li 3 v_3) lj Q))
def wbX12_undivided_2 (rec : Nat → XT → (Nat → Int32) → (Nat → Int64) → (Int32 → XT → Prop) → Prop) (k : Nat) (t : XT) (li : Nat → Int32) (lj : Nat → Int64) (Q : Int32 → XT → Prop) : Prop :=
  ((((t.1 7) : Int32) ≤ (li 3)) → (∀ v_5 : Int32, v_5 = (li 2) + Int32.ofInt 1 → rec 1 t (uI li 2 v_5) lj Q)) ∧ (¬ (((t.1 7) : Int32) ≤ (li 3)) → (wqX12_cell k t (li 2) (li 3) (fun r_6 t_6 => (wqX12_cell k t_6 (li 1) (li 1) (fun r_7 t_7 => ((¬ r_7 = 0) ∧ (∀ v_8 : Int64, v_8 = (r_6 - r_6 / r_7 * r_7) → (∀ v_9 : Int32, v_9 = (lg_cmp v_8 0) → ((v_9 = 0) → (∀ v_11 : Int32, v_11 = (li 3) + Int32.ofInt 1 → rec 2 t_7 (uI li 3 v_11) lj Q)) ∧ (¬ (v_9 = 0) → Q (li 2) t_7)))))))))
def wpX12_undivided : Nat → Nat → XT → (Nat → Int32) → (Nat → Int64) → (Int32 → XT → Prop) → Prop
  | 0, _, _, _, _, _ => False
  | k + 1, 0, t, li, lj, Q => wbX12_undivided_0 (wpX12_undivided k) k t li lj Q
  | k + 1, 1, t, li, lj, Q => wbX12_undivided_1 (wpX12_undivided k) k t li lj Q
  | k + 1, 2, t, li, lj, Q => wbX12_undivided_2 (wpX12_undivided k) k t li lj Q
  | _ + 1, _, _, _, _, _ => False
def wqX12_undivided (k : Nat) (t : XT) (a1 : Int32) (Q : Int32 → XT → Prop) : Prop := wpX12_undivided k 0 t (uI (fun _ => 0) 1 a1) (fun _ => 0) Q
set_option maxHeartbeats 8000000 in
set_option maxRecDepth 100000 in
theorem wkX12_undivided (l : Launch) (D : va_G) (cI cJ cB cZ : ClassId) (bd : Nat → Nat) (k : Nat) (t : XT) (a1 : Int32) (Q : Int32 → XT → Prop) (hR : wqX12_undivided k t a1 Q) : MetI l yX12_undivided wsX12_undivided 1 22 0 0 D (TYS cI cJ cB cZ) (wM cI cJ cB cZ bd t) [.ref (bd 0), .int a1] (fun r u => Q r u) (fun u : XT => (wM cI cJ cB cZ bd u)) := by
  refine x_startI (ty := .int) (cc := cX12_undivided) (by decide) rfl (Nat.le_of_ble_eq_true rfl) ?_
  intro p e s m args below meth c A ls B hr hnm h hl
  have hx := B.1.1
  have hb := B.1.2.1
  have hml := B.1.2.2.1
  have hts := B.1.2.2.2.2
  have hown : s.vm.findClass RX12 = some m.cls := B.1.2.2.2.1
  have hin12 : ∀ w ∈ u_ws RX12 TX12 31, w ∈ wsX12_undivided := by decide +kernel
  have main : ∀ k : Nat, (∀ (t : XT) (li : Nat → Int32) (lj : Nat → Int64) (H : Heap) (locs : List Loc) (ls : Array Slot), wpX12_undivided k 0 t li lj Q → lv_has ls 4 [(0, .ref (bd 0)), (1, .int (li 1))] → Hp D A s.heap (wM cI cJ cB cZ bd t) H locs → W p l e { frames := 1, cells := 0, slots := 0, locals := 22 } s m args below meth c H locs 0 0 (MQ below (va_Qi (fun r u => Q r u) (fun u t => xEnd D ((fun u : XT => (wM cI cJ cB cZ bd u)) u) A t) A) args s 0 0 A) (F0 m 0 ls [])) ∧
      (∀ (t : XT) (li : Nat → Int32) (lj : Nat → Int64) (H : Heap) (locs : List Loc) (ls : Array Slot), wpX12_undivided k 1 t li lj Q → lv_has ls 4 [(0, .ref (bd 0)), (1, .int (li 1)), (2, .int (li 2))] → Hp D A s.heap (wM cI cJ cB cZ bd t) H locs → W p l e { frames := 1, cells := 0, slots := 0, locals := 22 } s m args below meth c H locs 0 0 (MQ below (va_Qi (fun r u => Q r u) (fun u t => xEnd D ((fun u : XT => (wM cI cJ cB cZ bd u)) u) A t) A) args s 0 0 A) (F0 m 4 ls [])) ∧
      (∀ (t : XT) (li : Nat → Int32) (lj : Nat → Int64) (H : Heap) (locs : List Loc) (ls : Array Slot), wpX12_undivided k 2 t li lj Q → lv_has ls 4 [(0, .ref (bd 0)), (1, .int (li 1)), (2, .int (li 2)), (3, .int (li 3))] → Hp D A s.heap (wM cI cJ cB cZ bd t) H locs → W p l e { frames := 1, cells := 0, slots := 0, locals := 22 } s m args below meth c H locs 0 0 (MQ below (va_Qi (fun r u => Q r u) (fun u t => xEnd D ((fun u : XT => (wM cI cJ cB cZ bd u)) u) A t) A) args s 0 0 A) (F0 m 16 ls [])) := by
    intro k
    induction k with
    | zero => exact ⟨fun _ _ _ _ _ _ hR => False.elim hR, fun _ _ _ _ _ _ hR => False.elim hR, fun _ _ _ _ _ _ hR => False.elim hR⟩
    | succ k ih =>
      refine ⟨?_, ?_, ?_⟩
      · intro t li lj H locs ls hR hl h
        have hR : wbX12_undivided_0 (wpX12_undivided k) k t li lj Q := hR
        unfold wbX12_undivided_0 at hR
        refine lv_iload_n hx hb dX12_undivided_0 rfl (lv_at hl 1 rfl) ?_
        refine lv_iconst (v := 1) hx hb dX12_undivided_1 (by decide) ?_
        refine lv_iadd hx hb dX12_undivided_2 ?_
        refine lv_topi (fun v_1 ev_1 => ?_)
        have hR := hR v_1 ev_1
        refine lv_istore_n (lv' := [(2, .int v_1), (0, .ref (bd 0)), (1, .int (li 1))]) hx hb dX12_undivided_3 rfl hl (by decide) rfl (fun ls hl => ?_)
        exact ih.2.1 t (uI li 2 v_1) lj H locs ls hR (lv_sub hl [1, 2, 0] rfl) h
      · intro t li lj H locs ls hR hl h
        have hR : wbX12_undivided_1 (wpX12_undivided k) k t li lj Q := hR
        unfold wbX12_undivided_1 at hR
        refine lv_iload_n hx hb dX12_undivided_4 rfl (lv_at hl 2 rfl) ?_
        refine lv_aload_n hx hb dX12_undivided_5 rfl (lv_at hl 0 rfl) ?_
        refine x_get (ci := 12) (C := RX12) (T := TX12) (N := 31) (v := .int (t.1 6)) B h hin12 0 23 rfl rfl (by decide) (by decide +kernel) rfl dX12_undivided_6 ?_
        refine lv_icmp_ge (tgt := 56) hx hb dX12_undivided_9 (by decide) (fun c_2 => ?_) (fun c_2 => ?_)
        · have hR := hR.1 c_2
          refine lv_iconst (v := (-1)) hx hb dX12_undivided_56 (by decide) ?_
          exact x_iret (w1 := (fun u : XT => (wM cI cJ cB cZ bd u))) t B h hr rfl hR dX12_undivided_57
        · have hR := hR.2 c_2
          refine lv_iload_n hx hb dX12_undivided_12 rfl (lv_at hl 1 rfl) ?_
          refine lv_iconst (v := 1) hx hb dX12_undivided_13 (by decide) ?_
          refine lv_iadd hx hb dX12_undivided_14 ?_
          refine lv_topi (fun v_3 ev_3 => ?_)
          have hR := hR v_3 ev_3
          refine lv_istore_n (lv' := [(3, .int v_3), (0, .ref (bd 0)), (1, .int (li 1)), (2, .int (li 2))]) hx hb dX12_undivided_15 rfl hl (by decide) rfl (fun ls hl => ?_)
          exact ih.2.2 t (uI li 3 v_3) lj H locs ls hR (lv_sub hl [1, 2, 3, 0] rfl) h
      · intro t li lj H locs ls hR hl h
        have hR : wbX12_undivided_2 (wpX12_undivided k) k t li lj Q := hR
        unfold wbX12_undivided_2 at hR
        refine lv_iload_n hx hb dX12_undivided_16 rfl (lv_at hl 3 rfl) ?_
        refine lv_aload_n hx hb dX12_undivided_17 rfl (lv_at hl 0 rfl) ?_
        refine x_get (ci := 12) (C := RX12) (T := TX12) (N := 31) (v := .int (t.1 7)) B h hin12 0 24 rfl rfl (by decide) (by decide +kernel) rfl dX12_undivided_18 ?_
        refine lv_icmp_ge (tgt := 50) hx hb dX12_undivided_21 (by decide) (fun c_4 => ?_) (fun c_4 => ?_)
        · have hR := hR.1 c_4
          obtain ⟨v_5, ev_5⟩ : ∃ v : Int32, v = (li 2) + Int32.ofInt 1 := ⟨_, rfl⟩
          have hR := hR v_5 ev_5
          refine lv_iinc (v := v_5) (lv' := [(2, .int v_5), (0, .ref (bd 0)), (1, .int (li 1)), (3, .int (li 3))]) hx hb dX12_undivided_50 hl (k := 2) rfl ev_5.symm (by decide) rfl (fun ls hl => ?_)
          refine lv_goto (tgt := 4) hx hb dX12_undivided_53 (by decide) ?_
          exact ih.2.1 t (uI li 2 v_5) lj H locs ls hR (lv_sub hl [1, 2, 0] rfl) h
        · have hR := hR.2 c_4
          refine lv_aload_n hx hb dX12_undivided_24 rfl (lv_at hl 0 rfl) ?_
          refine lv_iload_n hx hb dX12_undivided_25 rfl (lv_at hl 2 rfl) ?_
          refine lv_iload_n hx hb dX12_undivided_26 rfl (lv_at hl 3 rfl) ?_
          refine x_cVLF (n := 2) (As := [.int (li 2), .int (li 3)]) (rest := []) B h (wkX12_cell l D cI cJ cB cZ bd k t (li 2) (li 3) _ hR) ⟨⟨_, rfl⟩, by decide +kernel, Nat.le_of_ble_eq_true rfl, Nat.le_of_ble_eq_true rfl⟩ gX12_undivided_X12_cell (show ((wM cI cJ cB cZ bd t) : va_W)[0]? = some (_, .inr (12, _)) from rfl) rfl rfl hl.1 rfl (Nat.le_of_ble_eq_true rfl) dX12_undivided_27 ⟨Nat.le_of_ble_eq_true rfl, Nat.le_of_ble_eq_true rfl⟩ (fun r_6 t_6 H locs hR h => ?_)
          refine lv_aload_n hx hb dX12_undivided_30 rfl (lv_at hl 0 rfl) ?_
          refine lv_iload_n hx hb dX12_undivided_31 rfl (lv_at hl 1 rfl) ?_
          refine lv_iload_n hx hb dX12_undivided_32 rfl (lv_at hl 1 rfl) ?_
          refine x_cVLF (n := 2) (As := [.int (li 1), .int (li 1)]) (rest := [.long r_6]) B h (wkX12_cell l D cI cJ cB cZ bd k t_6 (li 1) (li 1) _ hR) ⟨⟨_, rfl⟩, by decide +kernel, Nat.le_of_ble_eq_true rfl, Nat.le_of_ble_eq_true rfl⟩ gX12_undivided_X12_cell (show ((wM cI cJ cB cZ bd t_6) : va_W)[0]? = some (_, .inr (12, _)) from rfl) rfl rfl hl.1 rfl (Nat.le_of_ble_eq_true rfl) dX12_undivided_33 ⟨Nat.le_of_ble_eq_true rfl, Nat.le_of_ble_eq_true rfl⟩ (fun r_7 t_7 H locs hR h => ?_)
          obtain ⟨hd_8, hR⟩ := hR
          refine lv_lrem hx hb dX12_undivided_36 hd_8 ?_
          refine lv_topl (fun v_8 ev_8 => ?_)
          have hR := hR v_8 ev_8
          refine lv_lconst (v := 0) hx hb dX12_undivided_37 (by decide) ?_
          refine W.lcmp hx hb dX12_undivided_38 ?_
          refine lv_topi (fun v_9 ev_9 => ?_)
          have hR := hR v_9 ev_9
          refine lv_if_eq (tgt := 44) hx hb dX12_undivided_39 (by decide) (fun c_10 => ?_) (fun c_10 => ?_)
          · have hR := hR.1 c_10
            obtain ⟨v_11, ev_11⟩ : ∃ v : Int32, v = (li 3) + Int32.ofInt 1 := ⟨_, rfl⟩
            have hR := hR v_11 ev_11
            refine lv_iinc (v := v_11) (lv' := [(3, .int v_11), (0, .ref (bd 0)), (1, .int (li 1)), (2, .int (li 2))]) hx hb dX12_undivided_44 hl (k := 3) rfl ev_11.symm (by decide) rfl (fun ls hl => ?_)
            refine lv_goto (tgt := 16) hx hb dX12_undivided_47 (by decide) ?_
            exact ih.2.2 t_7 (uI li 3 v_11) lj H locs ls hR (lv_sub hl [1, 2, 3, 0] rfl) h
          · have hR := hR.2 c_10
            refine lv_iload_n hx hb dX12_undivided_42 rfl (lv_at hl 2 rfl) ?_
            exact x_iret (w1 := (fun u : XT => (wM cI cJ cB cZ bd u))) t_7 B h hr rfl hR dX12_undivided_43
  exact (main k).1 t _ _ s.heap [] ls hR hl h
set_option maxRecDepth 20000 in
theorem ggX12_laysSteps_X12_bringsLeast : GoodIn wsX12_laysSteps wsX12_bringsLeast := goodIn_r _ [12, 1, 2, 4, 5, 6, 7, 13, 14, 15, 11, 16, 17, 18, 19, 20, 21, 22, 23, 24, 25, 42, 43, 44, 45, 46, 47, 48, 49, 50, 51, 52, 53, 54, 55, 56, 57, 58, 59, 60, 61, 62, 63, 64, 65, 66, 67, 68, 69, 70, 71, 72] (by decide +kernel) (by decide +kernel)
set_option maxRecDepth 20000 in
theorem gX12_laysSteps_X12_bringsLeast : GoodIn wsX12_laysSteps (wsV RX12 302 RX12 yX12_bringsLeast wsX12_bringsLeast) := goodIn_app (goodIn_of _ (by decide +kernel)) ggX12_laysSteps_X12_bringsLeast
set_option maxRecDepth 20000 in
theorem ggX12_laysSteps_X12_clears : GoodIn wsX12_laysSteps wsX12_clears := goodIn_r _ [29, 1, 2, 13, 14, 15, 11, 16, 17, 30, 31, 32, 33, 34, 35, 36, 37, 42, 43, 44, 45, 46, 47, 48, 49, 50, 51, 52, 53, 54, 55, 56, 57, 58, 59, 60, 61, 62, 63, 64, 65, 66, 67, 68, 69, 70, 71, 72] (by decide +kernel) (by decide +kernel)
set_option maxRecDepth 20000 in
theorem gX12_laysSteps_X12_clears : GoodIn wsX12_laysSteps (wsV RX12 305 RX12 yX12_clears wsX12_clears) := goodIn_app (goodIn_of _ (by decide +kernel)) ggX12_laysSteps_X12_clears
set_option maxRecDepth 20000 in
theorem ggX12_laysSteps_X12_undivided : GoodIn wsX12_laysSteps wsX12_undivided := goodIn_r _ [41, 1, 2, 13, 14, 15, 11, 16, 17, 42, 43, 44, 45, 46, 47, 48, 49, 50, 51, 52, 53, 54, 55, 56, 57, 58, 59, 60, 61, 62, 63, 64, 65, 66, 67, 68, 69, 70, 71, 72] (by decide +kernel) (by decide +kernel)
set_option maxRecDepth 20000 in
theorem gX12_laysSteps_X12_undivided : GoodIn wsX12_laysSteps (wsV RX12 308 RX12 yX12_undivided wsX12_undivided) := goodIn_app (goodIn_of _ (by decide +kernel)) ggX12_laysSteps_X12_undivided
set_option maxRecDepth 20000 in
theorem ggX12_laysSteps_X12_addsRow : GoodIn wsX12_laysSteps wsX12_addsRow := goodIn_r _ [33, 2, 17, 13, 14, 15, 11, 16, 42, 43, 44, 45, 46, 47, 48, 49, 50, 51, 52, 53, 54, 55, 56, 57, 58, 59, 60, 61, 62, 63, 64, 65, 66, 67, 68, 69, 70, 71, 72] (by decide +kernel) (by decide +kernel)
set_option maxRecDepth 20000 in
theorem gX12_laysSteps_X12_addsRow : GoodIn wsX12_laysSteps (wsV RX12 295 RX12 yX12_addsRow wsX12_addsRow) := goodIn_app (goodIn_of _ (by decide +kernel)) ggX12_laysSteps_X12_addsRow
set_option maxRecDepth 20000 in
theorem ggX12_laysSteps_X12_cell : GoodIn wsX12_laysSteps wsX12_cell := goodIn_r _ [16, 17, 42, 43, 44, 45, 46, 47, 48, 49, 50, 51, 52, 53, 54, 55, 56, 57, 58, 59, 60, 61, 62, 63, 64, 65, 66, 67, 68, 69, 70, 71, 72] (by decide +kernel) (by decide +kernel)
set_option maxRecDepth 20000 in
theorem gX12_laysSteps_X12_cell : GoodIn wsX12_laysSteps (wsV RX12 280 RX12 yX12_cell wsX12_cell) := goodIn_app (goodIn_of _ (by decide +kernel)) ggX12_laysSteps_X12_cell
def wbX12_laysSteps_0 (rec : Nat → XT → (Nat → Int32) → (Nat → Int64) → (Int32 → XT → Prop) → Prop) (k : Nat) (t : XT) (li : Nat → Int32) (lj : Nat → Int64) (Q : Int32 → XT → Prop) : Prop :=
  rec 1 t (uI li 1 0) lj Q
def wbX12_laysSteps_1 (rec : Nat → XT → (Nat → Int32) → (Nat → Int64) → (Int32 → XT → Prop) → Prop) (k : Nat) (t : XT) (li : Nat → Int32) (lj : Nat → Int64) (Q : Int32 → XT → Prop) : Prop :=
  ((((t.1 6) : Int32) ≤ (li 1)) → rec 2 t li lj Q) ∧ (¬ (((t.1 6) : Int32) ≤ (li 1)) → ((((t.1 7) : Int32) ≤ (li 1)) → rec 2 t li lj Q) ∧ (¬ (((t.1 7) : Int32) ≤ (li 1)) → (wqX12_bringsLeast k t (li 1) (fun r_3 t_3 => ((r_3 = 0) → rec 2 t_3 li lj Q) ∧ (¬ (r_3 = 0) → (wqX12_clears k t_3 (li 1) (fun r_5 t_5 => ((¬ r_5 = 0) → (wqX12_undivided k t_5 (li 1) (fun r_7 t_7 => ((r_7 = (-1)) → (wqX12_cell k t_7 (li 1) (li 1) (fun r_9 t_9 => (∀ v_10 : Int64, v_10 = (if 0 < r_9 then r_9 else -r_9) → (vp_in (li 1) 60 ∧ (∀ t_11 : XT, t_11 = sB t_9 5 (vp_updL (t_9.2.2.2 5) (li 1).toNatClampNeg v_10) → (∀ v_12 : Int32, v_12 = (li 1) + Int32.ofInt 1 → rec 1 t_11 (uI li 1 v_12) lj Q))))))) ∧ (¬ (r_7 = (-1)) → (wqX12_addsRow k t_7 (li 1) r_7 1 (fun t_13 => rec 1 t_13 li lj Q)))))) ∧ ((r_5 = 0) → rec 1 t_5 li lj Q))))))))
def wbX12_laysSteps_2 (rec : Nat → XT → (Nat → Int32) → (Nat → Int64) → (Int32 → XT → Prop) → Prop) (k : Nat) (t : XT) (li : Nat → Int32) (lj : Nat → Int64) (Q : Int32 → XT → Prop) : Prop :=
  Q (li 1) t
def wpX12_laysSteps : Nat → Nat → XT → (Nat → Int32) → (Nat → Int64) → (Int32 → XT → Prop) → Prop
  | 0, _, _, _, _, _ => False
  | k + 1, 0, t, li, lj, Q => wbX12_laysSteps_0 (wpX12_laysSteps k) k t li lj Q
  | k + 1, 1, t, li, lj, Q => wbX12_laysSteps_1 (wpX12_laysSteps k) k t li lj Q
  | k + 1, 2, t, li, lj, Q => wbX12_laysSteps_2 (wpX12_laysSteps k) k t li lj Q
  | _ + 1, _, _, _, _, _ => False
def wqX12_laysSteps (k : Nat) (t : XT)  (Q : Int32 → XT → Prop) : Prop := wpX12_laysSteps k 0 t (fun _ => 0) (fun _ => 0) Q
set_option maxHeartbeats 8000000 in
set_option maxRecDepth 100000 in
theorem wkX12_laysSteps (l : Launch) (D : va_G) (cI cJ cB cZ : ClassId) (bd : Nat → Nat) (k : Nat) (t : XT)  (Q : Int32 → XT → Prop) (hR : wqX12_laysSteps k t  Q) : MetI l yX12_laysSteps wsX12_laysSteps 3 73 0 0 D (TYS cI cJ cB cZ) (wM cI cJ cB cZ bd t) [.ref (bd 0)] (fun r u => Q r u) (fun u : XT => (wM cI cJ cB cZ bd u)) := by
  refine x_startI (ty := .int) (cc := cX12_laysSteps) (by decide) rfl (Nat.le_of_ble_eq_true rfl) ?_
  intro p e s m args below meth c A ls B hr hnm h hl
  have hx := B.1.1
  have hb := B.1.2.1
  have hml := B.1.2.2.1
  have hts := B.1.2.2.2.2
  have hown : s.vm.findClass RX12 = some m.cls := B.1.2.2.2.1
  have hin12 : ∀ w ∈ u_ws RX12 TX12 31, w ∈ wsX12_laysSteps := by decide +kernel
  have main : ∀ k : Nat, (∀ (t : XT) (li : Nat → Int32) (lj : Nat → Int64) (H : Heap) (locs : List Loc) (ls : Array Slot), wpX12_laysSteps k 0 t li lj Q → lv_has ls 3 [(0, .ref (bd 0))] → Hp D A s.heap (wM cI cJ cB cZ bd t) H locs → W p l e { frames := 3, cells := 0, slots := 0, locals := 73 } s m args below meth c H locs 0 0 (MQ below (va_Qi (fun r u => Q r u) (fun u t => xEnd D ((fun u : XT => (wM cI cJ cB cZ bd u)) u) A t) A) args s 0 0 A) (F0 m 0 ls [])) ∧
      (∀ (t : XT) (li : Nat → Int32) (lj : Nat → Int64) (H : Heap) (locs : List Loc) (ls : Array Slot), wpX12_laysSteps k 1 t li lj Q → lv_has ls 3 [(0, .ref (bd 0)), (1, .int (li 1))] → Hp D A s.heap (wM cI cJ cB cZ bd t) H locs → W p l e { frames := 3, cells := 0, slots := 0, locals := 73 } s m args below meth c H locs 0 0 (MQ below (va_Qi (fun r u => Q r u) (fun u t => xEnd D ((fun u : XT => (wM cI cJ cB cZ bd u)) u) A t) A) args s 0 0 A) (F0 m 2 ls [])) ∧
      (∀ (t : XT) (li : Nat → Int32) (lj : Nat → Int64) (H : Heap) (locs : List Loc) (ls : Array Slot), wpX12_laysSteps k 2 t li lj Q → lv_has ls 3 [(0, .ref (bd 0)), (1, .int (li 1))] → Hp D A s.heap (wM cI cJ cB cZ bd t) H locs → W p l e { frames := 3, cells := 0, slots := 0, locals := 73 } s m args below meth c H locs 0 0 (MQ below (va_Qi (fun r u => Q r u) (fun u t => xEnd D ((fun u : XT => (wM cI cJ cB cZ bd u)) u) A t) A) args s 0 0 A) (F0 m 79 ls [])) := by
    intro k
    induction k with
    | zero => exact ⟨fun _ _ _ _ _ _ hR => False.elim hR, fun _ _ _ _ _ _ hR => False.elim hR, fun _ _ _ _ _ _ hR => False.elim hR⟩
    | succ k ih =>
      refine ⟨?_, ?_, ?_⟩
      · intro t li lj H locs ls hR hl h
        have hR : wbX12_laysSteps_0 (wpX12_laysSteps k) k t li lj Q := hR
        unfold wbX12_laysSteps_0 at hR
        refine lv_iconst (v := 0) hx hb dX12_laysSteps_0 (by decide) ?_
        refine lv_istore_n (lv' := [(1, .int 0), (0, .ref (bd 0))]) hx hb dX12_laysSteps_1 rfl hl (by decide) rfl (fun ls hl => ?_)
        exact ih.2.1 t (uI li 1 0) lj H locs ls hR (lv_sub hl [1, 0] rfl) h
      · intro t li lj H locs ls hR hl h
        have hR : wbX12_laysSteps_1 (wpX12_laysSteps k) k t li lj Q := hR
        unfold wbX12_laysSteps_1 at hR
        refine lv_iload_n hx hb dX12_laysSteps_2 rfl (lv_at hl 1 rfl) ?_
        refine lv_aload_n hx hb dX12_laysSteps_3 rfl (lv_at hl 0 rfl) ?_
        refine x_get (ci := 12) (C := RX12) (T := TX12) (N := 31) (v := .int (t.1 6)) B h hin12 0 23 rfl rfl (by decide) (by decide +kernel) rfl dX12_laysSteps_4 ?_
        refine lv_icmp_ge (tgt := 79) hx hb dX12_laysSteps_7 (by decide) (fun c_1 => ?_) (fun c_1 => ?_)
        · have hR := hR.1 c_1
          exact ih.2.2 t li lj H locs ls hR (lv_sub hl [0, 1] rfl) h
        · have hR := hR.2 c_1
          refine lv_iload_n hx hb dX12_laysSteps_10 rfl (lv_at hl 1 rfl) ?_
          refine lv_aload_n hx hb dX12_laysSteps_11 rfl (lv_at hl 0 rfl) ?_
          refine x_get (ci := 12) (C := RX12) (T := TX12) (N := 31) (v := .int (t.1 7)) B h hin12 0 24 rfl rfl (by decide) (by decide +kernel) rfl dX12_laysSteps_12 ?_
          refine lv_icmp_ge (tgt := 79) hx hb dX12_laysSteps_15 (by decide) (fun c_2 => ?_) (fun c_2 => ?_)
          · have hR := hR.1 c_2
            exact ih.2.2 t li lj H locs ls hR (lv_sub hl [0, 1] rfl) h
          · have hR := hR.2 c_2
            refine lv_aload_n hx hb dX12_laysSteps_18 rfl (lv_at hl 0 rfl) ?_
            refine lv_iload_n hx hb dX12_laysSteps_19 rfl (lv_at hl 1 rfl) ?_
            refine x_cVIF (n := 1) (As := [.int (li 1)]) (rest := []) B h (wkX12_bringsLeast l D cI cJ cB cZ bd k t (li 1) _ hR) ⟨⟨_, rfl⟩, by decide +kernel, Nat.le_of_ble_eq_true rfl, Nat.le_of_ble_eq_true rfl⟩ gX12_laysSteps_X12_bringsLeast (show ((wM cI cJ cB cZ bd t) : va_W)[0]? = some (_, .inr (12, _)) from rfl) rfl rfl hl.1 rfl (Nat.le_of_ble_eq_true rfl) dX12_laysSteps_20 ⟨Nat.le_of_ble_eq_true rfl, Nat.le_of_ble_eq_true rfl⟩ (fun r_3 t_3 H locs hR h => ?_)
            refine lv_if_eq (tgt := 79) hx hb dX12_laysSteps_23 (by decide) (fun c_4 => ?_) (fun c_4 => ?_)
            · have hR := hR.1 c_4
              exact ih.2.2 t_3 li lj H locs ls hR (lv_sub hl [0, 1] rfl) h
            · have hR := hR.2 c_4
              refine lv_aload_n hx hb dX12_laysSteps_26 rfl (lv_at hl 0 rfl) ?_
              refine lv_iload_n hx hb dX12_laysSteps_27 rfl (lv_at hl 1 rfl) ?_
              refine x_cVIF (n := 1) (As := [.int (li 1)]) (rest := []) B h (wkX12_clears l D cI cJ cB cZ bd k t_3 (li 1) _ hR) ⟨⟨_, rfl⟩, by decide +kernel, Nat.le_of_ble_eq_true rfl, Nat.le_of_ble_eq_true rfl⟩ gX12_laysSteps_X12_clears (show ((wM cI cJ cB cZ bd t_3) : va_W)[0]? = some (_, .inr (12, _)) from rfl) rfl rfl hl.1 rfl (Nat.le_of_ble_eq_true rfl) dX12_laysSteps_28 ⟨Nat.le_of_ble_eq_true rfl, Nat.le_of_ble_eq_true rfl⟩ (fun r_5 t_5 H locs hR h => ?_)
              refine lv_if_ne (tgt := 37) hx hb dX12_laysSteps_31 (by decide) (fun c_6 => ?_) (fun c_6 => ?_)
              · have hR := hR.1 c_6
                refine lv_aload_n hx hb dX12_laysSteps_37 rfl (lv_at hl 0 rfl) ?_
                refine lv_iload_n hx hb dX12_laysSteps_38 rfl (lv_at hl 1 rfl) ?_
                refine x_cVIF (n := 1) (As := [.int (li 1)]) (rest := []) B h (wkX12_undivided l D cI cJ cB cZ bd k t_5 (li 1) _ hR) ⟨⟨_, rfl⟩, by decide +kernel, Nat.le_of_ble_eq_true rfl, Nat.le_of_ble_eq_true rfl⟩ gX12_laysSteps_X12_undivided (show ((wM cI cJ cB cZ bd t_5) : va_W)[0]? = some (_, .inr (12, _)) from rfl) rfl rfl hl.1 rfl (Nat.le_of_ble_eq_true rfl) dX12_laysSteps_39 ⟨Nat.le_of_ble_eq_true rfl, Nat.le_of_ble_eq_true rfl⟩ (fun r_7 t_7 H locs hR h => ?_)
                refine lv_istore_n (lv' := [(2, .int r_7), (0, .ref (bd 0)), (1, .int (li 1))]) hx hb dX12_laysSteps_42 rfl hl (by decide) rfl (fun ls hl => ?_)
                refine lv_iload_n hx hb dX12_laysSteps_43 rfl (lv_at hl 0 rfl) ?_
                refine lv_iconst (v := (-1)) hx hb dX12_laysSteps_44 (by decide) ?_
                refine lv_icmp_eq (tgt := 58) hx hb dX12_laysSteps_45 (by decide) (fun c_8 => ?_) (fun c_8 => ?_)
                · have hR := hR.1 c_8
                  refine lv_aload_n hx hb dX12_laysSteps_58 rfl (lv_at hl 1 rfl) ?_
                  refine x_get (ci := 12) (C := RX12) (T := TX12) (N := 31) (v := .ref (bd 18)) B h hin12 0 25 rfl rfl (by decide) (by decide +kernel) rfl dX12_laysSteps_59 ?_
                  refine lv_iload_n hx hb dX12_laysSteps_62 rfl (lv_at hl 2 rfl) ?_
                  refine lv_aload_n hx hb dX12_laysSteps_63 rfl (lv_at hl 1 rfl) ?_
                  refine lv_iload_n hx hb dX12_laysSteps_64 rfl (lv_at hl 2 rfl) ?_
                  refine lv_iload_n hx hb dX12_laysSteps_65 rfl (lv_at hl 2 rfl) ?_
                  refine x_cVLF (n := 2) (As := [.int (li 1), .int (li 1)]) (rest := [.int (li 1), .ref (bd 18)]) B h (wkX12_cell l D cI cJ cB cZ bd k t_7 (li 1) (li 1) _ hR) ⟨⟨_, rfl⟩, by decide +kernel, Nat.le_of_ble_eq_true rfl, Nat.le_of_ble_eq_true rfl⟩ gX12_laysSteps_X12_cell (show ((wM cI cJ cB cZ bd t_7) : va_W)[0]? = some (_, .inr (12, _)) from rfl) rfl rfl hl.1 rfl (Nat.le_of_ble_eq_true rfl) dX12_laysSteps_66 ⟨Nat.le_of_ble_eq_true rfl, Nat.le_of_ble_eq_true rfl⟩ (fun r_9 t_9 H locs hR h => ?_)
                  refine va_mabs_long hx hb (hml.trans hl.1.symm) hown (hts (.methodLink RX12 283 Lib.MathLoose.abs_long.x) (by decide +kernel)) (hts (.static Lib.MathLoose.abs_long.x) (by decide +kernel)) (hts (.initialized "java/lang/Math") (by decide +kernel)) (hts (.code Lib.MathLoose.abs_long.x Lib.MathLoose.abs_long.code 2 (some .long)) (by decide +kernel)) (Nat.le_of_ble_eq_true rfl) (Nat.le_of_ble_eq_true rfl) (Nat.le_of_ble_eq_true rfl) (Nat.le_of_ble_eq_true rfl) dX12_laysSteps_69 ?_
                  refine lv_topl (fun v_10 ev_10 => ?_)
                  have hR := hR v_10 ev_10
                  obtain ⟨hb_11, hR⟩ := hR
                  refine z_last (f := (t_9.2.2.2 5)) B h 18 1 rfl rfl hb_11 dX12_laysSteps_72 (fun H locs h => ?_)
                  obtain ⟨t_11, et_11⟩ : ∃ v : XT, v = sB t_9 5 (vp_updL (t_9.2.2.2 5) (li 1).toNatClampNeg v_10) := ⟨_, rfl⟩
                  have hR := hR t_11 et_11
                  have h : Hp D A s.heap (wM cI cJ cB cZ bd t_11) H locs := by rw [et_11]; exact h
                  obtain ⟨v_12, ev_12⟩ : ∃ v : Int32, v = (li 1) + Int32.ofInt 1 := ⟨_, rfl⟩
                  have hR := hR v_12 ev_12
                  refine lv_iinc (v := v_12) (lv' := [(1, .int v_12), (2, .int r_7), (0, .ref (bd 0))]) hx hb dX12_laysSteps_73 hl (k := 2) rfl ev_12.symm (by decide) rfl (fun ls hl => ?_)
                  refine lv_goto (tgt := 2) hx hb dX12_laysSteps_76 (by decide) ?_
                  exact ih.2.1 t_11 (uI li 1 v_12) lj H locs ls hR (lv_sub hl [2, 0] rfl) h
                · have hR := hR.2 c_8
                  refine lv_aload_n hx hb dX12_laysSteps_48 rfl (lv_at hl 1 rfl) ?_
                  refine lv_iload_n hx hb dX12_laysSteps_49 rfl (lv_at hl 2 rfl) ?_
                  refine lv_iload_n hx hb dX12_laysSteps_50 rfl (lv_at hl 0 rfl) ?_
                  refine lv_lconst (v := 1) hx hb dX12_laysSteps_51 (by decide) ?_
                  refine x_cVVF (n := 3) (As := [.int (li 1), .int r_7, .long 1]) (rest := []) B h (wkX12_addsRow l D cI cJ cB cZ bd k t_7 (li 1) r_7 1 _ hR) ⟨⟨_, rfl⟩, by decide +kernel, Nat.le_of_ble_eq_true rfl, Nat.le_of_ble_eq_true rfl⟩ gX12_laysSteps_X12_addsRow (show ((wM cI cJ cB cZ bd t_7) : va_W)[0]? = some (_, .inr (12, _)) from rfl) rfl rfl hl.1 rfl (Nat.le_of_ble_eq_true rfl) dX12_laysSteps_52 ⟨Nat.le_of_ble_eq_true rfl, Nat.le_of_ble_eq_true rfl⟩ (fun t_13 H locs hR h => ?_)
                  refine lv_goto (tgt := 2) hx hb dX12_laysSteps_55 (by decide) ?_
                  exact ih.2.1 t_13 li lj H locs ls hR (lv_sub hl [1, 2] rfl) h
              · have hR := hR.2 c_6
                refine lv_goto (tgt := 2) hx hb dX12_laysSteps_34 (by decide) ?_
                exact ih.2.1 t_5 li lj H locs ls hR (lv_sub hl [0, 1] rfl) h
      · intro t li lj H locs ls hR hl h
        have hR : wbX12_laysSteps_2 (wpX12_laysSteps k) k t li lj Q := hR
        unfold wbX12_laysSteps_2 at hR
        refine lv_iload_n hx hb dX12_laysSteps_79 rfl (lv_at hl 1 rfl) ?_
        exact x_iret (w1 := (fun u : XT => (wM cI cJ cB cZ bd u))) t B h hr rfl hR dX12_laysSteps_80
  exact (main k).1 t _ _ s.heap [] ls hR hl h
set_option maxRecDepth 20000 in
theorem ggX12_rankOf_X12_in : GoodIn wsX12_rankOf wsX12_in := goodIn_r _ [4] (by decide +kernel) (by decide +kernel)
set_option maxRecDepth 20000 in
theorem gX12_rankOf_X12_in : GoodIn wsX12_rankOf (va_wsS RX12 101 yX12_in wsX12_in) := goodIn_app (goodIn_of _ (by decide +kernel)) ggX12_rankOf_X12_in
set_option maxRecDepth 20000 in
theorem ggX12_rankOf_X12_laysTable : GoodIn wsX12_rankOf wsX12_laysTable := goodIn_r _ [8, 9, 10, 11, 12, 13, 14, 15, 16, 3, 17, 18, 19, 20, 21, 22, 23, 24, 25, 26, 27, 28, 29, 30, 31, 32, 33, 34, 35, 36, 37, 38, 39, 40, 41, 42, 43, 44, 45, 46, 47, 48, 49, 50, 51, 52, 1, 2, 4, 53, 54, 55, 56, 57, 58, 59, 60, 61, 62, 63, 64, 65, 66, 67, 68, 69, 70, 71, 72, 73, 115, 116, 117, 118, 119, 120, 121, 122, 123, 124, 125, 126, 127, 128, 129, 130, 131, 132, 133, 134, 135, 136, 137, 138, 139, 140, 141, 142, 143, 144, 145] (by decide +kernel) (by decide +kernel)
set_option maxRecDepth 20000 in
theorem gX12_rankOf_X12_laysTable : GoodIn wsX12_rankOf (wsV RX12 311 RX12 yX12_laysTable wsX12_laysTable) := goodIn_app (goodIn_of _ (by decide +kernel)) ggX12_rankOf_X12_laysTable
set_option maxRecDepth 20000 in
theorem ggX12_rankOf_X12_laysSteps : GoodIn wsX12_rankOf wsX12_laysSteps := goodIn_r _ [77, 9, 10, 78, 79, 80, 81, 82, 83, 84, 85, 3, 86, 87, 88, 89, 90, 13, 91, 92, 93, 94, 95, 96, 97, 98, 99, 100, 101, 102, 103, 104, 105, 106, 107, 108, 109, 110, 111, 112, 113, 114, 115, 116, 117, 118, 119, 120, 121, 122, 123, 124, 125, 126, 127, 128, 129, 130, 131, 132, 133, 134, 135, 136, 137, 138, 139, 140, 141, 142, 143, 144, 145] (by decide +kernel) (by decide +kernel)
set_option maxRecDepth 20000 in
theorem gX12_rankOf_X12_laysSteps : GoodIn wsX12_rankOf (wsV RX12 314 RX12 yX12_laysSteps wsX12_laysSteps) := goodIn_app (goodIn_of _ (by decide +kernel)) ggX12_rankOf_X12_laysSteps
def wbX12_rankOf_0 (rec : Nat → XT → (Nat → Int32) → (Nat → Int64) → (Int32 → XT → Prop) → Prop) (k : Nat) (t : XT) (li : Nat → Int32) (lj : Nat → Int64) (Q : Int32 → XT → Prop) : Prop :=
  (wqX12_in k (li 1) 1 4 (fun r_1 => ((¬ r_1 = 0) → (wqX12_laysTable k t (li 1) (li 2) (fun t_3 => (wqX12_laysSteps k t_3  (fun r_4 t_4 => Q r_4 t_4))))) ∧ ((r_1 = 0) → Q 0 t)))
def wpX12_rankOf : Nat → Nat → XT → (Nat → Int32) → (Nat → Int64) → (Int32 → XT → Prop) → Prop
  | 0, _, _, _, _, _ => False
  | k + 1, 0, t, li, lj, Q => wbX12_rankOf_0 (wpX12_rankOf k) k t li lj Q
  | _ + 1, _, _, _, _, _ => False
def wqX12_rankOf (k : Nat) (t : XT) (a1 : Int32) (a2 : Int32) (Q : Int32 → XT → Prop) : Prop := wpX12_rankOf k 0 t (uI (uI (fun _ => 0) 1 a1) 2 a2) (fun _ => 0) Q
set_option maxHeartbeats 8000000 in
set_option maxRecDepth 100000 in
theorem wkX12_rankOf (l : Launch) (D : va_G) (cI cJ cB cZ : ClassId) (bd : Nat → Nat) (k : Nat) (t : XT) (a1 : Int32) (a2 : Int32) (Q : Int32 → XT → Prop) (hR : wqX12_rankOf k t a1 a2 Q) : MetI l yX12_rankOf wsX12_rankOf 8 186 0 0 D (TYS cI cJ cB cZ) (wM cI cJ cB cZ bd t) [.ref (bd 0), .int a1, .int a2] (fun r u => Q r u) (fun u : XT => (wM cI cJ cB cZ bd u)) := by
  refine x_startI (ty := .int) (cc := cX12_rankOf) (by decide) rfl (Nat.le_of_ble_eq_true rfl) ?_
  intro p e s m args below meth c A ls B hr hnm h hl
  have hx := B.1.1
  have hb := B.1.2.1
  have hml := B.1.2.2.1
  have hts := B.1.2.2.2.2
  have hown : s.vm.findClass RX12 = some m.cls := B.1.2.2.2.1
  have main : ∀ k : Nat, (∀ (t : XT) (li : Nat → Int32) (lj : Nat → Int64) (H : Heap) (locs : List Loc) (ls : Array Slot), wpX12_rankOf k 0 t li lj Q → lv_has ls 3 [(0, .ref (bd 0)), (1, .int (li 1)), (2, .int (li 2))] → Hp D A s.heap (wM cI cJ cB cZ bd t) H locs → W p l e { frames := 8, cells := 0, slots := 0, locals := 186 } s m args below meth c H locs 0 0 (MQ below (va_Qi (fun r u => Q r u) (fun u t => xEnd D ((fun u : XT => (wM cI cJ cB cZ bd u)) u) A t) A) args s 0 0 A) (F0 m 0 ls [])) := by
    intro k
    induction k with
    | zero => exact fun _ _ _ _ _ _ hR => False.elim hR
    | succ k ih =>
      intro t li lj H locs ls hR hl h
      have hR : wbX12_rankOf_0 (wpX12_rankOf k) k t li lj Q := hR
      unfold wbX12_rankOf_0 at hR
      refine lv_iload_n hx hb dX12_rankOf_0 rfl (lv_at hl 1 rfl) ?_
      refine lv_iconst (v := 1) hx hb dX12_rankOf_1 (by decide) ?_
      refine lv_iconst (v := 4) hx hb dX12_rankOf_2 (by decide) ?_
      refine x_cSIE (n := 3) (As := [.int (li 1), .int 1, .int 4]) (rest := []) B h (wkX12_in l D cI cJ cB cZ bd k (li 1) 1 4 _ hR) ⟨⟨_, rfl⟩, by decide +kernel, Nat.le_of_ble_eq_true rfl, Nat.le_of_ble_eq_true rfl⟩ gX12_rankOf_X12_in rfl hl.1 rfl (Nat.le_of_ble_eq_true rfl) dX12_rankOf_3 ⟨Nat.le_of_ble_eq_true rfl, Nat.le_of_ble_eq_true rfl⟩ (fun r_1 _ H locs hR h => ?_)
      refine lv_if_ne (tgt := 11) hx hb dX12_rankOf_6 (by decide) (fun c_2 => ?_) (fun c_2 => ?_)
      · have hR := hR.1 c_2
        refine lv_aload_n hx hb dX12_rankOf_11 rfl (lv_at hl 0 rfl) ?_
        refine lv_iload_n hx hb dX12_rankOf_12 rfl (lv_at hl 1 rfl) ?_
        refine lv_iload_n hx hb dX12_rankOf_13 rfl (lv_at hl 2 rfl) ?_
        refine x_cVVF (n := 2) (As := [.int (li 1), .int (li 2)]) (rest := []) B h (wkX12_laysTable l D cI cJ cB cZ bd k t (li 1) (li 2) _ hR) ⟨⟨_, rfl⟩, by decide +kernel, Nat.le_of_ble_eq_true rfl, Nat.le_of_ble_eq_true rfl⟩ gX12_rankOf_X12_laysTable (show ((wM cI cJ cB cZ bd t) : va_W)[0]? = some (_, .inr (12, _)) from rfl) rfl rfl hl.1 rfl (Nat.le_of_ble_eq_true rfl) dX12_rankOf_14 ⟨Nat.le_of_ble_eq_true rfl, Nat.le_of_ble_eq_true rfl⟩ (fun t_3 H locs hR h => ?_)
        refine lv_aload_n hx hb dX12_rankOf_17 rfl (lv_at hl 0 rfl) ?_
        refine x_cVIF (n := 0) (As := []) (rest := []) B h (wkX12_laysSteps l D cI cJ cB cZ bd k t_3  _ hR) ⟨⟨_, rfl⟩, by decide +kernel, Nat.le_of_ble_eq_true rfl, Nat.le_of_ble_eq_true rfl⟩ gX12_rankOf_X12_laysSteps (show ((wM cI cJ cB cZ bd t_3) : va_W)[0]? = some (_, .inr (12, _)) from rfl) rfl rfl hl.1 rfl (Nat.le_of_ble_eq_true rfl) dX12_rankOf_18 ⟨Nat.le_of_ble_eq_true rfl, Nat.le_of_ble_eq_true rfl⟩ (fun r_4 t_4 H locs hR h => ?_)
        exact x_iret (w1 := (fun u : XT => (wM cI cJ cB cZ bd u))) t_4 B h hr rfl hR dX12_rankOf_21
      · have hR := hR.2 c_2
        refine lv_iconst (v := 0) hx hb dX12_rankOf_9 (by decide) ?_
        exact x_iret (w1 := (fun u : XT => (wM cI cJ cB cZ bd u))) t B h hr rfl hR dX12_rankOf_10
  exact (main k) t _ _ s.heap [] ls hR hl h
set_option maxRecDepth 20000 in
theorem ggX12_bettiTaken_X12_takenOf : GoodIn wsX12_bettiTaken wsX12_takenOf := goodIn_r _ [5, 6, 7, 8, 9, 10, 4, 11, 12, 13, 14, 15, 16, 17, 18, 19, 20, 21, 22, 119, 120, 121, 122, 123, 124, 125, 126, 127, 128, 129, 130, 131, 132, 133, 134, 135, 136, 137, 138, 139, 140, 141, 142, 143, 144, 145, 146, 147, 148, 149] (by decide +kernel) (by decide +kernel)
set_option maxRecDepth 20000 in
theorem gX12_bettiTaken_X12_takenOf : GoodIn wsX12_bettiTaken (wsV RX12 271 RX12 yX12_takenOf wsX12_takenOf) := goodIn_app (goodIn_of _ (by decide +kernel)) ggX12_bettiTaken_X12_takenOf
set_option maxRecDepth 20000 in
theorem ggX12_bettiTaken_X12_rankOf : GoodIn wsX12_bettiTaken wsX12_rankOf := goodIn_r _ [26, 27, 28, 4, 29, 30, 31, 32, 33, 34, 35, 6, 7, 36, 1, 2, 3, 5, 8, 9, 10, 11, 12, 13, 14, 15, 16, 17, 18, 19, 20, 21, 22, 37, 38, 39, 40, 41, 42, 43, 44, 45, 46, 47, 48, 49, 50, 51, 52, 53, 54, 55, 56, 57, 58, 59, 60, 61, 62, 63, 64, 65, 66, 67, 68, 69, 70, 71, 72, 73, 74, 75, 76, 77, 78, 79, 80, 81, 82, 83, 84, 85, 86, 87, 88, 89, 90, 91, 92, 93, 94, 95, 96, 97, 98, 99, 100, 101, 102, 103, 104, 105, 106, 107, 108, 109, 110, 111, 112, 113, 114, 115, 116, 117, 118, 119, 120, 121, 122, 123, 124, 125, 126, 127, 128, 129, 130, 131, 132, 133, 134, 135, 136, 137, 138, 139, 140, 141, 142, 143, 144, 145, 146, 147, 148, 149] (by decide +kernel) (by decide +kernel)
set_option maxRecDepth 20000 in
theorem gX12_bettiTaken_X12_rankOf : GoodIn wsX12_bettiTaken (wsV RX12 317 RX12 yX12_rankOf wsX12_rankOf) := goodIn_app (goodIn_of _ (by decide +kernel)) ggX12_bettiTaken_X12_rankOf
def wbX12_bettiTaken_0 (rec : Nat → XT → (Nat → Int32) → (Nat → Int64) → (Int32 → XT → Prop) → Prop) (k : Nat) (t : XT) (li : Nat → Int32) (lj : Nat → Int64) (Q : Int32 → XT → Prop) : Prop :=
  (wqX12_takenOf k t (li 1) (fun r_1 t_1 => (wqX12_rankOf k t_1 (li 1) (li 2) (fun r_2 t_2 => (∀ v_3 : Int32, v_3 = (r_1 - r_2) → (∀ v_4 : Int32, v_4 = ((li 1) + 1) → (wqX12_rankOf k t_2 v_4 (li 2) (fun r_5 t_5 => (∀ v_6 : Int32, v_6 = (v_3 - r_5) → Q v_6 t_5)))))))))
def wpX12_bettiTaken : Nat → Nat → XT → (Nat → Int32) → (Nat → Int64) → (Int32 → XT → Prop) → Prop
  | 0, _, _, _, _, _ => False
  | k + 1, 0, t, li, lj, Q => wbX12_bettiTaken_0 (wpX12_bettiTaken k) k t li lj Q
  | _ + 1, _, _, _, _, _ => False
def wqX12_bettiTaken (k : Nat) (t : XT) (a1 : Int32) (a2 : Int32) (Q : Int32 → XT → Prop) : Prop := wpX12_bettiTaken k 0 t (uI (uI (fun _ => 0) 1 a1) 2 a2) (fun _ => 0) Q
set_option maxHeartbeats 8000000 in
set_option maxRecDepth 100000 in
theorem wkX12_bettiTaken (l : Launch) (D : va_G) (cI cJ cB cZ : ClassId) (bd : Nat → Nat) (k : Nat) (t : XT) (a1 : Int32) (a2 : Int32) (Q : Int32 → XT → Prop) (hR : wqX12_bettiTaken k t a1 a2 Q) : MetI l yX12_bettiTaken wsX12_bettiTaken 9 208 0 0 D (TYS cI cJ cB cZ) (wM cI cJ cB cZ bd t) [.ref (bd 0), .int a1, .int a2] (fun r u => Q r u) (fun u : XT => (wM cI cJ cB cZ bd u)) := by
  refine x_startI (ty := .int) (cc := cX12_bettiTaken) (by decide) rfl (Nat.le_of_ble_eq_true rfl) ?_
  intro p e s m args below meth c A ls B hr hnm h hl
  have hx := B.1.1
  have hb := B.1.2.1
  have hml := B.1.2.2.1
  have hts := B.1.2.2.2.2
  have hown : s.vm.findClass RX12 = some m.cls := B.1.2.2.2.1
  have main : ∀ k : Nat, (∀ (t : XT) (li : Nat → Int32) (lj : Nat → Int64) (H : Heap) (locs : List Loc) (ls : Array Slot), wpX12_bettiTaken k 0 t li lj Q → lv_has ls 3 [(0, .ref (bd 0)), (1, .int (li 1)), (2, .int (li 2))] → Hp D A s.heap (wM cI cJ cB cZ bd t) H locs → W p l e { frames := 9, cells := 0, slots := 0, locals := 208 } s m args below meth c H locs 0 0 (MQ below (va_Qi (fun r u => Q r u) (fun u t => xEnd D ((fun u : XT => (wM cI cJ cB cZ bd u)) u) A t) A) args s 0 0 A) (F0 m 0 ls [])) := by
    intro k
    induction k with
    | zero => exact fun _ _ _ _ _ _ hR => False.elim hR
    | succ k ih =>
      intro t li lj H locs ls hR hl h
      have hR : wbX12_bettiTaken_0 (wpX12_bettiTaken k) k t li lj Q := hR
      unfold wbX12_bettiTaken_0 at hR
      refine lv_aload_n hx hb dX12_bettiTaken_0 rfl (lv_at hl 0 rfl) ?_
      refine lv_iload_n hx hb dX12_bettiTaken_1 rfl (lv_at hl 1 rfl) ?_
      refine x_cVIF (n := 1) (As := [.int (li 1)]) (rest := []) B h (wkX12_takenOf l D cI cJ cB cZ bd k t (li 1) _ hR) ⟨⟨_, rfl⟩, by decide +kernel, Nat.le_of_ble_eq_true rfl, Nat.le_of_ble_eq_true rfl⟩ gX12_bettiTaken_X12_takenOf (show ((wM cI cJ cB cZ bd t) : va_W)[0]? = some (_, .inr (12, _)) from rfl) rfl rfl hl.1 rfl (Nat.le_of_ble_eq_true rfl) dX12_bettiTaken_2 ⟨Nat.le_of_ble_eq_true rfl, Nat.le_of_ble_eq_true rfl⟩ (fun r_1 t_1 H locs hR h => ?_)
      refine lv_aload_n hx hb dX12_bettiTaken_5 rfl (lv_at hl 0 rfl) ?_
      refine lv_iload_n hx hb dX12_bettiTaken_6 rfl (lv_at hl 1 rfl) ?_
      refine lv_iload_n hx hb dX12_bettiTaken_7 rfl (lv_at hl 2 rfl) ?_
      refine x_cVIF (n := 2) (As := [.int (li 1), .int (li 2)]) (rest := [.int r_1]) B h (wkX12_rankOf l D cI cJ cB cZ bd k t_1 (li 1) (li 2) _ hR) ⟨⟨_, rfl⟩, by decide +kernel, Nat.le_of_ble_eq_true rfl, Nat.le_of_ble_eq_true rfl⟩ gX12_bettiTaken_X12_rankOf (show ((wM cI cJ cB cZ bd t_1) : va_W)[0]? = some (_, .inr (12, _)) from rfl) rfl rfl hl.1 rfl (Nat.le_of_ble_eq_true rfl) dX12_bettiTaken_8 ⟨Nat.le_of_ble_eq_true rfl, Nat.le_of_ble_eq_true rfl⟩ (fun r_2 t_2 H locs hR h => ?_)
      refine lv_isub hx hb dX12_bettiTaken_11 ?_
      refine lv_topi (fun v_3 ev_3 => ?_)
      have hR := hR v_3 ev_3
      refine lv_aload_n hx hb dX12_bettiTaken_12 rfl (lv_at hl 0 rfl) ?_
      refine lv_iload_n hx hb dX12_bettiTaken_13 rfl (lv_at hl 1 rfl) ?_
      refine lv_iconst (v := 1) hx hb dX12_bettiTaken_14 (by decide) ?_
      refine lv_iadd hx hb dX12_bettiTaken_15 ?_
      refine lv_topi (fun v_4 ev_4 => ?_)
      have hR := hR v_4 ev_4
      refine lv_iload_n hx hb dX12_bettiTaken_16 rfl (lv_at hl 2 rfl) ?_
      refine x_cVIF (n := 2) (As := [.int v_4, .int (li 2)]) (rest := [.int v_3]) B h (wkX12_rankOf l D cI cJ cB cZ bd k t_2 v_4 (li 2) _ hR) ⟨⟨_, rfl⟩, by decide +kernel, Nat.le_of_ble_eq_true rfl, Nat.le_of_ble_eq_true rfl⟩ gX12_bettiTaken_X12_rankOf (show ((wM cI cJ cB cZ bd t_2) : va_W)[0]? = some (_, .inr (12, _)) from rfl) rfl rfl hl.1 rfl (Nat.le_of_ble_eq_true rfl) dX12_bettiTaken_17 ⟨Nat.le_of_ble_eq_true rfl, Nat.le_of_ble_eq_true rfl⟩ (fun r_5 t_5 H locs hR h => ?_)
      refine lv_isub hx hb dX12_bettiTaken_20 ?_
      refine lv_topi (fun v_6 ev_6 => ?_)
      have hR := hR v_6 ev_6
      exact x_iret (w1 := (fun u : XT => (wM cI cJ cB cZ bd u))) t_5 B h hr rfl hR dX12_bettiTaken_21
  exact (main k) t _ _ s.heap [] ls hR hl h
set_option maxRecDepth 20000 in
theorem ggX12_betti_X12_in : GoodIn wsX12_betti wsX12_in := goodIn_r _ [4] (by decide +kernel) (by decide +kernel)
set_option maxRecDepth 20000 in
theorem gX12_betti_X12_in : GoodIn wsX12_betti (va_wsS RX12 101 yX12_in wsX12_in) := goodIn_app (goodIn_of _ (by decide +kernel)) ggX12_betti_X12_in
set_option maxRecDepth 20000 in
theorem ggX12_betti_X12_takes : GoodIn wsX12_betti wsX12_takes := goodIn_r _ [8, 9, 10, 11, 12, 13, 14, 3, 15, 16, 17, 18, 19, 20, 21, 22, 23, 24, 1, 2, 4, 131, 132, 133, 134, 135, 136, 137, 138, 139, 140, 141, 142, 143, 144, 145, 146, 147, 148, 149, 150, 151, 152, 153, 154, 155, 156, 157, 158, 159, 160, 161] (by decide +kernel) (by decide +kernel)
set_option maxRecDepth 20000 in
theorem gX12_betti_X12_takes : GoodIn wsX12_betti (wsV RX12 320 RX12 yX12_takes wsX12_takes) := goodIn_app (goodIn_of _ (by decide +kernel)) ggX12_betti_X12_takes
set_option maxRecDepth 20000 in
theorem ggX12_betti_X12_bettiTaken : GoodIn wsX12_betti wsX12_bettiTaken := goodIn_r _ [28, 29, 30, 31, 3, 32, 9, 10, 33, 34, 35, 36, 37, 38, 39, 40, 41, 42, 43, 44, 45, 46, 47, 48, 49, 50, 51, 1, 2, 4, 52, 53, 54, 55, 56, 57, 58, 59, 60, 61, 62, 63, 64, 65, 66, 67, 68, 69, 17, 18, 19, 20, 11, 21, 22, 23, 24, 70, 71, 72, 73, 16, 74, 75, 76, 77, 78, 79, 80, 81, 82, 83, 84, 85, 86, 87, 88, 89, 90, 91, 92, 93, 94, 95, 96, 97, 98, 99, 100, 101, 102, 103, 104, 105, 106, 107, 108, 109, 110, 111, 112, 113, 114, 115, 116, 117, 118, 119, 120, 121, 122, 123, 124, 125, 126, 127, 128, 129, 130, 131, 132, 133, 134, 135, 136, 137, 138, 139, 140, 141, 142, 143, 144, 145, 146, 147, 148, 149, 150, 151, 152, 153, 154, 155, 156, 157, 158, 159, 160, 161] (by decide +kernel) (by decide +kernel)
set_option maxRecDepth 20000 in
theorem gX12_betti_X12_bettiTaken : GoodIn wsX12_betti (wsV RX12 323 RX12 yX12_bettiTaken wsX12_bettiTaken) := goodIn_app (goodIn_of _ (by decide +kernel)) ggX12_betti_X12_bettiTaken
def wbX12_betti_0 (rec : Nat → XT → (Nat → Int32) → (Nat → Int64) → (Int32 → XT → Prop) → Prop) (k : Nat) (t : XT) (li : Nat → Int32) (lj : Nat → Int64) (Q : Int32 → XT → Prop) : Prop :=
  (wqX12_in k (li 1) 0 4 (fun r_1 => ((r_1 = 0) → rec 1 t li lj Q) ∧ (¬ (r_1 = 0) → (wqX12_in k (li 2) 0 1 (fun r_3 => ((¬ r_3 = 0) → (wqX12_takes k t (li 2) (fun t_5 => (wqX12_bettiTaken k t_5 (li 1) (li 2) (fun r_6 t_6 => Q r_6 t_6))))) ∧ ((r_3 = 0) → rec 1 t li lj Q))))))
def wbX12_betti_1 (rec : Nat → XT → (Nat → Int32) → (Nat → Int64) → (Int32 → XT → Prop) → Prop) (k : Nat) (t : XT) (li : Nat → Int32) (lj : Nat → Int64) (Q : Int32 → XT → Prop) : Prop :=
  Q (-1) t
def wpX12_betti : Nat → Nat → XT → (Nat → Int32) → (Nat → Int64) → (Int32 → XT → Prop) → Prop
  | 0, _, _, _, _, _ => False
  | k + 1, 0, t, li, lj, Q => wbX12_betti_0 (wpX12_betti k) k t li lj Q
  | k + 1, 1, t, li, lj, Q => wbX12_betti_1 (wpX12_betti k) k t li lj Q
  | _ + 1, _, _, _, _, _ => False
def wqX12_betti (k : Nat) (t : XT) (a1 : Int32) (a2 : Int32) (Q : Int32 → XT → Prop) : Prop := wpX12_betti k 0 t (uI (uI (fun _ => 0) 1 a1) 2 a2) (fun _ => 0) Q
set_option maxHeartbeats 8000000 in
set_option maxRecDepth 100000 in
theorem wkX12_betti (l : Launch) (D : va_G) (cI cJ cB cZ : ClassId) (bd : Nat → Nat) (k : Nat) (t : XT) (a1 : Int32) (a2 : Int32) (Q : Int32 → XT → Prop) (hR : wqX12_betti k t a1 a2 Q) : MetI l yX12_betti wsX12_betti 10 230 0 0 D (TYS cI cJ cB cZ) (wM cI cJ cB cZ bd t) [.ref (bd 0), .int a1, .int a2] (fun r u => Q r u) (fun u : XT => (wM cI cJ cB cZ bd u)) := by
  refine x_startI (ty := .int) (cc := cX12_betti) (by decide) rfl (Nat.le_of_ble_eq_true rfl) ?_
  intro p e s m args below meth c A ls B hr hnm h hl
  have hx := B.1.1
  have hb := B.1.2.1
  have hml := B.1.2.2.1
  have hts := B.1.2.2.2.2
  have hown : s.vm.findClass RX12 = some m.cls := B.1.2.2.2.1
  have main : ∀ k : Nat, (∀ (t : XT) (li : Nat → Int32) (lj : Nat → Int64) (H : Heap) (locs : List Loc) (ls : Array Slot), wpX12_betti k 0 t li lj Q → lv_has ls 3 [(0, .ref (bd 0)), (1, .int (li 1)), (2, .int (li 2))] → Hp D A s.heap (wM cI cJ cB cZ bd t) H locs → W p l e { frames := 10, cells := 0, slots := 0, locals := 230 } s m args below meth c H locs 0 0 (MQ below (va_Qi (fun r u => Q r u) (fun u t => xEnd D ((fun u : XT => (wM cI cJ cB cZ bd u)) u) A t) A) args s 0 0 A) (F0 m 0 ls [])) ∧
      (∀ (t : XT) (li : Nat → Int32) (lj : Nat → Int64) (H : Heap) (locs : List Loc) (ls : Array Slot), wpX12_betti k 1 t li lj Q → lv_has ls 3 [(0, .ref (bd 0)), (1, .int (li 1)), (2, .int (li 2))] → Hp D A s.heap (wM cI cJ cB cZ bd t) H locs → W p l e { frames := 10, cells := 0, slots := 0, locals := 230 } s m args below meth c H locs 0 0 (MQ below (va_Qi (fun r u => Q r u) (fun u t => xEnd D ((fun u : XT => (wM cI cJ cB cZ bd u)) u) A t) A) args s 0 0 A) (F0 m 18 ls [])) := by
    intro k
    induction k with
    | zero => exact ⟨fun _ _ _ _ _ _ hR => False.elim hR, fun _ _ _ _ _ _ hR => False.elim hR⟩
    | succ k ih =>
      refine ⟨?_, ?_⟩
      · intro t li lj H locs ls hR hl h
        have hR : wbX12_betti_0 (wpX12_betti k) k t li lj Q := hR
        unfold wbX12_betti_0 at hR
        refine lv_iload_n hx hb dX12_betti_0 rfl (lv_at hl 1 rfl) ?_
        refine lv_iconst (v := 0) hx hb dX12_betti_1 (by decide) ?_
        refine lv_iconst (v := 4) hx hb dX12_betti_2 (by decide) ?_
        refine x_cSIE (n := 3) (As := [.int (li 1), .int 0, .int 4]) (rest := []) B h (wkX12_in l D cI cJ cB cZ bd k (li 1) 0 4 _ hR) ⟨⟨_, rfl⟩, by decide +kernel, Nat.le_of_ble_eq_true rfl, Nat.le_of_ble_eq_true rfl⟩ gX12_betti_X12_in rfl hl.1 rfl (Nat.le_of_ble_eq_true rfl) dX12_betti_3 ⟨Nat.le_of_ble_eq_true rfl, Nat.le_of_ble_eq_true rfl⟩ (fun r_1 _ H locs hR h => ?_)
        refine lv_if_eq (tgt := 18) hx hb dX12_betti_6 (by decide) (fun c_2 => ?_) (fun c_2 => ?_)
        · have hR := hR.1 c_2
          exact ih.2 t li lj H locs ls hR (lv_sub hl [0, 1, 2] rfl) h
        · have hR := hR.2 c_2
          refine lv_iload_n hx hb dX12_betti_9 rfl (lv_at hl 2 rfl) ?_
          refine lv_iconst (v := 0) hx hb dX12_betti_10 (by decide) ?_
          refine lv_iconst (v := 1) hx hb dX12_betti_11 (by decide) ?_
          refine x_cSIE (n := 3) (As := [.int (li 2), .int 0, .int 1]) (rest := []) B h (wkX12_in l D cI cJ cB cZ bd k (li 2) 0 1 _ hR) ⟨⟨_, rfl⟩, by decide +kernel, Nat.le_of_ble_eq_true rfl, Nat.le_of_ble_eq_true rfl⟩ gX12_betti_X12_in rfl hl.1 rfl (Nat.le_of_ble_eq_true rfl) dX12_betti_12 ⟨Nat.le_of_ble_eq_true rfl, Nat.le_of_ble_eq_true rfl⟩ (fun r_3 _ H locs hR h => ?_)
          refine lv_if_ne (tgt := 20) hx hb dX12_betti_15 (by decide) (fun c_4 => ?_) (fun c_4 => ?_)
          · have hR := hR.1 c_4
            refine lv_aload_n hx hb dX12_betti_20 rfl (lv_at hl 0 rfl) ?_
            refine lv_iload_n hx hb dX12_betti_21 rfl (lv_at hl 2 rfl) ?_
            refine x_cVVF (n := 1) (As := [.int (li 2)]) (rest := []) B h (wkX12_takes l D cI cJ cB cZ bd k t (li 2) _ hR) ⟨⟨_, rfl⟩, by decide +kernel, Nat.le_of_ble_eq_true rfl, Nat.le_of_ble_eq_true rfl⟩ gX12_betti_X12_takes (show ((wM cI cJ cB cZ bd t) : va_W)[0]? = some (_, .inr (12, _)) from rfl) rfl rfl hl.1 rfl (Nat.le_of_ble_eq_true rfl) dX12_betti_22 ⟨Nat.le_of_ble_eq_true rfl, Nat.le_of_ble_eq_true rfl⟩ (fun t_5 H locs hR h => ?_)
            refine lv_aload_n hx hb dX12_betti_25 rfl (lv_at hl 0 rfl) ?_
            refine lv_iload_n hx hb dX12_betti_26 rfl (lv_at hl 1 rfl) ?_
            refine lv_iload_n hx hb dX12_betti_27 rfl (lv_at hl 2 rfl) ?_
            refine x_cVIF (n := 2) (As := [.int (li 1), .int (li 2)]) (rest := []) B h (wkX12_bettiTaken l D cI cJ cB cZ bd k t_5 (li 1) (li 2) _ hR) ⟨⟨_, rfl⟩, by decide +kernel, Nat.le_of_ble_eq_true rfl, Nat.le_of_ble_eq_true rfl⟩ gX12_betti_X12_bettiTaken (show ((wM cI cJ cB cZ bd t_5) : va_W)[0]? = some (_, .inr (12, _)) from rfl) rfl rfl hl.1 rfl (Nat.le_of_ble_eq_true rfl) dX12_betti_28 ⟨Nat.le_of_ble_eq_true rfl, Nat.le_of_ble_eq_true rfl⟩ (fun r_6 t_6 H locs hR h => ?_)
            exact x_iret (w1 := (fun u : XT => (wM cI cJ cB cZ bd u))) t_6 B h hr rfl hR dX12_betti_31
          · have hR := hR.2 c_4
            exact ih.2 t li lj H locs ls hR (lv_sub hl [0, 1, 2] rfl) h
      · intro t li lj H locs ls hR hl h
        have hR : wbX12_betti_1 (wpX12_betti k) k t li lj Q := hR
        unfold wbX12_betti_1 at hR
        refine lv_iconst (v := (-1)) hx hb dX12_betti_18 (by decide) ?_
        exact x_iret (w1 := (fun u : XT => (wM cI cJ cB cZ bd u))) t B h hr rfl hR dX12_betti_19
  exact (main k).1 t _ _ s.heap [] ls hR hl h
set_option maxRecDepth 20000 in
theorem ggX12_torsion_X12_in : GoodIn wsX12_torsion wsX12_in := goodIn_r _ [7] (by decide +kernel) (by decide +kernel)
set_option maxRecDepth 20000 in
theorem gX12_torsion_X12_in : GoodIn wsX12_torsion (va_wsS RX12 101 yX12_in wsX12_in) := goodIn_app (goodIn_of _ (by decide +kernel)) ggX12_torsion_X12_in
set_option maxRecDepth 20000 in
theorem ggX12_torsion_X12_takes : GoodIn wsX12_torsion wsX12_takes := goodIn_r _ [11, 12, 13, 14, 15, 16, 17, 6, 18, 19, 20, 21, 22, 23, 24, 25, 26, 27, 4, 5, 7, 129, 130, 131, 132, 133, 134, 135, 136, 137, 138, 139, 140, 141, 142, 143, 144, 145, 146, 147, 148, 149, 150, 151, 152, 153, 154, 155, 156, 157, 158, 159] (by decide +kernel) (by decide +kernel)
set_option maxRecDepth 20000 in
theorem gX12_torsion_X12_takes : GoodIn wsX12_torsion (wsV RX12 320 RX12 yX12_takes wsX12_takes) := goodIn_app (goodIn_of _ (by decide +kernel)) ggX12_torsion_X12_takes
set_option maxRecDepth 20000 in
theorem ggX12_torsion_X12_rankOf : GoodIn wsX12_torsion wsX12_rankOf := goodIn_r _ [31, 4, 5, 6, 7, 32, 33, 34, 35, 36, 37, 12, 13, 38, 39, 40, 41, 42, 43, 44, 45, 46, 47, 48, 49, 50, 51, 52, 53, 54, 55, 56, 57, 58, 59, 60, 61, 62, 63, 64, 65, 66, 67, 68, 20, 21, 22, 23, 14, 24, 25, 26, 27, 69, 70, 71, 72, 19, 73, 74, 75, 76, 77, 78, 79, 80, 81, 82, 83, 84, 85, 86, 87, 88, 89, 90, 91, 92, 2, 93, 94, 95, 96, 97, 98, 99, 100, 101, 102, 103, 104, 105, 106, 107, 108, 109, 110, 111, 112, 113, 114, 115, 116, 117, 118, 119, 120, 121, 122, 123, 124, 125, 126, 127, 128, 129, 130, 131, 132, 133, 134, 135, 136, 137, 138, 139, 140, 141, 142, 143, 144, 145, 146, 147, 148, 149, 150, 151, 152, 153, 154, 155, 156, 157, 158, 159] (by decide +kernel) (by decide +kernel)
set_option maxRecDepth 20000 in
theorem gX12_torsion_X12_rankOf : GoodIn wsX12_torsion (wsV RX12 317 RX12 yX12_rankOf wsX12_rankOf) := goodIn_app (goodIn_of _ (by decide +kernel)) ggX12_torsion_X12_rankOf
def wbX12_torsion_0 (rec : Nat → XT → (Nat → Int32) → (Nat → Int64) → (Int64 → XT → Prop) → Prop) (k : Nat) (t : XT) (li : Nat → Int32) (lj : Nat → Int64) (Q : Int64 → XT → Prop) : Prop :=
  (wqX12_in k (li 1) 0 4 (fun r_1 => ((r_1 = 0) → rec 1 t li lj Q) ∧ (¬ (r_1 = 0) → (wqX12_in k (li 3) 0 1 (fun r_3 => ((r_3 = 0) → rec 1 t li lj Q) ∧ (¬ (r_3 = 0) → ((((-1) : Int32) ≤ (li 2)) → (wqX12_takes k t (li 3) (fun t_6 => (∀ v_7 : Int32, v_7 = ((li 1) + 1) → (wqX12_rankOf k t_6 v_7 (li 3) (fun r_8 t_8 => rec 2 t_8 (uI (uI (uI li 4 r_8) 5 0) 6 0) lj Q)))))) ∧ (¬ (((-1) : Int32) ≤ (li 2)) → rec 1 t li lj Q)))))))
def wbX12_torsion_1 (rec : Nat → XT → (Nat → Int32) → (Nat → Int64) → (Int64 → XT → Prop) → Prop) (k : Nat) (t : XT) (li : Nat → Int32) (lj : Nat → Int64) (Q : Int64 → XT → Prop) : Prop :=
  Q (-1) t
def wbX12_torsion_2 (rec : Nat → XT → (Nat → Int32) → (Nat → Int64) → (Int64 → XT → Prop) → Prop) (k : Nat) (t : XT) (li : Nat → Int32) (lj : Nat → Int64) (Q : Int64 → XT → Prop) : Prop :=
  ((((li 4) : Int32) ≤ (li 6)) → ((¬ (li 2) = (-1)) → Q (-2) t) ∧ (((li 2) = (-1)) → (∀ v_11 : Int64, v_11 = (li 5).toInt64 → Q v_11 t))) ∧ (¬ (((li 4) : Int32) ≤ (li 6)) → (vp_in (li 6) 60 ∧ (∀ v_12 : Int64, v_12 = (t.2.2.2 5) (li 6).toNatClampNeg → (∀ v_13 : Int32, v_13 = (lg_cmp v_12 1) → ((v_13 ≤ 0) → rec 3 t li lj Q) ∧ (¬ (v_13 ≤ 0) → ((¬ (li 5) = (li 2)) → (∀ v_16 : Int32, v_16 = (li 5) + Int32.ofInt 1 → rec 3 t (uI li 5 v_16) lj Q)) ∧ (((li 5) = (li 2)) → (vp_in (li 6) 60 ∧ (∀ v_17 : Int64, v_17 = (t.2.2.2 5) (li 6).toNatClampNeg → Q v_17 t))))))))
def wbX12_torsion_3 (rec : Nat → XT → (Nat → Int32) → (Nat → Int64) → (Int64 → XT → Prop) → Prop) (k : Nat) (t : XT) (li : Nat → Int32) (lj : Nat → Int64) (Q : Int64 → XT → Prop) : Prop :=
  (∀ v_18 : Int32, v_18 = (li 6) + Int32.ofInt 1 → rec 2 t (uI li 6 v_18) lj Q)
def wpX12_torsion : Nat → Nat → XT → (Nat → Int32) → (Nat → Int64) → (Int64 → XT → Prop) → Prop
  | 0, _, _, _, _, _ => False
  | k + 1, 0, t, li, lj, Q => wbX12_torsion_0 (wpX12_torsion k) k t li lj Q
  | k + 1, 1, t, li, lj, Q => wbX12_torsion_1 (wpX12_torsion k) k t li lj Q
  | k + 1, 2, t, li, lj, Q => wbX12_torsion_2 (wpX12_torsion k) k t li lj Q
  | k + 1, 3, t, li, lj, Q => wbX12_torsion_3 (wpX12_torsion k) k t li lj Q
  | _ + 1, _, _, _, _, _ => False
def wqX12_torsion (k : Nat) (t : XT) (a1 : Int32) (a2 : Int32) (a3 : Int32) (Q : Int64 → XT → Prop) : Prop := wpX12_torsion k 0 t (uI (uI (uI (fun _ => 0) 1 a1) 2 a2) 3 a3) (fun _ => 0) Q
set_option maxHeartbeats 8000000 in
set_option maxRecDepth 100000 in
theorem wkX12_torsion (l : Launch) (D : va_G) (cI cJ cB cZ : ClassId) (bd : Nat → Nat) (k : Nat) (t : XT) (a1 : Int32) (a2 : Int32) (a3 : Int32) (Q : Int64 → XT → Prop) (hR : wqX12_torsion k t a1 a2 a3 Q) : MetL l yX12_torsion wsX12_torsion 9 208 0 0 D (TYS cI cJ cB cZ) (wM cI cJ cB cZ bd t) [.ref (bd 0), .int a1, .int a2, .int a3] (fun r u => Q r u) (fun u : XT => (wM cI cJ cB cZ bd u)) := by
  refine x_startL (ty := .long) (cc := cX12_torsion) (by decide) rfl (Nat.le_of_ble_eq_true rfl) ?_
  intro p e s m args below meth c A ls B hr hnm h hl
  have hx := B.1.1
  have hb := B.1.2.1
  have hml := B.1.2.2.1
  have hts := B.1.2.2.2.2
  have hown : s.vm.findClass RX12 = some m.cls := B.1.2.2.2.1
  have hin12 : ∀ w ∈ u_ws RX12 TX12 31, w ∈ wsX12_torsion := by decide +kernel
  have main : ∀ k : Nat, (∀ (t : XT) (li : Nat → Int32) (lj : Nat → Int64) (H : Heap) (locs : List Loc) (ls : Array Slot), wpX12_torsion k 0 t li lj Q → lv_has ls 7 [(0, .ref (bd 0)), (1, .int (li 1)), (2, .int (li 2)), (3, .int (li 3))] → Hp D A s.heap (wM cI cJ cB cZ bd t) H locs → W p l e { frames := 9, cells := 0, slots := 0, locals := 208 } s m args below meth c H locs 0 0 (MQ below (va_Ql (fun r u => Q r u) (fun u t => xEnd D ((fun u : XT => (wM cI cJ cB cZ bd u)) u) A t) A) args s 0 0 A) (F0 m 0 ls [])) ∧
      (∀ (t : XT) (li : Nat → Int32) (lj : Nat → Int64) (H : Heap) (locs : List Loc) (ls : Array Slot), wpX12_torsion k 1 t li lj Q → lv_has ls 7 [(0, .ref (bd 0)), (1, .int (li 1)), (2, .int (li 2)), (3, .int (li 3))] → Hp D A s.heap (wM cI cJ cB cZ bd t) H locs → W p l e { frames := 9, cells := 0, slots := 0, locals := 208 } s m args below meth c H locs 0 0 (MQ below (va_Ql (fun r u => Q r u) (fun u t => xEnd D ((fun u : XT => (wM cI cJ cB cZ bd u)) u) A t) A) args s 0 0 A) (F0 m 23 ls [])) ∧
      (∀ (t : XT) (li : Nat → Int32) (lj : Nat → Int64) (H : Heap) (locs : List Loc) (ls : Array Slot), wpX12_torsion k 2 t li lj Q → lv_has ls 7 [(0, .ref (bd 0)), (1, .int (li 1)), (2, .int (li 2)), (3, .int (li 3)), (4, .int (li 4)), (5, .int (li 5)), (6, .int (li 6))] → Hp D A s.heap (wM cI cJ cB cZ bd t) H locs → W p l e { frames := 9, cells := 0, slots := 0, locals := 208 } s m args below meth c H locs 0 0 (MQ below (va_Ql (fun r u => Q r u) (fun u t => xEnd D ((fun u : XT => (wM cI cJ cB cZ bd u)) u) A t) A) args s 0 0 A) (F0 m 48 ls [])) ∧
      (∀ (t : XT) (li : Nat → Int32) (lj : Nat → Int64) (H : Heap) (locs : List Loc) (ls : Array Slot), wpX12_torsion k 3 t li lj Q → lv_has ls 7 [(0, .ref (bd 0)), (1, .int (li 1)), (2, .int (li 2)), (3, .int (li 3)), (4, .int (li 4)), (5, .int (li 5)), (6, .int (li 6))] → Hp D A s.heap (wM cI cJ cB cZ bd t) H locs → W p l e { frames := 9, cells := 0, slots := 0, locals := 208 } s m args below meth c H locs 0 0 (MQ below (va_Ql (fun r u => Q r u) (fun u t => xEnd D ((fun u : XT => (wM cI cJ cB cZ bd u)) u) A t) A) args s 0 0 A) (F0 m 84 ls [])) := by
    intro k
    induction k with
    | zero => exact ⟨fun _ _ _ _ _ _ hR => False.elim hR, fun _ _ _ _ _ _ hR => False.elim hR, fun _ _ _ _ _ _ hR => False.elim hR, fun _ _ _ _ _ _ hR => False.elim hR⟩
    | succ k ih =>
      refine ⟨?_, ?_, ?_, ?_⟩
      · intro t li lj H locs ls hR hl h
        have hR : wbX12_torsion_0 (wpX12_torsion k) k t li lj Q := hR
        unfold wbX12_torsion_0 at hR
        refine lv_iload_n hx hb dX12_torsion_0 rfl (lv_at hl 1 rfl) ?_
        refine lv_iconst (v := 0) hx hb dX12_torsion_1 (by decide) ?_
        refine lv_iconst (v := 4) hx hb dX12_torsion_2 (by decide) ?_
        refine x_cSIE (n := 3) (As := [.int (li 1), .int 0, .int 4]) (rest := []) B h (wkX12_in l D cI cJ cB cZ bd k (li 1) 0 4 _ hR) ⟨⟨_, rfl⟩, by decide +kernel, Nat.le_of_ble_eq_true rfl, Nat.le_of_ble_eq_true rfl⟩ gX12_torsion_X12_in rfl hl.1 rfl (Nat.le_of_ble_eq_true rfl) dX12_torsion_3 ⟨Nat.le_of_ble_eq_true rfl, Nat.le_of_ble_eq_true rfl⟩ (fun r_1 _ H locs hR h => ?_)
        refine lv_if_eq (tgt := 23) hx hb dX12_torsion_6 (by decide) (fun c_2 => ?_) (fun c_2 => ?_)
        · have hR := hR.1 c_2
          exact ih.2.1 t li lj H locs ls hR (lv_sub hl [0, 1, 2, 3] rfl) h
        · have hR := hR.2 c_2
          refine lv_iload_n hx hb dX12_torsion_9 rfl (lv_at hl 3 rfl) ?_
          refine lv_iconst (v := 0) hx hb dX12_torsion_10 (by decide) ?_
          refine lv_iconst (v := 1) hx hb dX12_torsion_11 (by decide) ?_
          refine x_cSIE (n := 3) (As := [.int (li 3), .int 0, .int 1]) (rest := []) B h (wkX12_in l D cI cJ cB cZ bd k (li 3) 0 1 _ hR) ⟨⟨_, rfl⟩, by decide +kernel, Nat.le_of_ble_eq_true rfl, Nat.le_of_ble_eq_true rfl⟩ gX12_torsion_X12_in rfl hl.1 rfl (Nat.le_of_ble_eq_true rfl) dX12_torsion_12 ⟨Nat.le_of_ble_eq_true rfl, Nat.le_of_ble_eq_true rfl⟩ (fun r_3 _ H locs hR h => ?_)
          refine lv_if_eq (tgt := 23) hx hb dX12_torsion_15 (by decide) (fun c_4 => ?_) (fun c_4 => ?_)
          · have hR := hR.1 c_4
            exact ih.2.1 t li lj H locs ls hR (lv_sub hl [0, 1, 2, 3] rfl) h
          · have hR := hR.2 c_4
            refine lv_iload_n hx hb dX12_torsion_18 rfl (lv_at hl 2 rfl) ?_
            refine lv_iconst (v := (-1)) hx hb dX12_torsion_19 (by decide) ?_
            refine lv_icmp_ge (tgt := 27) hx hb dX12_torsion_20 (by decide) (fun c_5 => ?_) (fun c_5 => ?_)
            · have hR := hR.1 c_5
              refine lv_aload_n hx hb dX12_torsion_27 rfl (lv_at hl 0 rfl) ?_
              refine lv_iload_n hx hb dX12_torsion_28 rfl (lv_at hl 3 rfl) ?_
              refine x_cVVF (n := 1) (As := [.int (li 3)]) (rest := []) B h (wkX12_takes l D cI cJ cB cZ bd k t (li 3) _ hR) ⟨⟨_, rfl⟩, by decide +kernel, Nat.le_of_ble_eq_true rfl, Nat.le_of_ble_eq_true rfl⟩ gX12_torsion_X12_takes (show ((wM cI cJ cB cZ bd t) : va_W)[0]? = some (_, .inr (12, _)) from rfl) rfl rfl hl.1 rfl (Nat.le_of_ble_eq_true rfl) dX12_torsion_29 ⟨Nat.le_of_ble_eq_true rfl, Nat.le_of_ble_eq_true rfl⟩ (fun t_6 H locs hR h => ?_)
              refine lv_aload_n hx hb dX12_torsion_32 rfl (lv_at hl 0 rfl) ?_
              refine lv_iload_n hx hb dX12_torsion_33 rfl (lv_at hl 1 rfl) ?_
              refine lv_iconst (v := 1) hx hb dX12_torsion_34 (by decide) ?_
              refine lv_iadd hx hb dX12_torsion_35 ?_
              refine lv_topi (fun v_7 ev_7 => ?_)
              have hR := hR v_7 ev_7
              refine lv_iload_n hx hb dX12_torsion_36 rfl (lv_at hl 3 rfl) ?_
              refine x_cVIF (n := 2) (As := [.int v_7, .int (li 3)]) (rest := []) B h (wkX12_rankOf l D cI cJ cB cZ bd k t_6 v_7 (li 3) _ hR) ⟨⟨_, rfl⟩, by decide +kernel, Nat.le_of_ble_eq_true rfl, Nat.le_of_ble_eq_true rfl⟩ gX12_torsion_X12_rankOf (show ((wM cI cJ cB cZ bd t_6) : va_W)[0]? = some (_, .inr (12, _)) from rfl) rfl rfl hl.1 rfl (Nat.le_of_ble_eq_true rfl) dX12_torsion_37 ⟨Nat.le_of_ble_eq_true rfl, Nat.le_of_ble_eq_true rfl⟩ (fun r_8 t_8 H locs hR h => ?_)
              refine lv_istore (lv' := [(4, .int r_8), (0, .ref (bd 0)), (1, .int (li 1)), (2, .int (li 2)), (3, .int (li 3))]) hx hb dX12_torsion_40 hl (by decide) rfl (fun ls hl => ?_)
              refine lv_iconst (v := 0) hx hb dX12_torsion_42 (by decide) ?_
              refine lv_istore (lv' := [(5, .int 0), (4, .int r_8), (0, .ref (bd 0)), (1, .int (li 1)), (2, .int (li 2)), (3, .int (li 3))]) hx hb dX12_torsion_43 hl (by decide) rfl (fun ls hl => ?_)
              refine lv_iconst (v := 0) hx hb dX12_torsion_45 (by decide) ?_
              refine lv_istore (lv' := [(6, .int 0), (5, .int 0), (4, .int r_8), (0, .ref (bd 0)), (1, .int (li 1)), (2, .int (li 2)), (3, .int (li 3))]) hx hb dX12_torsion_46 hl (by decide) rfl (fun ls hl => ?_)
              exact ih.2.2.1 t_8 (uI (uI (uI li 4 r_8) 5 0) 6 0) lj H locs ls hR (lv_sub hl [3, 4, 5, 6, 2, 1, 0] rfl) h
            · have hR := hR.2 c_5
              exact ih.2.1 t li lj H locs ls hR (lv_sub hl [0, 1, 2, 3] rfl) h
      · intro t li lj H locs ls hR hl h
        have hR : wbX12_torsion_1 (wpX12_torsion k) k t li lj Q := hR
        unfold wbX12_torsion_1 at hR
        refine lv_ldc2 (v := (-1)) hx hb hown (hts (.constantLong RX12 236 (-1)) (by decide +kernel)) dX12_torsion_23 ?_
        exact x_lret (w1 := (fun u : XT => (wM cI cJ cB cZ bd u))) t B h hr hR dX12_torsion_26
      · intro t li lj H locs ls hR hl h
        have hR : wbX12_torsion_2 (wpX12_torsion k) k t li lj Q := hR
        unfold wbX12_torsion_2 at hR
        refine lv_iload hx hb dX12_torsion_48 (lv_at hl 6 rfl) ?_
        refine lv_iload hx hb dX12_torsion_50 (lv_at hl 4 rfl) ?_
        refine lv_icmp_ge (tgt := 90) hx hb dX12_torsion_52 (by decide) (fun c_9 => ?_) (fun c_9 => ?_)
        · have hR := hR.1 c_9
          refine lv_iload_n hx hb dX12_torsion_90 rfl (lv_at hl 2 rfl) ?_
          refine lv_iconst (v := (-1)) hx hb dX12_torsion_91 (by decide) ?_
          refine lv_icmp_ne (tgt := 101) hx hb dX12_torsion_92 (by decide) (fun c_10 => ?_) (fun c_10 => ?_)
          · have hR := hR.1 c_10
            refine lv_ldc2 (v := (-2)) hx hb hown (hts (.constantLong RX12 326 (-2)) (by decide +kernel)) dX12_torsion_101 ?_
            exact x_lret (w1 := (fun u : XT => (wM cI cJ cB cZ bd u))) t B h hr hR dX12_torsion_104
          · have hR := hR.2 c_10
            refine lv_iload hx hb dX12_torsion_95 (lv_at hl 5 rfl) ?_
            obtain ⟨v_11, ev_11⟩ : ∃ v : Int64, v = (li 5).toInt64 := ⟨_, rfl⟩
            have hR := hR v_11 ev_11
            refine lv_i2l (v := v_11) hx hb dX12_torsion_97 ev_11.symm ?_
            refine lv_goto (tgt := 104) hx hb dX12_torsion_98 (by decide) ?_
            exact x_lret (w1 := (fun u : XT => (wM cI cJ cB cZ bd u))) t B h hr hR dX12_torsion_104
        · have hR := hR.2 c_9
          refine lv_aload_n hx hb dX12_torsion_55 rfl (lv_at hl 0 rfl) ?_
          refine x_get (ci := 12) (C := RX12) (T := TX12) (N := 31) (v := .ref (bd 18)) B h hin12 0 25 rfl rfl (by decide) (by decide +kernel) rfl dX12_torsion_56 ?_
          refine lv_iload hx hb dX12_torsion_59 (lv_at hl 6 rfl) ?_
          obtain ⟨hb_12, hR⟩ := hR
          refine va_lald (f := (t.2.2.2 5)) hx hb B.2.1 h.1 18 1 rfl rfl hb_12 dX12_torsion_61 ?_
          refine lv_topl (fun v_12 ev_12 => ?_)
          have hR := hR v_12 ev_12
          refine lv_lconst (v := 1) hx hb dX12_torsion_62 (by decide) ?_
          refine W.lcmp hx hb dX12_torsion_63 ?_
          refine lv_topi (fun v_13 ev_13 => ?_)
          have hR := hR v_13 ev_13
          refine lv_if_le (tgt := 84) hx hb dX12_torsion_64 (by decide) (fun c_14 => ?_) (fun c_14 => ?_)
          · have hR := hR.1 c_14
            exact ih.2.2.2 t li lj H locs ls hR (lv_sub hl [0, 1, 2, 3, 4, 5, 6] rfl) h
          · have hR := hR.2 c_14
            refine lv_iload hx hb dX12_torsion_67 (lv_at hl 5 rfl) ?_
            refine lv_iload_n hx hb dX12_torsion_69 rfl (lv_at hl 2 rfl) ?_
            refine lv_icmp_ne (tgt := 81) hx hb dX12_torsion_70 (by decide) (fun c_15 => ?_) (fun c_15 => ?_)
            · have hR := hR.1 c_15
              obtain ⟨v_16, ev_16⟩ : ∃ v : Int32, v = (li 5) + Int32.ofInt 1 := ⟨_, rfl⟩
              have hR := hR v_16 ev_16
              refine lv_iinc (v := v_16) (lv' := [(5, .int v_16), (0, .ref (bd 0)), (1, .int (li 1)), (2, .int (li 2)), (3, .int (li 3)), (4, .int (li 4)), (6, .int (li 6))]) hx hb dX12_torsion_81 hl (k := 5) rfl ev_16.symm (by decide) rfl (fun ls hl => ?_)
              exact ih.2.2.2 t (uI li 5 v_16) lj H locs ls hR (lv_sub hl [1, 2, 3, 4, 5, 0, 6] rfl) h
            · have hR := hR.2 c_15
              refine lv_aload_n hx hb dX12_torsion_73 rfl (lv_at hl 0 rfl) ?_
              refine x_get (ci := 12) (C := RX12) (T := TX12) (N := 31) (v := .ref (bd 18)) B h hin12 0 25 rfl rfl (by decide) (by decide +kernel) rfl dX12_torsion_74 ?_
              refine lv_iload hx hb dX12_torsion_77 (lv_at hl 6 rfl) ?_
              obtain ⟨hb_17, hR⟩ := hR
              refine va_lald (f := (t.2.2.2 5)) hx hb B.2.1 h.1 18 1 rfl rfl hb_17 dX12_torsion_79 ?_
              refine lv_topl (fun v_17 ev_17 => ?_)
              have hR := hR v_17 ev_17
              exact x_lret (w1 := (fun u : XT => (wM cI cJ cB cZ bd u))) t B h hr hR dX12_torsion_80
      · intro t li lj H locs ls hR hl h
        have hR : wbX12_torsion_3 (wpX12_torsion k) k t li lj Q := hR
        unfold wbX12_torsion_3 at hR
        obtain ⟨v_18, ev_18⟩ : ∃ v : Int32, v = (li 6) + Int32.ofInt 1 := ⟨_, rfl⟩
        have hR := hR v_18 ev_18
        refine lv_iinc (v := v_18) (lv' := [(6, .int v_18), (0, .ref (bd 0)), (1, .int (li 1)), (2, .int (li 2)), (3, .int (li 3)), (4, .int (li 4)), (5, .int (li 5))]) hx hb dX12_torsion_84 hl (k := 6) rfl ev_18.symm (by decide) rfl (fun ls hl => ?_)
        refine lv_goto (tgt := 48) hx hb dX12_torsion_87 (by decide) ?_
        exact ih.2.2.1 t (uI li 6 v_18) lj H locs ls hR (lv_sub hl [1, 2, 3, 4, 5, 6, 0] rfl) h
  exact (main k).1 t _ _ s.heap [] ls hR hl h
