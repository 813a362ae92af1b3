set_option maxRecDepth 20000 in
theorem ggX12_same_X12_in : GoodIn wsX12_same wsX12_in := goodIn_r _ [8] (by decide +kernel) (by decide +kernel)
set_option maxRecDepth 20000 in
theorem gX12_same_X12_in : GoodIn wsX12_same (va_wsS RX12 101 yX12_in wsX12_in) := goodIn_app (goodIn_of _ (by decide +kernel)) ggX12_same_X12_in
set_option maxRecDepth 20000 in
theorem ggX12_same_X12_isLower : GoodIn wsX12_same wsX12_isLower := goodIn_r _ [12, 4, 16, 17, 18, 19, 20, 21, 22, 23, 24, 25, 26, 27, 28, 29, 30, 31, 32, 33, 34, 35, 36, 37, 38, 39, 40, 41, 42, 43, 44, 45, 46] (by decide +kernel) (by decide +kernel)
set_option maxRecDepth 20000 in
theorem gX12_same_X12_isLower : GoodIn wsX12_same (wsV RX12 170 RX12 yX12_isLower wsX12_isLower) := goodIn_app (goodIn_of _ (by decide +kernel)) ggX12_same_X12_isLower
set_option maxRecDepth 20000 in
theorem ggX12_same_X12_truth : GoodIn wsX12_same wsX12_truth := goodIn_r _ [15] (by decide +kernel) (by decide +kernel)
set_option maxRecDepth 20000 in
theorem gX12_same_X12_truth : GoodIn wsX12_same (va_wsS RX12 105 yX12_truth wsX12_truth) := goodIn_app (goodIn_of _ (by decide +kernel)) ggX12_same_X12_truth
def wbX12_same_0 (rec : Nat → XT → (Nat → Int32) → (Nat → Int64) → (Int32 → XT → Prop) → Prop) (k : Nat) (t : XT) (li : Nat → Int32) (lj : Nat → Int64) (Q : Int32 → XT → Prop) : Prop :=
  (wqX12_in k (li 1) 0 2 (fun r_1 => ((¬ r_1 = 0) → (vp_in (li 1) 3 ∧ (∀ v_3 : Int32, v_3 = (t.2.2.1 14) (li 1).toNatClampNeg → ((¬ v_3 = 0) → rec 1 t (uI (uI li 2 0) 3 0) lj Q) ∧ ((v_3 = 0) → Q (-2) t)))) ∧ ((r_1 = 0) → Q (-1) t)))
def wbX12_same_1 (rec : Nat → XT → (Nat → Int32) → (Nat → Int64) → (Int32 → XT → Prop) → Prop) (k : Nat) (t : XT) (li : Nat → Int32) (lj : Nat → Int64) (Q : Int32 → XT → Prop) : Prop :=
  ((((t.1 3) : Int32) ≤ (li 3)) → Q (li 2) t) ∧ (¬ (((t.1 3) : Int32) ≤ (li 3)) → (wqX12_isLower k t (li 3) (fun r_6 t_6 => ((r_6 = 0) → rec 2 t_6 (uI li 100 (li 2)) lj Q) ∧ (¬ (r_6 = 0) → (∀ v_8 : Int32, v_8 = (60 * (li 1)) → (∀ v_9 : Int32, v_9 = (v_8 + (li 3)) → (vp_in v_9 180 ∧ (∀ v_10 : Int32, v_10 = (t_6.2.2.1 15) v_9.toNatClampNeg → (vp_in (li 3) 60 ∧ (∀ v_11 : Int32, v_11 = (t_6.2.2.1 4) (li 3).toNatClampNeg → ((¬ v_10 = v_11) → rec 2 t_6 (uI li 100 (li 2)) lj Q) ∧ ((v_10 = v_11) → rec 3 t_6 (uI (uI li 101 1) 100 (li 2)) lj Q)))))))))))
def wbX12_same_2 (rec : Nat → XT → (Nat → Int32) → (Nat → Int64) → (Int32 → XT → Prop) → Prop) (k : Nat) (t : XT) (li : Nat → Int32) (lj : Nat → Int64) (Q : Int32 → XT → Prop) : Prop :=
  rec 3 t (uI (uI li 101 0) 100 (li 100)) lj Q
def wbX12_same_3 (rec : Nat → XT → (Nat → Int32) → (Nat → Int64) → (Int32 → XT → Prop) → Prop) (k : Nat) (t : XT) (li : Nat → Int32) (lj : Nat → Int64) (Q : Int32 → XT → Prop) : Prop :=
  (wqX12_truth k (li 101) (fun r_13 => (∀ v_14 : Int32, v_14 = ((li 100) + r_13) → (∀ v_15 : Int32, v_15 = (li 3) + Int32.ofInt 1 → rec 1 t (uI (uI li 2 v_14) 3 v_15) lj Q))))
def wpX12_same : Nat → Nat → XT → (Nat → Int32) → (Nat → Int64) → (Int32 → XT → Prop) → Prop
  | 0, _, _, _, _, _ => False
  | k + 1, 0, t, li, lj, Q => wbX12_same_0 (wpX12_same k) k t li lj Q
  | k + 1, 1, t, li, lj, Q => wbX12_same_1 (wpX12_same k) k t li lj Q
  | k + 1, 2, t, li, lj, Q => wbX12_same_2 (wpX12_same k) k t li lj Q
  | k + 1, 3, t, li, lj, Q => wbX12_same_3 (wpX12_same k) k t li lj Q
  | _ + 1, _, _, _, _, _ => False
def wqX12_same (k : Nat) (t : XT) (a1 : Int32) (Q : Int32 → XT → Prop) : Prop := wpX12_same k 0 t (uI (fun _ => 0) 1 a1) (fun _ => 0) Q
set_option maxHeartbeats 8000000 in
set_option maxRecDepth 100000 in
theorem wkX12_same (l : Launch) (D : va_G) (cI cJ cB cZ : ClassId) (bd : Nat → Nat) (k : Nat) (t : XT) (a1 : Int32) (Q : Int32 → XT → Prop) (hR : wqX12_same k t a1 Q) : MetI l yX12_same wsX12_same 1 22 0 0 D (TYS cI cJ cB cZ) (wM cI cJ cB cZ bd t) [.ref (bd 0), .int a1] (fun r u => Q r u) (fun u : XT => (wM cI cJ cB cZ bd u)) := by
  refine x_startI (ty := .int) (cc := cX12_same) (by decide) rfl (Nat.le_of_ble_eq_true rfl) ?_
  intro p e s m args below meth c A ls B hr hnm h hl
  have hx := B.1.1
  have hb := B.1.2.1
  have hml := B.1.2.2.1
  have hts := B.1.2.2.2.2
  have hown : s.vm.findClass RX12 = some m.cls := B.1.2.2.2.1
  have hin12 : ∀ w ∈ u_ws RX12 TX12 31, w ∈ wsX12_same := by decide +kernel
  have main : ∀ k : Nat, (∀ (t : XT) (li : Nat → Int32) (lj : Nat → Int64) (H : Heap) (locs : List Loc) (ls : Array Slot), wpX12_same k 0 t li lj Q → lv_has ls 4 [(0, .ref (bd 0)), (1, .int (li 1))] → Hp D A s.heap (wM cI cJ cB cZ bd t) H locs → W p l e { frames := 1, cells := 0, slots := 0, locals := 22 } s m args below meth c H locs 0 0 (MQ below (va_Qi (fun r u => Q r u) (fun u t => xEnd D ((fun u : XT => (wM cI cJ cB cZ bd u)) u) A t) A) args s 0 0 A) (F0 m 0 ls [])) ∧
      (∀ (t : XT) (li : Nat → Int32) (lj : Nat → Int64) (H : Heap) (locs : List Loc) (ls : Array Slot), wpX12_same k 1 t li lj Q → lv_has ls 4 [(0, .ref (bd 0)), (1, .int (li 1)), (2, .int (li 2)), (3, .int (li 3))] → Hp D A s.heap (wM cI cJ cB cZ bd t) H locs → W p l e { frames := 1, cells := 0, slots := 0, locals := 22 } s m args below meth c H locs 0 0 (MQ below (va_Qi (fun r u => Q r u) (fun u t => xEnd D ((fun u : XT => (wM cI cJ cB cZ bd u)) u) A t) A) args s 0 0 A) (F0 m 27 ls [])) ∧
      (∀ (t : XT) (li : Nat → Int32) (lj : Nat → Int64) (H : Heap) (locs : List Loc) (ls : Array Slot), wpX12_same k 2 t li lj Q → lv_has ls 4 [(0, .ref (bd 0)), (1, .int (li 1)), (2, .int (li 2)), (3, .int (li 3))] → Hp D A s.heap (wM cI cJ cB cZ bd t) H locs → W p l e { frames := 1, cells := 0, slots := 0, locals := 22 } s m args below meth c H locs 0 0 (MQ below (va_Qi (fun r u => Q r u) (fun u t => xEnd D ((fun u : XT => (wM cI cJ cB cZ bd u)) u) A t) A) args s 0 0 A) (F0 m 68 ls [.int (li 100)])) ∧
      (∀ (t : XT) (li : Nat → Int32) (lj : Nat → Int64) (H : Heap) (locs : List Loc) (ls : Array Slot), wpX12_same k 3 t li lj Q → lv_has ls 4 [(0, .ref (bd 0)), (1, .int (li 1)), (2, .int (li 2)), (3, .int (li 3))] → Hp D A s.heap (wM cI cJ cB cZ bd t) H locs → W p l e { frames := 1, cells := 0, slots := 0, locals := 22 } s m args below meth c H locs 0 0 (MQ below (va_Qi (fun r u => Q r u) (fun u t => xEnd D ((fun u : XT => (wM cI cJ cB cZ bd u)) u) A t) A) args s 0 0 A) (F0 m 69 ls [.int (li 101), .int (li 100)])) := by
    intro k
    induction k with
    | zero => exact ⟨fun _ _ _ _ _ _ hR => False.elim hR, fun _ _ _ _ _ _ hR => False.elim hR, fun _ _ _ _ _ _ hR => False.elim hR, fun _ _ _ _ _ _ hR => False.elim hR⟩
    | succ k ih =>
      refine ⟨?_, ?_, ?_, ?_⟩
      · intro t li lj H locs ls hR hl h
        have hR : wbX12_same_0 (wpX12_same k) k t li lj Q := hR
        unfold wbX12_same_0 at hR
        refine lv_iload_n hx hb dX12_same_0 rfl (lv_at hl 1 rfl) ?_
        refine lv_iconst (v := 0) hx hb dX12_same_1 (by decide) ?_
        refine lv_iconst (v := 2) hx hb dX12_same_2 (by decide) ?_
        refine x_cSIE (n := 3) (As := [.int (li 1), .int 0, .int 2]) (rest := []) B h (wkX12_in l D cI cJ cB cZ bd k (li 1) 0 2 _ hR) ⟨⟨_, rfl⟩, by decide +kernel, Nat.le_of_ble_eq_true rfl, Nat.le_of_ble_eq_true rfl⟩ gX12_same_X12_in rfl hl.1 rfl (Nat.le_of_ble_eq_true rfl) dX12_same_3 ⟨Nat.le_of_ble_eq_true rfl, Nat.le_of_ble_eq_true rfl⟩ (fun r_1 _ H locs hR h => ?_)
        refine lv_if_ne (tgt := 11) hx hb dX12_same_6 (by decide) (fun c_2 => ?_) (fun c_2 => ?_)
        · have hR := hR.1 c_2
          refine lv_aload_n hx hb dX12_same_11 rfl (lv_at hl 0 rfl) ?_
          refine x_get (ci := 12) (C := RX12) (T := TX12) (N := 31) (v := .ref (bd 21)) B h hin12 0 29 rfl rfl (by decide) (by decide +kernel) rfl dX12_same_12 ?_
          refine lv_iload_n hx hb dX12_same_15 rfl (lv_at hl 1 rfl) ?_
          obtain ⟨hb_3, hR⟩ := hR
          refine va_zald (f := (t.2.2.1 14)) hx hb B.2.1 h.1 21 3 rfl rfl hb_3 dX12_same_16 ?_
          refine lv_topi (fun v_3 ev_3 => ?_)
          have hR := hR v_3 ev_3
          refine lv_if_ne (tgt := 23) hx hb dX12_same_17 (by decide) (fun c_4 => ?_) (fun c_4 => ?_)
          · have hR := hR.1 c_4
            refine lv_iconst (v := 0) hx hb dX12_same_23 (by decide) ?_
            refine lv_istore_n (lv' := [(2, .int 0), (0, .ref (bd 0)), (1, .int (li 1))]) hx hb dX12_same_24 rfl hl (by decide) rfl (fun ls hl => ?_)
            refine lv_iconst (v := 0) hx hb dX12_same_25 (by decide) ?_
            refine lv_istore_n (lv' := [(3, .int 0), (2, .int 0), (0, .ref (bd 0)), (1, .int (li 1))]) hx hb dX12_same_26 rfl hl (by decide) rfl (fun ls hl => ?_)
            exact ih.2.1 t (uI (uI li 2 0) 3 0) lj H locs ls hR (lv_sub hl [2, 3, 1, 0] rfl) h
          · have hR := hR.2 c_4
            refine lv_bipush (v := (-2)) hx hb dX12_same_20 (by decide) ?_
            exact x_iret (w1 := (fun u : XT => (wM cI cJ cB cZ bd u))) t B h hr rfl hR dX12_same_22
        · have hR := hR.2 c_2
          refine lv_iconst (v := (-1)) hx hb dX12_same_9 (by decide) ?_
          exact x_iret (w1 := (fun u : XT => (wM cI cJ cB cZ bd u))) t B h hr rfl hR dX12_same_10
      · intro t li lj H locs ls hR hl h
        have hR : wbX12_same_1 (wpX12_same k) k t li lj Q := hR
        unfold wbX12_same_1 at hR
        refine lv_iload_n hx hb dX12_same_27 rfl (lv_at hl 3 rfl) ?_
        refine lv_aload_n hx hb dX12_same_28 rfl (lv_at hl 0 rfl) ?_
        refine x_get (ci := 12) (C := RX12) (T := TX12) (N := 31) (v := .int (t.1 3)) B h hin12 0 5 rfl rfl (by decide) (by decide +kernel) rfl dX12_same_29 ?_
        refine lv_icmp_ge (tgt := 80) hx hb dX12_same_32 (by decide) (fun c_5 => ?_) (fun c_5 => ?_)
        · have hR := hR.1 c_5
          refine lv_iload_n hx hb dX12_same_80 rfl (lv_at hl 2 rfl) ?_
          exact x_iret (w1 := (fun u : XT => (wM cI cJ cB cZ bd u))) t B h hr rfl hR dX12_same_81
        · have hR := hR.2 c_5
          refine lv_iload_n hx hb dX12_same_35 rfl (lv_at hl 2 rfl) ?_
          refine lv_aload_n hx hb dX12_same_36 rfl (lv_at hl 0 rfl) ?_
          refine lv_iload_n hx hb dX12_same_37 rfl (lv_at hl 3 rfl) ?_
          refine x_cVIF (n := 1) (As := [.int (li 3)]) (rest := [.int (li 2)]) B h (wkX12_isLower l D cI cJ cB cZ bd k t (li 3) _ hR) ⟨⟨_, rfl⟩, by decide +kernel, Nat.le_of_ble_eq_true rfl, Nat.le_of_ble_eq_true rfl⟩ gX12_same_X12_isLower (show ((wM cI cJ cB cZ bd t) : va_W)[0]? = some (_, .inr (12, _)) from rfl) rfl rfl hl.1 rfl (Nat.le_of_ble_eq_true rfl) dX12_same_38 ⟨Nat.le_of_ble_eq_true rfl, Nat.le_of_ble_eq_true rfl⟩ (fun r_6 t_6 H locs hR h => ?_)
          refine lv_if_eq (tgt := 68) hx hb dX12_same_41 (by decide) (fun c_7 => ?_) (fun c_7 => ?_)
          · have hR := hR.1 c_7
            exact ih.2.2.1 t_6 (uI li 100 (li 2)) lj H locs ls hR (lv_sub hl [0, 1, 2, 3] rfl) h
          · have hR := hR.2 c_7
            refine lv_aload_n hx hb dX12_same_44 rfl (lv_at hl 0 rfl) ?_
            refine x_get (ci := 12) (C := RX12) (T := TX12) (N := 31) (v := .ref (bd 22)) B h hin12 0 30 rfl rfl (by decide) (by decide +kernel) rfl dX12_same_45 ?_
            refine lv_bipush (v := 60) hx hb dX12_same_48 (by decide) ?_
            refine lv_iload_n hx hb dX12_same_50 rfl (lv_at hl 1 rfl) ?_
            refine lv_imul hx hb dX12_same_51 ?_
            refine lv_topi (fun v_8 ev_8 => ?_)
            have hR := hR v_8 ev_8
            refine lv_iload_n hx hb dX12_same_52 rfl (lv_at hl 3 rfl) ?_
            refine lv_iadd hx hb dX12_same_53 ?_
            refine lv_topi (fun v_9 ev_9 => ?_)
            have hR := hR v_9 ev_9
            obtain ⟨hb_10, hR⟩ := hR
            refine va_iald (f := (t_6.2.2.1 15)) hx hb B.2.1 h.1 22 0 rfl rfl hb_10 dX12_same_54 ?_
            refine lv_topi (fun v_10 ev_10 => ?_)
            have hR := hR v_10 ev_10
            refine lv_aload_n hx hb dX12_same_55 rfl (lv_at hl 0 rfl) ?_
            refine x_get (ci := 12) (C := RX12) (T := TX12) (N := 31) (v := .ref (bd 5)) B h hin12 0 8 rfl rfl (by decide) (by decide +kernel) rfl dX12_same_56 ?_
            refine lv_iload_n hx hb dX12_same_59 rfl (lv_at hl 3 rfl) ?_
            obtain ⟨hb_11, hR⟩ := hR
            refine va_iald (f := (t_6.2.2.1 4)) hx hb B.2.1 h.1 5 0 rfl rfl hb_11 dX12_same_60 ?_
            refine lv_topi (fun v_11 ev_11 => ?_)
            have hR := hR v_11 ev_11
            refine lv_icmp_ne (tgt := 68) hx hb dX12_same_61 (by decide) (fun c_12 => ?_) (fun c_12 => ?_)
            · have hR := hR.1 c_12
              exact ih.2.2.1 t_6 (uI li 100 (li 2)) lj H locs ls hR (lv_sub hl [0, 1, 2, 3] rfl) h
            · have hR := hR.2 c_12
              refine lv_iconst (v := 1) hx hb dX12_same_64 (by decide) ?_
              refine lv_goto (tgt := 69) hx hb dX12_same_65 (by decide) ?_
              exact ih.2.2.2 t_6 (uI (uI li 101 1) 100 (li 2)) lj H locs ls hR (lv_sub hl [0, 1, 2, 3] rfl) h
      · intro t li lj H locs ls hR hl h
        have hR : wbX12_same_2 (wpX12_same k) k t li lj Q := hR
        unfold wbX12_same_2 at hR
        refine lv_iconst (v := 0) hx hb dX12_same_68 (by decide) ?_
        exact ih.2.2.2 t (uI (uI li 101 0) 100 (li 100)) lj H locs ls hR (lv_sub hl [0, 1, 2, 3] rfl) h
      · intro t li lj H locs ls hR hl h
        have hR : wbX12_same_3 (wpX12_same k) k t li lj Q := hR
        unfold wbX12_same_3 at hR
        refine x_cSIE (n := 1) (As := [.int (li 101)]) (rest := [.int (li 100)]) B h (wkX12_truth l D cI cJ cB cZ bd k (li 101) _ hR) ⟨⟨_, rfl⟩, by decide +kernel, Nat.le_of_ble_eq_true rfl, Nat.le_of_ble_eq_true rfl⟩ gX12_same_X12_truth rfl hl.1 rfl (Nat.le_of_ble_eq_true rfl) dX12_same_69 ⟨Nat.le_of_ble_eq_true rfl, Nat.le_of_ble_eq_true rfl⟩ (fun r_13 _ H locs hR h => ?_)
        refine lv_iadd hx hb dX12_same_72 ?_
        refine lv_topi (fun v_14 ev_14 => ?_)
        have hR := hR v_14 ev_14
        refine lv_istore_n (lv' := [(2, .int v_14), (0, .ref (bd 0)), (1, .int (li 1)), (3, .int (li 3))]) hx hb dX12_same_73 rfl hl (by decide) rfl (fun ls hl => ?_)
        obtain ⟨v_15, ev_15⟩ : ∃ v : Int32, v = (li 3) + Int32.ofInt 1 := ⟨_, rfl⟩
        have hR := hR v_15 ev_15
        refine lv_iinc (v := v_15) (lv' := [(3, .int v_15), (2, .int v_14), (0, .ref (bd 0)), (1, .int (li 1))]) hx hb dX12_same_74 hl (k := 3) rfl ev_15.symm (by decide) rfl (fun ls hl => ?_)
        refine lv_goto (tgt := 27) hx hb dX12_same_77 (by decide) ?_
        exact ih.2.1 t (uI (uI li 2 v_14) 3 v_15) lj H locs ls hR (lv_sub hl [2, 3, 1, 0] rfl) h
  exact (main k).1 t _ _ s.heap [] ls hR hl h
set_option maxRecDepth 20000 in
theorem ggX12_greatestDim_X12_isThere : GoodIn wsX12_greatestDim wsX12_isThere := goodIn_r _ [10, 11, 12, 13, 14, 9, 15, 1, 16, 17, 18, 31, 32, 33, 34, 35, 36, 37, 38, 39, 40, 41, 42, 43, 44, 45, 46, 47, 48, 49, 50, 51, 52, 53, 54, 55, 56, 57, 58, 59, 60, 61] (by decide +kernel) (by decide +kernel)
set_option maxRecDepth 20000 in
theorem gX12_greatestDim_X12_isThere : GoodIn wsX12_greatestDim (wsV RX12 156 RX12 yX12_isThere wsX12_isThere) := goodIn_app (goodIn_of _ (by decide +kernel)) ggX12_greatestDim_X12_isThere
set_option maxRecDepth 20000 in
theorem ggX12_greatestDim_X12_dimOf : GoodIn wsX12_greatestDim wsX12_dimOf := goodIn_r _ [22, 23, 24, 25, 26, 27, 28, 29, 30, 31, 32, 33, 34, 35, 36, 37, 38, 39, 40, 41, 42, 43, 44, 45, 46, 47, 48, 49, 50, 51, 52, 53, 54, 55, 56, 57, 58, 59, 60, 61] (by decide +kernel) (by decide +kernel)
set_option maxRecDepth 20000 in
theorem gX12_greatestDim_X12_dimOf : GoodIn wsX12_greatestDim (wsV RX12 149 RX12 yX12_dimOf wsX12_dimOf) := goodIn_app (goodIn_of _ (by decide +kernel)) ggX12_greatestDim_X12_dimOf
def wbX12_greatestDim_0 (rec : Nat → XT → (Nat → Int32) → (Nat → Int64) → (Int32 → XT → Prop) → Prop) (k : Nat) (t : XT) (li : Nat → Int32) (lj : Nat → Int64) (Q : Int32 → XT → Prop) : Prop :=
  rec 1 t (uI (uI li 1 (-1)) 2 0) lj Q
def wbX12_greatestDim_1 (rec : Nat → XT → (Nat → Int32) → (Nat → Int64) → (Int32 → XT → Prop) → Prop) (k : Nat) (t : XT) (li : Nat → Int32) (lj : Nat → Int64) (Q : Int32 → XT → Prop) : Prop :=
  ((((t.1 3) : Int32) ≤ (li 2)) → Q (li 1) t) ∧ (¬ (((t.1 3) : Int32) ≤ (li 2)) → (wqX12_isThere k t (li 2) (fun r_2 t_2 => ((r_2 = 0) → rec 2 t_2 (uI li 100 (li 1)) lj Q) ∧ (¬ (r_2 = 0) → (wqX12_dimOf k t_2 (li 2) (fun r_4 t_4 => (∀ v_5 : Int32, v_5 = (if (li 1) < r_4 then r_4 else (li 1)) → rec 2 t_4 (uI li 100 v_5) lj Q)))))))
def wbX12_greatestDim_2 (rec : Nat → XT → (Nat → Int32) → (Nat → Int64) → (Int32 → XT → Prop) → Prop) (k : Nat) (t : XT) (li : Nat → Int32) (lj : Nat → Int64) (Q : Int32 → XT → Prop) : Prop :=
  (∀ v_6 : Int32, v_6 = (li 2) + Int32.ofInt 1 → rec 1 t (uI (uI li 1 (li 100)) 2 v_6) lj Q)
def wpX12_greatestDim : Nat → Nat → XT → (Nat → Int32) → (Nat → Int64) → (Int32 → XT → Prop) → Prop
  | 0, _, _, _, _, _ => False
  | k + 1, 0, t, li, lj, Q => wbX12_greatestDim_0 (wpX12_greatestDim k) k t li lj Q
  | k + 1, 1, t, li, lj, Q => wbX12_greatestDim_1 (wpX12_greatestDim k) k t li lj Q
  | k + 1, 2, t, li, lj, Q => wbX12_greatestDim_2 (wpX12_greatestDim k) k t li lj Q
  | _ + 1, _, _, _, _, _ => False
def wqX12_greatestDim (k : Nat) (t : XT)  (Q : Int32 → XT → Prop) : Prop := wpX12_greatestDim k 0 t (fun _ => 0) (fun _ => 0) Q
set_option maxHeartbeats 8000000 in
set_option maxRecDepth 100000 in
theorem wkX12_greatestDim (l : Launch) (D : va_G) (cI cJ cB cZ : ClassId) (bd : Nat → Nat) (k : Nat) (t : XT)  (Q : Int32 → XT → Prop) (hR : wqX12_greatestDim k t  Q) : MetI l yX12_greatestDim wsX12_greatestDim 3 64 0 0 D (TYS cI cJ cB cZ) (wM cI cJ cB cZ bd t) [.ref (bd 0)] (fun r u => Q r u) (fun u : XT => (wM cI cJ cB cZ bd u)) := by
  refine x_startI (ty := .int) (cc := cX12_greatestDim) (by decide) rfl (Nat.le_of_ble_eq_true rfl) ?_
  intro p e s m args below meth c A ls B hr hnm h hl
  have hx := B.1.1
  have hb := B.1.2.1
  have hml := B.1.2.2.1
  have hts := B.1.2.2.2.2
  have hown : s.vm.findClass RX12 = some m.cls := B.1.2.2.2.1
  have hin12 : ∀ w ∈ u_ws RX12 TX12 31, w ∈ wsX12_greatestDim := by decide +kernel
  have main : ∀ k : Nat, (∀ (t : XT) (li : Nat → Int32) (lj : Nat → Int64) (H : Heap) (locs : List Loc) (ls : Array Slot), wpX12_greatestDim k 0 t li lj Q → lv_has ls 3 [(0, .ref (bd 0))] → Hp D A s.heap (wM cI cJ cB cZ bd t) H locs → W p l e { frames := 3, cells := 0, slots := 0, locals := 64 } s m args below meth c H locs 0 0 (MQ below (va_Qi (fun r u => Q r u) (fun u t => xEnd D ((fun u : XT => (wM cI cJ cB cZ bd u)) u) A t) A) args s 0 0 A) (F0 m 0 ls [])) ∧
      (∀ (t : XT) (li : Nat → Int32) (lj : Nat → Int64) (H : Heap) (locs : List Loc) (ls : Array Slot), wpX12_greatestDim k 1 t li lj Q → lv_has ls 3 [(0, .ref (bd 0)), (1, .int (li 1)), (2, .int (li 2))] → Hp D A s.heap (wM cI cJ cB cZ bd t) H locs → W p l e { frames := 3, cells := 0, slots := 0, locals := 64 } s m args below meth c H locs 0 0 (MQ below (va_Qi (fun r u => Q r u) (fun u t => xEnd D ((fun u : XT => (wM cI cJ cB cZ bd u)) u) A t) A) args s 0 0 A) (F0 m 4 ls [])) ∧
      (∀ (t : XT) (li : Nat → Int32) (lj : Nat → Int64) (H : Heap) (locs : List Loc) (ls : Array Slot), wpX12_greatestDim k 2 t li lj Q → lv_has ls 3 [(0, .ref (bd 0)), (1, .int (li 1)), (2, .int (li 2))] → Hp D A s.heap (wM cI cJ cB cZ bd t) H locs → W p l e { frames := 3, cells := 0, slots := 0, locals := 64 } s m args below meth c H locs 0 0 (MQ below (va_Qi (fun r u => Q r u) (fun u t => xEnd D ((fun u : XT => (wM cI cJ cB cZ bd u)) u) A t) A) args s 0 0 A) (F0 m 33 ls [.int (li 100)])) := by
    intro k
    induction k with
    | zero => exact ⟨fun _ _ _ _ _ _ hR => False.elim hR, fun _ _ _ _ _ _ hR => False.elim hR, fun _ _ _ _ _ _ hR => False.elim hR⟩
    | succ k ih =>
      refine ⟨?_, ?_, ?_⟩
      · intro t li lj H locs ls hR hl h
        have hR : wbX12_greatestDim_0 (wpX12_greatestDim k) k t li lj Q := hR
        unfold wbX12_greatestDim_0 at hR
        refine lv_iconst (v := (-1)) hx hb dX12_greatestDim_0 (by decide) ?_
        refine lv_istore_n (lv' := [(1, .int (-1)), (0, .ref (bd 0))]) hx hb dX12_greatestDim_1 rfl hl (by decide) rfl (fun ls hl => ?_)
        refine lv_iconst (v := 0) hx hb dX12_greatestDim_2 (by decide) ?_
        refine lv_istore_n (lv' := [(2, .int 0), (1, .int (-1)), (0, .ref (bd 0))]) hx hb dX12_greatestDim_3 rfl hl (by decide) rfl (fun ls hl => ?_)
        exact ih.2.1 t (uI (uI li 1 (-1)) 2 0) lj H locs ls hR (lv_sub hl [2, 1, 0] rfl) h
      · intro t li lj H locs ls hR hl h
        have hR : wbX12_greatestDim_1 (wpX12_greatestDim k) k t li lj Q := hR
        unfold wbX12_greatestDim_1 at hR
        refine lv_iload_n hx hb dX12_greatestDim_4 rfl (lv_at hl 2 rfl) ?_
        refine lv_aload_n hx hb dX12_greatestDim_5 rfl (lv_at hl 0 rfl) ?_
        refine x_get (ci := 12) (C := RX12) (T := TX12) (N := 31) (v := .int (t.1 3)) B h hin12 0 5 rfl rfl (by decide) (by decide +kernel) rfl dX12_greatestDim_6 ?_
        refine lv_icmp_ge (tgt := 40) hx hb dX12_greatestDim_9 (by decide) (fun c_1 => ?_) (fun c_1 => ?_)
        · have hR := hR.1 c_1
          refine lv_iload_n hx hb dX12_greatestDim_40 rfl (lv_at hl 1 rfl) ?_
          exact x_iret (w1 := (fun u : XT => (wM cI cJ cB cZ bd u))) t B h hr rfl hR dX12_greatestDim_41
        · have hR := hR.2 c_1
          refine lv_aload_n hx hb dX12_greatestDim_12 rfl (lv_at hl 0 rfl) ?_
          refine lv_iload_n hx hb dX12_greatestDim_13 rfl (lv_at hl 2 rfl) ?_
          refine x_cVIF (n := 1) (As := [.int (li 2)]) (rest := []) B h (wkX12_isThere l D cI cJ cB cZ bd k t (li 2) _ hR) ⟨⟨_, rfl⟩, by decide +kernel, Nat.le_of_ble_eq_true rfl, Nat.le_of_ble_eq_true rfl⟩ gX12_greatestDim_X12_isThere (show ((wM cI cJ cB cZ bd t) : va_W)[0]? = some (_, .inr (12, _)) from rfl) rfl rfl hl.1 rfl (Nat.le_of_ble_eq_true rfl) dX12_greatestDim_14 ⟨Nat.le_of_ble_eq_true rfl, Nat.le_of_ble_eq_true rfl⟩ (fun r_2 t_2 H locs hR h => ?_)
          refine lv_if_eq (tgt := 32) hx hb dX12_greatestDim_17 (by decide) (fun c_3 => ?_) (fun c_3 => ?_)
          · have hR := hR.1 c_3
            refine lv_iload_n hx hb dX12_greatestDim_32 rfl (lv_at hl 1 rfl) ?_
            exact ih.2.2 t_2 (uI li 100 (li 1)) lj H locs ls hR (lv_sub hl [0, 1, 2] rfl) h
          · have hR := hR.2 c_3
            refine lv_iload_n hx hb dX12_greatestDim_20 rfl (lv_at hl 1 rfl) ?_
            refine lv_aload_n hx hb dX12_greatestDim_21 rfl (lv_at hl 0 rfl) ?_
            refine lv_iload_n hx hb dX12_greatestDim_22 rfl (lv_at hl 2 rfl) ?_
            refine x_cVIF (n := 1) (As := [.int (li 2)]) (rest := [.int (li 1)]) B h (wkX12_dimOf l D cI cJ cB cZ bd k t_2 (li 2) _ hR) ⟨⟨_, rfl⟩, by decide +kernel, Nat.le_of_ble_eq_true rfl, Nat.le_of_ble_eq_true rfl⟩ gX12_greatestDim_X12_dimOf (show ((wM cI cJ cB cZ bd t_2) : va_W)[0]? = some (_, .inr (12, _)) from rfl) rfl rfl hl.1 rfl (Nat.le_of_ble_eq_true rfl) dX12_greatestDim_23 ⟨Nat.le_of_ble_eq_true rfl, Nat.le_of_ble_eq_true rfl⟩ (fun r_4 t_4 H locs hR h => ?_)
            refine va_mmax hx hb (hml.trans hl.1.symm) hown (hts (.methodLink RX12 350 Lib.Math.max.name) (by decide +kernel)) (hts (.static Lib.Math.max.name) (by decide +kernel)) (hts (.initialized "java/lang/Math") (by decide +kernel)) (hts (.code Lib.Math.max.name Lib.Math.max.code 2 (some .int)) (by decide +kernel)) (Nat.le_of_ble_eq_true rfl) (Nat.le_of_ble_eq_true rfl) (Nat.le_of_ble_eq_true rfl) (Nat.le_of_ble_eq_true rfl) dX12_greatestDim_26 ?_
            refine lv_topi (fun v_5 ev_5 => ?_)
            have hR := hR v_5 ev_5
            refine lv_goto (tgt := 33) hx hb dX12_greatestDim_29 (by decide) ?_
            exact ih.2.2 t_4 (uI li 100 v_5) lj H locs ls hR (lv_sub hl [0, 1, 2] rfl) h
      · intro t li lj H locs ls hR hl h
        have hR : wbX12_greatestDim_2 (wpX12_greatestDim k) k t li lj Q := hR
        unfold wbX12_greatestDim_2 at hR
        refine lv_istore_n (lv' := [(1, .int (li 100)), (0, .ref (bd 0)), (2, .int (li 2))]) hx hb dX12_greatestDim_33 rfl hl (by decide) rfl (fun ls hl => ?_)
        obtain ⟨v_6, ev_6⟩ : ∃ v : Int32, v = (li 2) + Int32.ofInt 1 := ⟨_, rfl⟩
        have hR := hR v_6 ev_6
        refine lv_iinc (v := v_6) (lv' := [(2, .int v_6), (1, .int (li 100)), (0, .ref (bd 0))]) hx hb dX12_greatestDim_34 hl (k := 2) rfl ev_6.symm (by decide) rfl (fun ls hl => ?_)
        refine lv_goto (tgt := 4) hx hb dX12_greatestDim_37 (by decide) ?_
        exact ih.2.1 t (uI (uI li 1 (li 100)) 2 v_6) lj H locs ls hR (lv_sub hl [2, 1, 0] rfl) h
  exact (main k).1 t _ _ s.heap [] ls hR hl h
set_option maxRecDepth 20000 in
theorem ggX12_euler_X12_isThere : GoodIn wsX12_euler wsX12_isThere := goodIn_r _ [6, 7, 8, 9, 10, 5, 11, 1, 12, 13, 14, 31, 32, 33, 34, 35, 36, 37, 38, 39, 40, 41, 42, 43, 44, 45, 46, 47, 48, 49, 50, 51, 52, 53, 54, 55, 56, 57, 58, 59, 60, 61] (by decide +kernel) (by decide +kernel)
set_option maxRecDepth 20000 in
theorem gX12_euler_X12_isThere : GoodIn wsX12_euler (wsV RX12 156 RX12 yX12_isThere wsX12_isThere) := goodIn_app (goodIn_of _ (by decide +kernel)) ggX12_euler_X12_isThere
set_option maxRecDepth 20000 in
theorem ggX12_euler_X12_alternating : GoodIn wsX12_euler wsX12_alternating := goodIn_r _ [18, 19, 20, 21, 5, 22, 23, 24, 25, 26, 27, 28, 29, 30, 31, 32, 33, 34, 35, 36, 37, 38, 39, 40, 41, 42, 43, 44, 45, 46, 47, 48, 49, 50, 51, 52, 53, 54, 55, 56, 57, 58, 59, 60, 61] (by decide +kernel) (by decide +kernel)
set_option maxRecDepth 20000 in
theorem gX12_euler_X12_alternating : GoodIn wsX12_euler (wsV RX12 334 RX12 yX12_alternating wsX12_alternating) := goodIn_app (goodIn_of _ (by decide +kernel)) ggX12_euler_X12_alternating
def wbX12_euler_0 (rec : Nat → XT → (Nat → Int32) → (Nat → Int64) → (Int32 → XT → Prop) → Prop) (k : Nat) (t : XT) (li : Nat → Int32) (lj : Nat → Int64) (Q : Int32 → XT → Prop) : Prop :=
  rec 1 t (uI (uI li 1 0) 2 0) lj Q
def wbX12_euler_1 (rec : Nat → XT → (Nat → Int32) → (Nat → Int64) → (Int32 → XT → Prop) → Prop) (k : Nat) (t : XT) (li : Nat → Int32) (lj : Nat → Int64) (Q : Int32 → XT → Prop) : Prop :=
  ((((t.1 3) : Int32) ≤ (li 2)) → Q (li 1) t) ∧ (¬ (((t.1 3) : Int32) ≤ (li 2)) → (wqX12_isThere k t (li 2) (fun r_2 t_2 => ((r_2 = 0) → rec 2 t_2 (uI (uI li 101 0) 100 (li 1)) lj Q) ∧ (¬ (r_2 = 0) → (wqX12_alternating k t_2 (li 2) (fun r_4 t_4 => rec 2 t_4 (uI (uI li 101 r_4) 100 (li 1)) lj Q))))))
def wbX12_euler_2 (rec : Nat → XT → (Nat → Int32) → (Nat → Int64) → (Int32 → XT → Prop) → Prop) (k : Nat) (t : XT) (li : Nat → Int32) (lj : Nat → Int64) (Q : Int32 → XT → Prop) : Prop :=
  (∀ v_5 : Int32, v_5 = ((li 100) + (li 101)) → (∀ v_6 : Int32, v_6 = (li 2) + Int32.ofInt 1 → rec 1 t (uI (uI li 1 v_5) 2 v_6) lj Q))
def wpX12_euler : Nat → Nat → XT → (Nat → Int32) → (Nat → Int64) → (Int32 → XT → Prop) → Prop
  | 0, _, _, _, _, _ => False
  | k + 1, 0, t, li, lj, Q => wbX12_euler_0 (wpX12_euler k) k t li lj Q
  | k + 1, 1, t, li, lj, Q => wbX12_euler_1 (wpX12_euler k) k t li lj Q
  | k + 1, 2, t, li, lj, Q => wbX12_euler_2 (wpX12_euler k) k t li lj Q
  | _ + 1, _, _, _, _, _ => False
def wqX12_euler (k : Nat) (t : XT)  (Q : Int32 → XT → Prop) : Prop := wpX12_euler k 0 t (fun _ => 0) (fun _ => 0) Q
set_option maxHeartbeats 8000000 in
set_option maxRecDepth 100000 in
theorem wkX12_euler (l : Launch) (D : va_G) (cI cJ cB cZ : ClassId) (bd : Nat → Nat) (k : Nat) (t : XT)  (Q : Int32 → XT → Prop) (hR : wqX12_euler k t  Q) : MetI l yX12_euler wsX12_euler 3 64 0 0 D (TYS cI cJ cB cZ) (wM cI cJ cB cZ bd t) [.ref (bd 0)] (fun r u => Q r u) (fun u : XT => (wM cI cJ cB cZ bd u)) := by
  refine x_startI (ty := .int) (cc := cX12_euler) (by decide) rfl (Nat.le_of_ble_eq_true rfl) ?_
  intro p e s m args below meth c A ls B hr hnm h hl
  have hx := B.1.1
  have hb := B.1.2.1
  have hml := B.1.2.2.1
  have hts := B.1.2.2.2.2
  have hown : s.vm.findClass RX12 = some m.cls := B.1.2.2.2.1
  have hin12 : ∀ w ∈ u_ws RX12 TX12 31, w ∈ wsX12_euler := by decide +kernel
  have main : ∀ k : Nat, (∀ (t : XT) (li : Nat → Int32) (lj : Nat → Int64) (H : Heap) (locs : List Loc) (ls : Array Slot), wpX12_euler k 0 t li lj Q → lv_has ls 3 [(0, .ref (bd 0))] → Hp D A s.heap (wM cI cJ cB cZ bd t) H locs → W p l e { frames := 3, cells := 0, slots := 0, locals := 64 } s m args below meth c H locs 0 0 (MQ below (va_Qi (fun r u => Q r u) (fun u t => xEnd D ((fun u : XT => (wM cI cJ cB cZ bd u)) u) A t) A) args s 0 0 A) (F0 m 0 ls [])) ∧
      (∀ (t : XT) (li : Nat → Int32) (lj : Nat → Int64) (H : Heap) (locs : List Loc) (ls : Array Slot), wpX12_euler k 1 t li lj Q → lv_has ls 3 [(0, .ref (bd 0)), (1, .int (li 1)), (2, .int (li 2))] → Hp D A s.heap (wM cI cJ cB cZ bd t) H locs → W p l e { frames := 3, cells := 0, slots := 0, locals := 64 } s m args below meth c H locs 0 0 (MQ below (va_Qi (fun r u => Q r u) (fun u t => xEnd D ((fun u : XT => (wM cI cJ cB cZ bd u)) u) A t) A) args s 0 0 A) (F0 m 4 ls [])) ∧
      (∀ (t : XT) (li : Nat → Int32) (lj : Nat → Int64) (H : Heap) (locs : List Loc) (ls : Array Slot), wpX12_euler k 2 t li lj Q → lv_has ls 3 [(0, .ref (bd 0)), (1, .int (li 1)), (2, .int (li 2))] → Hp D A s.heap (wM cI cJ cB cZ bd t) H locs → W p l e { frames := 3, cells := 0, slots := 0, locals := 64 } s m args below meth c H locs 0 0 (MQ below (va_Qi (fun r u => Q r u) (fun u t => xEnd D ((fun u : XT => (wM cI cJ cB cZ bd u)) u) A t) A) args s 0 0 A) (F0 m 30 ls [.int (li 101), .int (li 100)])) := by
    intro k
    induction k with
    | zero => exact ⟨fun _ _ _ _ _ _ hR => False.elim hR, fun _ _ _ _ _ _ hR => False.elim hR, fun _ _ _ _ _ _ hR => False.elim hR⟩
    | succ k ih =>
      refine ⟨?_, ?_, ?_⟩
      · intro t li lj H locs ls hR hl h
        have hR : wbX12_euler_0 (wpX12_euler k) k t li lj Q := hR
        unfold wbX12_euler_0 at hR
        refine lv_iconst (v := 0) hx hb dX12_euler_0 (by decide) ?_
        refine lv_istore_n (lv' := [(1, .int 0), (0, .ref (bd 0))]) hx hb dX12_euler_1 rfl hl (by decide) rfl (fun ls hl => ?_)
        refine lv_iconst (v := 0) hx hb dX12_euler_2 (by decide) ?_
        refine lv_istore_n (lv' := [(2, .int 0), (1, .int 0), (0, .ref (bd 0))]) hx hb dX12_euler_3 rfl hl (by decide) rfl (fun ls hl => ?_)
        exact ih.2.1 t (uI (uI li 1 0) 2 0) lj H locs ls hR (lv_sub hl [2, 1, 0] rfl) h
      · intro t li lj H locs ls hR hl h
        have hR : wbX12_euler_1 (wpX12_euler k) k t li lj Q := hR
        unfold wbX12_euler_1 at hR
        refine lv_iload_n hx hb dX12_euler_4 rfl (lv_at hl 2 rfl) ?_
        refine lv_aload_n hx hb dX12_euler_5 rfl (lv_at hl 0 rfl) ?_
        refine x_get (ci := 12) (C := RX12) (T := TX12) (N := 31) (v := .int (t.1 3)) B h hin12 0 5 rfl rfl (by decide) (by decide +kernel) rfl dX12_euler_6 ?_
        refine lv_icmp_ge (tgt := 38) hx hb dX12_euler_9 (by decide) (fun c_1 => ?_) (fun c_1 => ?_)
        · have hR := hR.1 c_1
          refine lv_iload_n hx hb dX12_euler_38 rfl (lv_at hl 1 rfl) ?_
          exact x_iret (w1 := (fun u : XT => (wM cI cJ cB cZ bd u))) t B h hr rfl hR dX12_euler_39
        · have hR := hR.2 c_1
          refine lv_iload_n hx hb dX12_euler_12 rfl (lv_at hl 1 rfl) ?_
          refine lv_aload_n hx hb dX12_euler_13 rfl (lv_at hl 0 rfl) ?_
          refine lv_iload_n hx hb dX12_euler_14 rfl (lv_at hl 2 rfl) ?_
          refine x_cVIF (n := 1) (As := [.int (li 2)]) (rest := [.int (li 1)]) B h (wkX12_isThere l D cI cJ cB cZ bd k t (li 2) _ hR) ⟨⟨_, rfl⟩, by decide +kernel, Nat.le_of_ble_eq_true rfl, Nat.le_of_ble_eq_true rfl⟩ gX12_euler_X12_isThere (show ((wM cI cJ cB cZ bd t) : va_W)[0]? = some (_, .inr (12, _)) from rfl) rfl rfl hl.1 rfl (Nat.le_of_ble_eq_true rfl) dX12_euler_15 ⟨Nat.le_of_ble_eq_true rfl, Nat.le_of_ble_eq_true rfl⟩ (fun r_2 t_2 H locs hR h => ?_)
          refine lv_if_eq (tgt := 29) hx hb dX12_euler_18 (by decide) (fun c_3 => ?_) (fun c_3 => ?_)
          · have hR := hR.1 c_3
            refine lv_iconst (v := 0) hx hb dX12_euler_29 (by decide) ?_
            exact ih.2.2 t_2 (uI (uI li 101 0) 100 (li 1)) lj H locs ls hR (lv_sub hl [0, 1, 2] rfl) h
          · have hR := hR.2 c_3
            refine lv_aload_n hx hb dX12_euler_21 rfl (lv_at hl 0 rfl) ?_
            refine lv_iload_n hx hb dX12_euler_22 rfl (lv_at hl 2 rfl) ?_
            refine x_cVIF (n := 1) (As := [.int (li 2)]) (rest := [.int (li 1)]) B h (wkX12_alternating l D cI cJ cB cZ bd k t_2 (li 2) _ hR) ⟨⟨_, rfl⟩, by decide +kernel, Nat.le_of_ble_eq_true rfl, Nat.le_of_ble_eq_true rfl⟩ gX12_euler_X12_alternating (show ((wM cI cJ cB cZ bd t_2) : va_W)[0]? = some (_, .inr (12, _)) from rfl) rfl rfl hl.1 rfl (Nat.le_of_ble_eq_true rfl) dX12_euler_23 ⟨Nat.le_of_ble_eq_true rfl, Nat.le_of_ble_eq_true rfl⟩ (fun r_4 t_4 H locs hR h => ?_)
            refine lv_goto (tgt := 30) hx hb dX12_euler_26 (by decide) ?_
            exact ih.2.2 t_4 (uI (uI li 101 r_4) 100 (li 1)) lj H locs ls hR (lv_sub hl [0, 1, 2] rfl) h
      · intro t li lj H locs ls hR hl h
        have hR : wbX12_euler_2 (wpX12_euler k) k t li lj Q := hR
        unfold wbX12_euler_2 at hR
        refine lv_iadd hx hb dX12_euler_30 ?_
        refine lv_topi (fun v_5 ev_5 => ?_)
        have hR := hR v_5 ev_5
        refine lv_istore_n (lv' := [(1, .int v_5), (0, .ref (bd 0)), (2, .int (li 2))]) hx hb dX12_euler_31 rfl hl (by decide) rfl (fun ls hl => ?_)
        obtain ⟨v_6, ev_6⟩ : ∃ v : Int32, v = (li 2) + Int32.ofInt 1 := ⟨_, rfl⟩
        have hR := hR v_6 ev_6
        refine lv_iinc (v := v_6) (lv' := [(2, .int v_6), (1, .int v_5), (0, .ref (bd 0))]) hx hb dX12_euler_32 hl (k := 2) rfl ev_6.symm (by decide) rfl (fun ls hl => ?_)
        refine lv_goto (tgt := 4) hx hb dX12_euler_35 (by decide) ?_
        exact ih.2.1 t (uI (uI li 1 v_5) 2 v_6) lj H locs ls hR (lv_sub hl [2, 1, 0] rfl) h
  exact (main k).1 t _ _ s.heap [] ls hR hl h
set_option maxRecDepth 20000 in
theorem ggX12_partsMany_X12_isFaceThere : GoodIn wsX12_partsMany wsX12_isFaceThere := goodIn_r _ [11, 12, 13, 14, 15, 10, 16, 17, 18, 19, 20, 21, 22, 23, 24, 25, 26, 27, 28, 43, 44, 45, 46, 47, 48, 49, 50, 51, 52, 53, 54, 55, 56, 57, 58, 59, 60, 61, 62, 63, 64, 65, 66, 67, 68, 69, 70, 71, 72, 73] (by decide +kernel) (by decide +kernel)
set_option maxRecDepth 20000 in
theorem gX12_partsMany_X12_isFaceThere : GoodIn wsX12_partsMany (wsV RX12 162 RX12 yX12_isFaceThere wsX12_isFaceThere) := goodIn_app (goodIn_of _ (by decide +kernel)) ggX12_partsMany_X12_isFaceThere
set_option maxRecDepth 20000 in
theorem ggX12_partsMany_X12_isThere : GoodIn wsX12_partsMany wsX12_isThere := goodIn_r _ [32, 12, 33, 34, 35, 10, 36, 1, 37, 38, 39, 43, 44, 45, 46, 47, 48, 49, 50, 51, 52, 53, 54, 55, 56, 57, 58, 59, 60, 61, 62, 63, 64, 65, 66, 67, 68, 69, 70, 71, 72, 73] (by decide +kernel) (by decide +kernel)
set_option maxRecDepth 20000 in
theorem gX12_partsMany_X12_isThere : GoodIn wsX12_partsMany (wsV RX12 156 RX12 yX12_isThere wsX12_isThere) := goodIn_app (goodIn_of _ (by decide +kernel)) ggX12_partsMany_X12_isThere
set_option maxRecDepth 20000 in
theorem ggX12_partsMany_X12_truth : GoodIn wsX12_partsMany wsX12_truth := goodIn_r _ [42] (by decide +kernel) (by decide +kernel)
set_option maxRecDepth 20000 in
theorem gX12_partsMany_X12_truth : GoodIn wsX12_partsMany (va_wsS RX12 105 yX12_truth wsX12_truth) := goodIn_app (goodIn_of _ (by decide +kernel)) ggX12_partsMany_X12_truth
def wbX12_partsMany_0 (rec : Nat → XT → (Nat → Int32) → (Nat → Int64) → (Int32 → XT → Prop) → Prop) (k : Nat) (t : XT) (li : Nat → Int32) (lj : Nat → Int64) (Q : Int32 → XT → Prop) : Prop :=
  rec 1 t (uI li 1 0) lj Q
def wbX12_partsMany_1 (rec : Nat → XT → (Nat → Int32) → (Nat → Int64) → (Int32 → XT → Prop) → Prop) (k : Nat) (t : XT) (li : Nat → Int32) (lj : Nat → Int64) (Q : Int32 → XT → Prop) : Prop :=
  ((((t.1 3) : Int32) ≤ (li 1)) → rec 2 t (uI li 1 1) lj Q) ∧ (¬ (((t.1 3) : Int32) ≤ (li 1)) → (vp_in (li 1) 60 ∧ (∀ t_2 : XT, t_2 = sA t 7 (upd (t.2.2.1 7) (li 1).toNatClampNeg (li 1)) → (∀ v_3 : Int32, v_3 = (li 1) + Int32.ofInt 1 → rec 1 t_2 (uI li 1 v_3) lj Q))))
def wbX12_partsMany_2 (rec : Nat → XT → (Nat → Int32) → (Nat → Int64) → (Int32 → XT → Prop) → Prop) (k : Nat) (t : XT) (li : Nat → Int32) (lj : Nat → Int64) (Q : Int32 → XT → Prop) : Prop :=
  (((li 1) = 0) → rec 6 t (uI (uI li 2 0) 3 0) lj Q) ∧ (¬ ((li 1) = 0) → rec 3 t (uI (uI li 1 0) 2 0) lj Q)
def wbX12_partsMany_3 (rec : Nat → XT → (Nat → Int32) → (Nat → Int64) → (Int32 → XT → Prop) → Prop) (k : Nat) (t : XT) (li : Nat → Int32) (lj : Nat → Int64) (Q : Int32 → XT → Prop) : Prop :=
  ((((t.1 3) : Int32) ≤ (li 2)) → rec 2 t li lj Q) ∧ (¬ (((t.1 3) : Int32) ≤ (li 2)) → rec 4 t (uI li 3 0) lj Q)
def wbX12_partsMany_4 (rec : Nat → XT → (Nat → Int32) → (Nat → Int64) → (Int32 → XT → Prop) → Prop) (k : Nat) (t : XT) (li : Nat → Int32) (lj : Nat → Int64) (Q : Int32 → XT → Prop) : Prop :=
  ((((t.1 3) : Int32) ≤ (li 3)) → (∀ v_7 : Int32, v_7 = (li 2) + Int32.ofInt 1 → rec 3 t (uI li 2 v_7) lj Q)) ∧ (¬ (((t.1 3) : Int32) ≤ (li 3)) → (wqX12_isFaceThere k t (li 2) (li 3) (fun r_8 t_8 => ((r_8 = 0) → rec 5 t_8 li lj Q) ∧ (¬ (r_8 = 0) → (vp_in (li 2) 60 ∧ (∀ v_10 : Int32, v_10 = (t_8.2.2.1 7) (li 2).toNatClampNeg → (vp_in (li 3) 60 ∧ (∀ v_11 : Int32, v_11 = (t_8.2.2.1 7) (li 3).toNatClampNeg → ((v_10 = v_11) → rec 5 t_8 li lj Q) ∧ (¬ (v_10 = v_11) → (vp_in (li 2) 60 ∧ (∀ v_13 : Int32, v_13 = (t_8.2.2.1 7) (li 2).toNatClampNeg → (vp_in (li 3) 60 ∧ (∀ v_14 : Int32, v_14 = (t_8.2.2.1 7) (li 3).toNatClampNeg → (∀ v_15 : Int32, v_15 = (if v_14 < v_13 then v_14 else v_13) → (vp_in (li 2) 60 ∧ (∀ t_16 : XT, t_16 = sA t_8 7 (upd (t_8.2.2.1 7) (li 2).toNatClampNeg v_15) → (vp_in (li 3) 60 ∧ (∀ t_17 : XT, t_17 = sA t_16 7 (upd (t_16.2.2.1 7) (li 3).toNatClampNeg v_15) → rec 5 t_17 (uI li 1 1) lj Q))))))))))))))))))
def wbX12_partsMany_5 (rec : Nat → XT → (Nat → Int32) → (Nat → Int64) → (Int32 → XT → Prop) → Prop) (k : Nat) (t : XT) (li : Nat → Int32) (lj : Nat → Int64) (Q : Int32 → XT → Prop) : Prop :=
  (∀ v_18 : Int32, v_18 = (li 3) + Int32.ofInt 1 → rec 4 t (uI li 3 v_18) lj Q)
def wbX12_partsMany_6 (rec : Nat → XT → (Nat → Int32) → (Nat → Int64) → (Int32 → XT → Prop) → Prop) (k : Nat) (t : XT) (li : Nat → Int32) (lj : Nat → Int64) (Q : Int32 → XT → Prop) : Prop :=
  ((((t.1 3) : Int32) ≤ (li 3)) → Q (li 2) t) ∧ (¬ (((t.1 3) : Int32) ≤ (li 3)) → (wqX12_isThere k t (li 3) (fun r_20 t_20 => ((r_20 = 0) → rec 7 t_20 (uI li 100 (li 2)) lj Q) ∧ (¬ (r_20 = 0) → (vp_in (li 3) 60 ∧ (∀ v_22 : Int32, v_22 = (t_20.2.2.1 7) (li 3).toNatClampNeg → ((¬ v_22 = (li 3)) → rec 7 t_20 (uI li 100 (li 2)) lj Q) ∧ ((v_22 = (li 3)) → rec 8 t_20 (uI (uI li 101 1) 100 (li 2)) lj Q)))))))
def wbX12_partsMany_7 (rec : Nat → XT → (Nat → Int32) → (Nat → Int64) → (Int32 → XT → Prop) → Prop) (k : Nat) (t : XT) (li : Nat → Int32) (lj : Nat → Int64) (Q : Int32 → XT → Prop) : Prop :=
  rec 8 t (uI (uI li 101 0) 100 (li 100)) lj Q
def wbX12_partsMany_8 (rec : Nat → XT → (Nat → Int32) → (Nat → Int64) → (Int32 → XT → Prop) → Prop) (k : Nat) (t : XT) (li : Nat → Int32) (lj : Nat → Int64) (Q : Int32 → XT → Prop) : Prop :=
  (wqX12_truth k (li 101) (fun r_24 => (∀ v_25 : Int32, v_25 = ((li 100) + r_24) → (∀ v_26 : Int32, v_26 = (li 3) + Int32.ofInt 1 → rec 6 t (uI (uI li 2 v_25) 3 v_26) lj Q))))
def wpX12_partsMany : Nat → Nat → XT → (Nat → Int32) → (Nat → Int64) → (Int32 → XT → Prop) → Prop
  | 0, _, _, _, _, _ => False
  | k + 1, 0, t, li, lj, Q => wbX12_partsMany_0 (wpX12_partsMany k) k t li lj Q
  | k + 1, 1, t, li, lj, Q => wbX12_partsMany_1 (wpX12_partsMany k) k t li lj Q
  | k + 1, 2, t, li, lj, Q => wbX12_partsMany_2 (wpX12_partsMany k) k t li lj Q
  | k + 1, 3, t, li, lj, Q => wbX12_partsMany_3 (wpX12_partsMany k) k t li lj Q
  | k + 1, 4, t, li, lj, Q => wbX12_partsMany_4 (wpX12_partsMany k) k t li lj Q
  | k + 1, 5, t, li, lj, Q => wbX12_partsMany_5 (wpX12_partsMany k) k t li lj Q
  | k + 1, 6, t, li, lj, Q => wbX12_partsMany_6 (wpX12_partsMany k) k t li lj Q
  | k + 1, 7, t, li, lj, Q => wbX12_partsMany_7 (wpX12_partsMany k) k t li lj Q
  | k + 1, 8, t, li, lj, Q => wbX12_partsMany_8 (wpX12_partsMany k) k t li lj Q
  | _ + 1, _, _, _, _, _ => False
def wqX12_partsMany (k : Nat) (t : XT)  (Q : Int32 → XT → Prop) : Prop := wpX12_partsMany k 0 t (fun _ => 0) (fun _ => 0) Q
set_option maxHeartbeats 8000000 in
set_option maxRecDepth 100000 in
theorem wkX12_partsMany (l : Launch) (D : va_G) (cI cJ cB cZ : ClassId) (bd : Nat → Nat) (k : Nat) (t : XT)  (Q : Int32 → XT → Prop) (hR : wqX12_partsMany k t  Q) : MetI l yX12_partsMany wsX12_partsMany 4 85 0 0 D (TYS cI cJ cB cZ) (wM cI cJ cB cZ bd t) [.ref (bd 0)] (fun r u => Q r u) (fun u : XT => (wM cI cJ cB cZ bd u)) := by
  refine x_startI (ty := .int) (cc := cX12_partsMany) (by decide) rfl (Nat.le_of_ble_eq_true rfl) ?_
  intro p e s m args below meth c A ls B hr hnm h hl
  have hx := B.1.1
  have hb := B.1.2.1
  have hml := B.1.2.2.1
  have hts := B.1.2.2.2.2
  have hown : s.vm.findClass RX12 = some m.cls := B.1.2.2.2.1
  have hin12 : ∀ w ∈ u_ws RX12 TX12 31, w ∈ wsX12_partsMany := by decide +kernel
  have main : ∀ k : Nat, (∀ (t : XT) (li : Nat → Int32) (lj : Nat → Int64) (H : Heap) (locs : List Loc) (ls : Array Slot), wpX12_partsMany k 0 t li lj Q → lv_has ls 5 [(0, .ref (bd 0))] → Hp D A s.heap (wM cI cJ cB cZ bd t) H locs → W p l e { frames := 4, cells := 0, slots := 0, locals := 85 } s m args below meth c H locs 0 0 (MQ below (va_Qi (fun r u => Q r u) (fun u t => xEnd D ((fun u : XT => (wM cI cJ cB cZ bd u)) u) A t) A) args s 0 0 A) (F0 m 0 ls [])) ∧
      (∀ (t : XT) (li : Nat → Int32) (lj : Nat → Int64) (H : Heap) (locs : List Loc) (ls : Array Slot), wpX12_partsMany k 1 t li lj Q → lv_has ls 5 [(0, .ref (bd 0)), (1, .int (li 1))] → Hp D A s.heap (wM cI cJ cB cZ bd t) H locs → W p l e { frames := 4, cells := 0, slots := 0, locals := 85 } s m args below meth c H locs 0 0 (MQ below (va_Qi (fun r u => Q r u) (fun u t => xEnd D ((fun u : XT => (wM cI cJ cB cZ bd u)) u) A t) A) args s 0 0 A) (F0 m 2 ls [])) ∧
      (∀ (t : XT) (li : Nat → Int32) (lj : Nat → Int64) (H : Heap) (locs : List Loc) (ls : Array Slot), wpX12_partsMany k 2 t li lj Q → lv_has ls 5 [(0, .ref (bd 0)), (1, .int (li 1))] → Hp D A s.heap (wM cI cJ cB cZ bd t) H locs → W p l e { frames := 4, cells := 0, slots := 0, locals := 85 } s m args below meth c H locs 0 0 (MQ below (va_Qi (fun r u => Q r u) (fun u t => xEnd D ((fun u : XT => (wM cI cJ cB cZ bd u)) u) A t) A) args s 0 0 A) (F0 m 25 ls [])) ∧
      (∀ (t : XT) (li : Nat → Int32) (lj : Nat → Int64) (H : Heap) (locs : List Loc) (ls : Array Slot), wpX12_partsMany k 3 t li lj Q → lv_has ls 5 [(0, .ref (bd 0)), (1, .int (li 1)), (2, .int (li 2))] → Hp D A s.heap (wM cI cJ cB cZ bd t) H locs → W p l e { frames := 4, cells := 0, slots := 0, locals := 85 } s m args below meth c H locs 0 0 (MQ below (va_Qi (fun r u => Q r u) (fun u t => xEnd D ((fun u : XT => (wM cI cJ cB cZ bd u)) u) A t) A) args s 0 0 A) (F0 m 33 ls [])) ∧
      (∀ (t : XT) (li : Nat → Int32) (lj : Nat → Int64) (H : Heap) (locs : List Loc) (ls : Array Slot), wpX12_partsMany k 4 t li lj Q → lv_has ls 5 [(0, .ref (bd 0)), (1, .int (li 1)), (2, .int (li 2)), (3, .int (li 3))] → Hp D A s.heap (wM cI cJ cB cZ bd t) H locs → W p l e { frames := 4, cells := 0, slots := 0, locals := 85 } s m args below meth c H locs 0 0 (MQ below (va_Qi (fun r u => Q r u) (fun u t => xEnd D ((fun u : XT => (wM cI cJ cB cZ bd u)) u) A t) A) args s 0 0 A) (F0 m 43 ls [])) ∧
      (∀ (t : XT) (li : Nat → Int32) (lj : Nat → Int64) (H : Heap) (locs : List Loc) (ls : Array Slot), wpX12_partsMany k 5 t li lj Q → lv_has ls 5 [(0, .ref (bd 0)), (1, .int (li 1)), (2, .int (li 2)), (3, .int (li 3))] → Hp D A s.heap (wM cI cJ cB cZ bd t) H locs → W p l e { frames := 4, cells := 0, slots := 0, locals := 85 } s m args below meth c H locs 0 0 (MQ below (va_Qi (fun r u => Q r u) (fun u t => xEnd D ((fun u : XT => (wM cI cJ cB cZ bd u)) u) A t) A) args s 0 0 A) (F0 m 110 ls [])) ∧
      (∀ (t : XT) (li : Nat → Int32) (lj : Nat → Int64) (H : Heap) (locs : List Loc) (ls : Array Slot), wpX12_partsMany k 6 t li lj Q → lv_has ls 5 [(0, .ref (bd 0)), (1, .int (li 1)), (2, .int (li 2)), (3, .int (li 3))] → Hp D A s.heap (wM cI cJ cB cZ bd t) H locs → W p l e { frames := 4, cells := 0, slots := 0, locals := 85 } s m args below meth c H locs 0 0 (MQ below (va_Qi (fun r u => Q r u) (fun u t => xEnd D ((fun u : XT => (wM cI cJ cB cZ bd u)) u) A t) A) args s 0 0 A) (F0 m 129 ls [])) ∧
      (∀ (t : XT) (li : Nat → Int32) (lj : Nat → Int64) (H : Heap) (locs : List Loc) (ls : Array Slot), wpX12_partsMany k 7 t li lj Q → lv_has ls 5 [(0, .ref (bd 0)), (1, .int (li 1)), (2, .int (li 2)), (3, .int (li 3))] → Hp D A s.heap (wM cI cJ cB cZ bd t) H locs → W p l e { frames := 4, cells := 0, slots := 0, locals := 85 } s m args below meth c H locs 0 0 (MQ below (va_Qi (fun r u => Q r u) (fun u t => xEnd D ((fun u : XT => (wM cI cJ cB cZ bd u)) u) A t) A) args s 0 0 A) (F0 m 160 ls [.int (li 100)])) ∧
      (∀ (t : XT) (li : Nat → Int32) (lj : Nat → Int64) (H : Heap) (locs : List Loc) (ls : Array Slot), wpX12_partsMany k 8 t li lj Q → lv_has ls 5 [(0, .ref (bd 0)), (1, .int (li 1)), (2, .int (li 2)), (3, .int (li 3))] → Hp D A s.heap (wM cI cJ cB cZ bd t) H locs → W p l e { frames := 4, cells := 0, slots := 0, locals := 85 } s m args below meth c H locs 0 0 (MQ below (va_Qi (fun r u => Q r u) (fun u t => xEnd D ((fun u : XT => (wM cI cJ cB cZ bd u)) u) A t) A) args s 0 0 A) (F0 m 161 ls [.int (li 101), .int (li 100)])) := by
    intro k
    induction k with
    | zero => exact ⟨fun _ _ _ _ _ _ hR => False.elim hR, fun _ _ _ _ _ _ hR => False.elim hR, fun _ _ _ _ _ _ hR => False.elim hR, fun _ _ _ _ _ _ hR => False.elim hR, fun _ _ _ _ _ _ hR => False.elim hR, fun _ _ _ _ _ _ hR => False.elim hR, fun _ _ _ _ _ _ hR => False.elim hR, fun _ _ _ _ _ _ hR => False.elim hR, fun _ _ _ _ _ _ hR => False.elim hR⟩
    | succ k ih =>
      refine ⟨?_, ?_, ?_, ?_, ?_, ?_, ?_, ?_, ?_⟩
      · intro t li lj H locs ls hR hl h
        have hR : wbX12_partsMany_0 (wpX12_partsMany k) k t li lj Q := hR
        unfold wbX12_partsMany_0 at hR
        refine lv_iconst (v := 0) hx hb dX12_partsMany_0 (by decide) ?_
        refine lv_istore_n (lv' := [(1, .int 0), (0, .ref (bd 0))]) hx hb dX12_partsMany_1 rfl hl (by decide) rfl (fun ls hl => ?_)
        exact ih.2.1 t (uI li 1 0) lj H locs ls hR (lv_sub hl [1, 0] rfl) h
      · intro t li lj H locs ls hR hl h
        have hR : wbX12_partsMany_1 (wpX12_partsMany k) k t li lj Q := hR
        unfold wbX12_partsMany_1 at hR
        refine lv_iload_n hx hb dX12_partsMany_2 rfl (lv_at hl 1 rfl) ?_
        refine lv_aload_n hx hb dX12_partsMany_3 rfl (lv_at hl 0 rfl) ?_
        refine x_get (ci := 12) (C := RX12) (T := TX12) (N := 31) (v := .int (t.1 3)) B h hin12 0 5 rfl rfl (by decide) (by decide +kernel) rfl dX12_partsMany_4 ?_
        refine lv_icmp_ge (tgt := 23) hx hb dX12_partsMany_7 (by decide) (fun c_1 => ?_) (fun c_1 => ?_)
        · have hR := hR.1 c_1
          refine lv_iconst (v := 1) hx hb dX12_partsMany_23 (by decide) ?_
          refine lv_istore_n (lv' := [(1, .int 1), (0, .ref (bd 0))]) hx hb dX12_partsMany_24 rfl hl (by decide) rfl (fun ls hl => ?_)
          exact ih.2.2.1 t (uI li 1 1) lj H locs ls hR (lv_sub hl [1, 0] rfl) h
        · have hR := hR.2 c_1
          refine lv_aload_n hx hb dX12_partsMany_10 rfl (lv_at hl 0 rfl) ?_
          refine x_get (ci := 12) (C := RX12) (T := TX12) (N := 31) (v := .ref (bd 8)) B h hin12 0 11 rfl rfl (by decide) (by decide +kernel) rfl dX12_partsMany_11 ?_
          refine lv_iload_n hx hb dX12_partsMany_14 rfl (lv_at hl 1 rfl) ?_
          refine lv_iload_n hx hb dX12_partsMany_15 rfl (lv_at hl 1 rfl) ?_
          obtain ⟨hb_2, hR⟩ := hR
          refine z_iast (f := (t.2.2.1 7)) B h 8 0 rfl rfl hb_2 dX12_partsMany_16 (fun H locs h => ?_)
          obtain ⟨t_2, et_2⟩ : ∃ v : XT, v = sA t 7 (upd (t.2.2.1 7) (li 1).toNatClampNeg (li 1)) := ⟨_, rfl⟩
          have hR := hR t_2 et_2
          have h : Hp D A s.heap (wM cI cJ cB cZ bd t_2) H locs := by rw [et_2]; exact h
          obtain ⟨v_3, ev_3⟩ : ∃ v : Int32, v = (li 1) + Int32.ofInt 1 := ⟨_, rfl⟩
          have hR := hR v_3 ev_3
          refine lv_iinc (v := v_3) (lv' := [(1, .int v_3), (0, .ref (bd 0))]) hx hb dX12_partsMany_17 hl (k := 1) rfl ev_3.symm (by decide) rfl (fun ls hl => ?_)
          refine lv_goto (tgt := 2) hx hb dX12_partsMany_20 (by decide) ?_
          exact ih.2.1 t_2 (uI li 1 v_3) lj H locs ls hR (lv_sub hl [1, 0] rfl) h
      · intro t li lj H locs ls hR hl h
        have hR : wbX12_partsMany_2 (wpX12_partsMany k) k t li lj Q := hR
        unfold wbX12_partsMany_2 at hR
        refine lv_iload_n hx hb dX12_partsMany_25 rfl (lv_at hl 1 rfl) ?_
        refine lv_if_eq (tgt := 125) hx hb dX12_partsMany_26 (by decide) (fun c_4 => ?_) (fun c_4 => ?_)
        · have hR := hR.1 c_4
          refine lv_iconst (v := 0) hx hb dX12_partsMany_125 (by decide) ?_
          refine lv_istore_n (lv' := [(2, .int 0), (0, .ref (bd 0)), (1, .int (li 1))]) hx hb dX12_partsMany_126 rfl hl (by decide) rfl (fun ls hl => ?_)
          refine lv_iconst (v := 0) hx hb dX12_partsMany_127 (by decide) ?_
          refine lv_istore_n (lv' := [(3, .int 0), (2, .int 0), (0, .ref (bd 0)), (1, .int (li 1))]) hx hb dX12_partsMany_128 rfl hl (by decide) rfl (fun ls hl => ?_)
          exact ih.2.2.2.2.2.2.1 t (uI (uI li 2 0) 3 0) lj H locs ls hR (lv_sub hl [2, 3, 1, 0] rfl) h
        · have hR := hR.2 c_4
          refine lv_iconst (v := 0) hx hb dX12_partsMany_29 (by decide) ?_
          refine lv_istore_n (lv' := [(1, .int 0), (0, .ref (bd 0))]) hx hb dX12_partsMany_30 rfl hl (by decide) rfl (fun ls hl => ?_)
          refine lv_iconst (v := 0) hx hb dX12_partsMany_31 (by decide) ?_
          refine lv_istore_n (lv' := [(2, .int 0), (1, .int 0), (0, .ref (bd 0))]) hx hb dX12_partsMany_32 rfl hl (by decide) rfl (fun ls hl => ?_)
          exact ih.2.2.2.1 t (uI (uI li 1 0) 2 0) lj H locs ls hR (lv_sub hl [2, 1, 0] rfl) h
      · intro t li lj H locs ls hR hl h
        have hR : wbX12_partsMany_3 (wpX12_partsMany k) k t li lj Q := hR
        unfold wbX12_partsMany_3 at hR
        refine lv_iload_n hx hb dX12_partsMany_33 rfl (lv_at hl 2 rfl) ?_
        refine lv_aload_n hx hb dX12_partsMany_34 rfl (lv_at hl 0 rfl) ?_
        refine x_get (ci := 12) (C := RX12) (T := TX12) (N := 31) (v := .int (t.1 3)) B h hin12 0 5 rfl rfl (by decide) (by decide +kernel) rfl dX12_partsMany_35 ?_
        refine lv_icmp_ge (tgt := 122) hx hb dX12_partsMany_38 (by decide) (fun c_5 => ?_) (fun c_5 => ?_)
        · have hR := hR.1 c_5
          refine lv_goto (tgt := 25) hx hb dX12_partsMany_122 (by decide) ?_
          exact ih.2.2.1 t li lj H locs ls hR (lv_sub hl [0, 1] rfl) h
        · have hR := hR.2 c_5
          refine lv_iconst (v := 0) hx hb dX12_partsMany_41 (by decide) ?_
          refine lv_istore_n (lv' := [(3, .int 0), (0, .ref (bd 0)), (1, .int (li 1)), (2, .int (li 2))]) hx hb dX12_partsMany_42 rfl hl (by decide) rfl (fun ls hl => ?_)
          exact ih.2.2.2.2.1 t (uI li 3 0) lj H locs ls hR (lv_sub hl [1, 2, 3, 0] rfl) h
      · intro t li lj H locs ls hR hl h
        have hR : wbX12_partsMany_4 (wpX12_partsMany k) k t li lj Q := hR
        unfold wbX12_partsMany_4 at hR
        refine lv_iload_n hx hb dX12_partsMany_43 rfl (lv_at hl 3 rfl) ?_
        refine lv_aload_n hx hb dX12_partsMany_44 rfl (lv_at hl 0 rfl) ?_
        refine x_get (ci := 12) (C := RX12) (T := TX12) (N := 31) (v := .int (t.1 3)) B h hin12 0 5 rfl rfl (by decide) (by decide +kernel) rfl dX12_partsMany_45 ?_
        refine lv_icmp_ge (tgt := 116) hx hb dX12_partsMany_48 (by decide) (fun c_6 => ?_) (fun c_6 => ?_)
        · have hR := hR.1 c_6
          obtain ⟨v_7, ev_7⟩ : ∃ v : Int32, v = (li 2) + Int32.ofInt 1 := ⟨_, rfl⟩
          have hR := hR v_7 ev_7
          refine lv_iinc (v := v_7) (lv' := [(2, .int v_7), (0, .ref (bd 0)), (1, .int (li 1)), (3, .int (li 3))]) hx hb dX12_partsMany_116 hl (k := 2) rfl ev_7.symm (by decide) rfl (fun ls hl => ?_)
          refine lv_goto (tgt := 33) hx hb dX12_partsMany_119 (by decide) ?_
          exact ih.2.2.2.1 t (uI li 2 v_7) lj H locs ls hR (lv_sub hl [1, 2, 0] rfl) h
        · have hR := hR.2 c_6
          refine lv_aload_n hx hb dX12_partsMany_51 rfl (lv_at hl 0 rfl) ?_
          refine lv_iload_n hx hb dX12_partsMany_52 rfl (lv_at hl 2 rfl) ?_
          refine lv_iload_n hx hb dX12_partsMany_53 rfl (lv_at hl 3 rfl) ?_
          refine x_cVIF (n := 2) (As := [.int (li 2), .int (li 3)]) (rest := []) B h (wkX12_isFaceThere l D cI cJ cB cZ bd k t (li 2) (li 3) _ hR) ⟨⟨_, rfl⟩, by decide +kernel, Nat.le_of_ble_eq_true rfl, Nat.le_of_ble_eq_true rfl⟩ gX12_partsMany_X12_isFaceThere (show ((wM cI cJ cB cZ bd t) : va_W)[0]? = some (_, .inr (12, _)) from rfl) rfl rfl hl.1 rfl (Nat.le_of_ble_eq_true rfl) dX12_partsMany_54 ⟨Nat.le_of_ble_eq_true rfl, Nat.le_of_ble_eq_true rfl⟩ (fun r_8 t_8 H locs hR h => ?_)
          refine lv_if_eq (tgt := 110) hx hb dX12_partsMany_57 (by decide) (fun c_9 => ?_) (fun c_9 => ?_)
          · have hR := hR.1 c_9
            exact ih.2.2.2.2.2.1 t_8 li lj H locs ls hR (lv_sub hl [0, 1, 2, 3] rfl) h
          · have hR := hR.2 c_9
            refine lv_aload_n hx hb dX12_partsMany_60 rfl (lv_at hl 0 rfl) ?_
            refine x_get (ci := 12) (C := RX12) (T := TX12) (N := 31) (v := .ref (bd 8)) B h hin12 0 11 rfl rfl (by decide) (by decide +kernel) rfl dX12_partsMany_61 ?_
            refine lv_iload_n hx hb dX12_partsMany_64 rfl (lv_at hl 2 rfl) ?_
            obtain ⟨hb_10, hR⟩ := hR
            refine va_iald (f := (t_8.2.2.1 7)) hx hb B.2.1 h.1 8 0 rfl rfl hb_10 dX12_partsMany_65 ?_
            refine lv_topi (fun v_10 ev_10 => ?_)
            have hR := hR v_10 ev_10
            refine lv_aload_n hx hb dX12_partsMany_66 rfl (lv_at hl 0 rfl) ?_
            refine x_get (ci := 12) (C := RX12) (T := TX12) (N := 31) (v := .ref (bd 8)) B h hin12 0 11 rfl rfl (by decide) (by decide +kernel) rfl dX12_partsMany_67 ?_
            refine lv_iload_n hx hb dX12_partsMany_70 rfl (lv_at hl 3 rfl) ?_
            obtain ⟨hb_11, hR⟩ := hR
            refine va_iald (f := (t_8.2.2.1 7)) hx hb B.2.1 h.1 8 0 rfl rfl hb_11 dX12_partsMany_71 ?_
            refine lv_topi (fun v_11 ev_11 => ?_)
            have hR := hR v_11 ev_11
            refine lv_icmp_eq (tgt := 110) hx hb dX12_partsMany_72 (by decide) (fun c_12 => ?_) (fun c_12 => ?_)
            · have hR := hR.1 c_12
              exact ih.2.2.2.2.2.1 t_8 li lj H locs ls hR (lv_sub hl [0, 1, 2, 3] rfl) h
            · have hR := hR.2 c_12
              refine lv_aload_n hx hb dX12_partsMany_75 rfl (lv_at hl 0 rfl) ?_
              refine x_get (ci := 12) (C := RX12) (T := TX12) (N := 31) (v := .ref (bd 8)) B h hin12 0 11 rfl rfl (by decide) (by decide +kernel) rfl dX12_partsMany_76 ?_
              refine lv_iload_n hx hb dX12_partsMany_79 rfl (lv_at hl 2 rfl) ?_
              obtain ⟨hb_13, hR⟩ := hR
              refine va_iald (f := (t_8.2.2.1 7)) hx hb B.2.1 h.1 8 0 rfl rfl hb_13 dX12_partsMany_80 ?_
              refine lv_topi (fun v_13 ev_13 => ?_)
              have hR := hR v_13 ev_13
              refine lv_aload_n hx hb dX12_partsMany_81 rfl (lv_at hl 0 rfl) ?_
              refine x_get (ci := 12) (C := RX12) (T := TX12) (N := 31) (v := .ref (bd 8)) B h hin12 0 11 rfl rfl (by decide) (by decide +kernel) rfl dX12_partsMany_82 ?_
              refine lv_iload_n hx hb dX12_partsMany_85 rfl (lv_at hl 3 rfl) ?_
              obtain ⟨hb_14, hR⟩ := hR
              refine va_iald (f := (t_8.2.2.1 7)) hx hb B.2.1 h.1 8 0 rfl rfl hb_14 dX12_partsMany_86 ?_
              refine lv_topi (fun v_14 ev_14 => ?_)
              have hR := hR v_14 ev_14
              refine va_mmin hx hb (hml.trans hl.1.symm) hown (hts (.methodLink RX12 337 Lib.Math.min.name) (by decide +kernel)) (hts (.static Lib.Math.min.name) (by decide +kernel)) (hts (.initialized "java/lang/Math") (by decide +kernel)) (hts (.code Lib.Math.min.name Lib.Math.min.code 2 (some .int)) (by decide +kernel)) (Nat.le_of_ble_eq_true rfl) (Nat.le_of_ble_eq_true rfl) (Nat.le_of_ble_eq_true rfl) (Nat.le_of_ble_eq_true rfl) dX12_partsMany_87 ?_
              refine lv_topi (fun v_15 ev_15 => ?_)
              have hR := hR v_15 ev_15
              refine lv_istore (lv' := [(4, .int v_15), (0, .ref (bd 0)), (1, .int (li 1)), (2, .int (li 2)), (3, .int (li 3))]) hx hb dX12_partsMany_90 hl (by decide) rfl (fun ls hl => ?_)
              refine lv_aload_n hx hb dX12_partsMany_92 rfl (lv_at hl 1 rfl) ?_
              refine x_get (ci := 12) (C := RX12) (T := TX12) (N := 31) (v := .ref (bd 8)) B h hin12 0 11 rfl rfl (by decide) (by decide +kernel) rfl dX12_partsMany_93 ?_
              refine lv_iload_n hx hb dX12_partsMany_96 rfl (lv_at hl 3 rfl) ?_
              refine lv_iload hx hb dX12_partsMany_97 (lv_at hl 0 rfl) ?_
              obtain ⟨hb_16, hR⟩ := hR
              refine z_iast (f := (t_8.2.2.1 7)) B h 8 0 rfl rfl hb_16 dX12_partsMany_99 (fun H locs h => ?_)
              obtain ⟨t_16, et_16⟩ : ∃ v : XT, v = sA t_8 7 (upd (t_8.2.2.1 7) (li 2).toNatClampNeg v_15) := ⟨_, rfl⟩
              have hR := hR t_16 et_16
              have h : Hp D A s.heap (wM cI cJ cB cZ bd t_16) H locs := by rw [et_16]; exact h
              refine lv_aload_n hx hb dX12_partsMany_100 rfl (lv_at hl 1 rfl) ?_
              refine x_get (ci := 12) (C := RX12) (T := TX12) (N := 31) (v := .ref (bd 8)) B h hin12 0 11 rfl rfl (by decide) (by decide +kernel) rfl dX12_partsMany_101 ?_
              refine lv_iload_n hx hb dX12_partsMany_104 rfl (lv_at hl 4 rfl) ?_
              refine lv_iload hx hb dX12_partsMany_105 (lv_at hl 0 rfl) ?_
              obtain ⟨hb_17, hR⟩ := hR
              refine z_iast (f := (t_16.2.2.1 7)) B h 8 0 rfl rfl hb_17 dX12_partsMany_107 (fun H locs h => ?_)
              obtain ⟨t_17, et_17⟩ : ∃ v : XT, v = sA t_16 7 (upd (t_16.2.2.1 7) (li 3).toNatClampNeg v_15) := ⟨_, rfl⟩
              have hR := hR t_17 et_17
              have h : Hp D A s.heap (wM cI cJ cB cZ bd t_17) H locs := by rw [et_17]; exact h
              refine lv_iconst (v := 1) hx hb dX12_partsMany_108 (by decide) ?_
              refine lv_istore_n (lv' := [(1, .int 1), (4, .int v_15), (0, .ref (bd 0)), (2, .int (li 2)), (3, .int (li 3))]) hx hb dX12_partsMany_109 rfl hl (by decide) rfl (fun ls hl => ?_)
              exact ih.2.2.2.2.2.1 t_17 (uI li 1 1) lj H locs ls hR (lv_sub hl [2, 0, 3, 4] rfl) h
      · intro t li lj H locs ls hR hl h
        have hR : wbX12_partsMany_5 (wpX12_partsMany k) k t li lj Q := hR
        unfold wbX12_partsMany_5 at hR
        obtain ⟨v_18, ev_18⟩ : ∃ v : Int32, v = (li 3) + Int32.ofInt 1 := ⟨_, rfl⟩
        have hR := hR v_18 ev_18
        refine lv_iinc (v := v_18) (lv' := [(3, .int v_18), (0, .ref (bd 0)), (1, .int (li 1)), (2, .int (li 2))]) hx hb dX12_partsMany_110 hl (k := 3) rfl ev_18.symm (by decide) rfl (fun ls hl => ?_)
        refine lv_goto (tgt := 43) hx hb dX12_partsMany_113 (by decide) ?_
        exact ih.2.2.2.2.1 t (uI li 3 v_18) lj H locs ls hR (lv_sub hl [1, 2, 3, 0] rfl) h
      · intro t li lj H locs ls hR hl h
        have hR : wbX12_partsMany_6 (wpX12_partsMany k) k t li lj Q := hR
        unfold wbX12_partsMany_6 at hR
        refine lv_iload_n hx hb dX12_partsMany_129 rfl (lv_at hl 3 rfl) ?_
        refine lv_aload_n hx hb dX12_partsMany_130 rfl (lv_at hl 0 rfl) ?_
        refine x_get (ci := 12) (C := RX12) (T := TX12) (N := 31) (v := .int (t.1 3)) B h hin12 0 5 rfl rfl (by decide) (by decide +kernel) rfl dX12_partsMany_131 ?_
        refine lv_icmp_ge (tgt := 172) hx hb dX12_partsMany_134 (by decide) (fun c_19 => ?_) (fun c_19 => ?_)
        · have hR := hR.1 c_19
          refine lv_iload_n hx hb dX12_partsMany_172 rfl (lv_at hl 2 rfl) ?_
          exact x_iret (w1 := (fun u : XT => (wM cI cJ cB cZ bd u))) t B h hr rfl hR dX12_partsMany_173
        · have hR := hR.2 c_19
          refine lv_iload_n hx hb dX12_partsMany_137 rfl (lv_at hl 2 rfl) ?_
          refine lv_aload_n hx hb dX12_partsMany_138 rfl (lv_at hl 0 rfl) ?_
          refine lv_iload_n hx hb dX12_partsMany_139 rfl (lv_at hl 3 rfl) ?_
          refine x_cVIF (n := 1) (As := [.int (li 3)]) (rest := [.int (li 2)]) B h (wkX12_isThere l D cI cJ cB cZ bd k t (li 3) _ hR) ⟨⟨_, rfl⟩, by decide +kernel, Nat.le_of_ble_eq_true rfl, Nat.le_of_ble_eq_true rfl⟩ gX12_partsMany_X12_isThere (show ((wM cI cJ cB cZ bd t) : va_W)[0]? = some (_, .inr (12, _)) from rfl) rfl rfl hl.1 rfl (Nat.le_of_ble_eq_true rfl) dX12_partsMany_140 ⟨Nat.le_of_ble_eq_true rfl, Nat.le_of_ble_eq_true rfl⟩ (fun r_20 t_20 H locs hR h => ?_)
          refine lv_if_eq (tgt := 160) hx hb dX12_partsMany_143 (by decide) (fun c_21 => ?_) (fun c_21 => ?_)
          · have hR := hR.1 c_21
            exact ih.2.2.2.2.2.2.2.1 t_20 (uI li 100 (li 2)) lj H locs ls hR (lv_sub hl [0, 1, 2, 3] rfl) h
          · have hR := hR.2 c_21
            refine lv_aload_n hx hb dX12_partsMany_146 rfl (lv_at hl 0 rfl) ?_
            refine x_get (ci := 12) (C := RX12) (T := TX12) (N := 31) (v := .ref (bd 8)) B h hin12 0 11 rfl rfl (by decide) (by decide +kernel) rfl dX12_partsMany_147 ?_
            refine lv_iload_n hx hb dX12_partsMany_150 rfl (lv_at hl 3 rfl) ?_
            obtain ⟨hb_22, hR⟩ := hR
            refine va_iald (f := (t_20.2.2.1 7)) hx hb B.2.1 h.1 8 0 rfl rfl hb_22 dX12_partsMany_151 ?_
            refine lv_topi (fun v_22 ev_22 => ?_)
            have hR := hR v_22 ev_22
            refine lv_iload_n hx hb dX12_partsMany_152 rfl (lv_at hl 3 rfl) ?_
            refine lv_icmp_ne (tgt := 160) hx hb dX12_partsMany_153 (by decide) (fun c_23 => ?_) (fun c_23 => ?_)
            · have hR := hR.1 c_23
              exact ih.2.2.2.2.2.2.2.1 t_20 (uI li 100 (li 2)) lj H locs ls hR (lv_sub hl [0, 1, 2, 3] rfl) h
            · have hR := hR.2 c_23
              refine lv_iconst (v := 1) hx hb dX12_partsMany_156 (by decide) ?_
              refine lv_goto (tgt := 161) hx hb dX12_partsMany_157 (by decide) ?_
              exact ih.2.2.2.2.2.2.2.2 t_20 (uI (uI li 101 1) 100 (li 2)) lj H locs ls hR (lv_sub hl [0, 1, 2, 3] rfl) h
      · intro t li lj H locs ls hR hl h
        have hR : wbX12_partsMany_7 (wpX12_partsMany k) k t li lj Q := hR
        unfold wbX12_partsMany_7 at hR
        refine lv_iconst (v := 0) hx hb dX12_partsMany_160 (by decide) ?_
        exact ih.2.2.2.2.2.2.2.2 t (uI (uI li 101 0) 100 (li 100)) lj H locs ls hR (lv_sub hl [0, 1, 2, 3] rfl) h
      · intro t li lj H locs ls hR hl h
        have hR : wbX12_partsMany_8 (wpX12_partsMany k) k t li lj Q := hR
        unfold wbX12_partsMany_8 at hR
        refine x_cSIE (n := 1) (As := [.int (li 101)]) (rest := [.int (li 100)]) B h (wkX12_truth l D cI cJ cB cZ bd k (li 101) _ hR) ⟨⟨_, rfl⟩, by decide +kernel, Nat.le_of_ble_eq_true rfl, Nat.le_of_ble_eq_true rfl⟩ gX12_partsMany_X12_truth rfl hl.1 rfl (Nat.le_of_ble_eq_true rfl) dX12_partsMany_161 ⟨Nat.le_of_ble_eq_true rfl, Nat.le_of_ble_eq_true rfl⟩ (fun r_24 _ H locs hR h => ?_)
        refine lv_iadd hx hb dX12_partsMany_164 ?_
        refine lv_topi (fun v_25 ev_25 => ?_)
        have hR := hR v_25 ev_25
        refine lv_istore_n (lv' := [(2, .int v_25), (0, .ref (bd 0)), (1, .int (li 1)), (3, .int (li 3))]) hx hb dX12_partsMany_165 rfl hl (by decide) rfl (fun ls hl => ?_)
        obtain ⟨v_26, ev_26⟩ : ∃ v : Int32, v = (li 3) + Int32.ofInt 1 := ⟨_, rfl⟩
        have hR := hR v_26 ev_26
        refine lv_iinc (v := v_26) (lv' := [(3, .int v_26), (2, .int v_25), (0, .ref (bd 0)), (1, .int (li 1))]) hx hb dX12_partsMany_166 hl (k := 3) rfl ev_26.symm (by decide) rfl (fun ls hl => ?_)
        refine lv_goto (tgt := 129) hx hb dX12_partsMany_169 (by decide) ?_
        exact ih.2.2.2.2.2.2.1 t (uI (uI li 2 v_25) 3 v_26) lj H locs ls hR (lv_sub hl [2, 3, 1, 0] rfl) h
  exact (main k).1 t _ _ s.heap [] ls hR hl h
