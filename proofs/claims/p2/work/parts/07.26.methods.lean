def wbX12_draws_0 (rec : Nat → XT → (Nat → Int32) → (Nat → Int64) → (Int32 → XT → Prop) → Prop) (k : Nat) (t : XT) (li : Nat → Int32) (lj : Nat → Int64) (Q : Int32 → XT → Prop) : Prop :=
  (((0 : Int32) ≤ (li 1)) → (∀ t_2 : XT, t_2 = sI t 8 (li 1) → Q (t.1 8) t_2)) ∧ (¬ ((0 : Int32) ≤ (li 1)) → Q (-1) t)
def wpX12_draws : Nat → Nat → XT → (Nat → Int32) → (Nat → Int64) → (Int32 → XT → Prop) → Prop
  | 0, _, _, _, _, _ => False
  | k + 1, 0, t, li, lj, Q => wbX12_draws_0 (wpX12_draws k) k t li lj Q
  | _ + 1, _, _, _, _, _ => False
def wqX12_draws (k : Nat) (t : XT) (a1 : Int32) (Q : Int32 → XT → Prop) : Prop := wpX12_draws k 0 t (uI (fun _ => 0) 1 a1) (fun _ => 0) Q
set_option maxHeartbeats 8000000 in
set_option maxRecDepth 100000 in
theorem wkX12_draws (l : Launch) (D : va_G) (cI cJ cB cZ : ClassId) (bd : Nat → Nat) (k : Nat) (t : XT) (a1 : Int32) (Q : Int32 → XT → Prop) (hR : wqX12_draws k t a1 Q) : MetI l yX12_draws wsX12_draws 0 0 0 0 D (TYS cI cJ cB cZ) (wM cI cJ cB cZ bd t) [.ref (bd 0), .int a1] (fun r u => Q r u) (fun u : XT => (wM cI cJ cB cZ bd u)) := by
  refine x_startI (ty := .int) (cc := cX12_draws) (by decide) rfl (Nat.le_of_ble_eq_true rfl) ?_
  intro p e s m args below meth c A ls B hr hnm h hl
  have hx := B.1.1
  have hb := B.1.2.1
  have hml := B.1.2.2.1
  have hts := B.1.2.2.2.2
  have hown : s.vm.findClass RX12 = some m.cls := B.1.2.2.2.1
  have hin12 : ∀ w ∈ u_ws RX12 TX12 31, w ∈ wsX12_draws := by decide +kernel
  have main : ∀ k : Nat, (∀ (t : XT) (li : Nat → Int32) (lj : Nat → Int64) (H : Heap) (locs : List Loc) (ls : Array Slot), wpX12_draws k 0 t li lj Q → lv_has ls 3 [(0, .ref (bd 0)), (1, .int (li 1))] → Hp D A s.heap (wM cI cJ cB cZ bd t) H locs → W p l e { frames := 0, cells := 0, slots := 0, locals := 0 } s m args below meth c H locs 0 0 (MQ below (va_Qi (fun r u => Q r u) (fun u t => xEnd D ((fun u : XT => (wM cI cJ cB cZ bd u)) u) A t) A) args s 0 0 A) (F0 m 0 ls [])) := by
    intro k
    induction k with
    | zero => exact fun _ _ _ _ _ _ hR => False.elim hR
    | succ k ih =>
      intro t li lj H locs ls hR hl h
      have hR : wbX12_draws_0 (wpX12_draws k) k t li lj Q := hR
      unfold wbX12_draws_0 at hR
      refine lv_iload_n hx hb dX12_draws_0 rfl (lv_at hl 1 rfl) ?_
      refine lv_if_ge (tgt := 6) hx hb dX12_draws_1 (by decide) (fun c_1 => ?_) (fun c_1 => ?_)
      · have hR := hR.1 c_1
        refine lv_aload_n hx hb dX12_draws_6 rfl (lv_at hl 0 rfl) ?_
        refine x_get (ci := 12) (C := RX12) (T := TX12) (N := 31) (v := .int (t.1 8)) B h hin12 0 26 rfl rfl (by decide) (by decide +kernel) rfl dX12_draws_7 ?_
        refine lv_istore_n (lv' := [(2, .int (t.1 8)), (0, .ref (bd 0)), (1, .int (li 1))]) hx hb dX12_draws_10 rfl hl (by decide) rfl (fun ls hl => ?_)
        refine lv_aload_n hx hb dX12_draws_11 rfl (lv_at hl 1 rfl) ?_
        refine lv_iload_n hx hb dX12_draws_12 rfl (lv_at hl 2 rfl) ?_
        refine x_put (ci := 12) (C := RX12) (T := TX12) (N := 31) (v := .int (li 1)) (ty := .int) B h hin12 tyX12 tyX12_ok nmX12 0 26 rfl rfl (by decide) (by decide +kernel) rfl rfl rfl rfl (Nat.le_of_ble_eq_true rfl) dX12_draws_13 (fun H locs h => ?_)
        obtain ⟨t_2, et_2⟩ : ∃ v : XT, v = sI t 8 (li 1) := ⟨_, rfl⟩
        have hR := hR t_2 et_2
        have h : Hp D A s.heap (wM cI cJ cB cZ bd t_2) H locs := by rw [et_2]; exact h
        refine lv_iload_n hx hb dX12_draws_16 rfl (lv_at hl 0 rfl) ?_
        exact x_iret (w1 := (fun u : XT => (wM cI cJ cB cZ bd u))) t_2 B h hr rfl hR dX12_draws_17
      · have hR := hR.2 c_1
        refine lv_iconst (v := (-1)) hx hb dX12_draws_4 (by decide) ?_
        exact x_iret (w1 := (fun u : XT => (wM cI cJ cB cZ bd u))) t B h hr rfl hR dX12_draws_5
  exact (main k) t _ _ s.heap [] ls hR hl h
set_option maxRecDepth 20000 in
theorem ggX12_openDim_X12_dimOf : GoodIn wsX12_openDim wsX12_dimOf := goodIn_r _ [11, 12, 13, 14, 15, 16, 17, 18, 19, 20, 21, 22, 23, 24, 25, 26, 27, 28, 29, 30, 31, 32, 33, 34, 35, 36, 37, 38, 39, 40, 41, 42, 43, 44, 45, 46, 47, 48, 49, 50] (by decide +kernel) (by decide +kernel)
set_option maxRecDepth 20000 in
theorem gX12_openDim_X12_dimOf : GoodIn wsX12_openDim (wsV RX12 149 RX12 yX12_dimOf wsX12_dimOf) := goodIn_app (goodIn_of _ (by decide +kernel)) ggX12_openDim_X12_dimOf
def wbX12_openDim_0 (rec : Nat → XT → (Nat → Int32) → (Nat → Int64) → (Int32 → XT → Prop) → Prop) (k : Nat) (t : XT) (li : Nat → Int32) (lj : Nat → Int64) (Q : Int32 → XT → Prop) : Prop :=
  rec 1 t (uI (uI li 1 (-1)) 2 0) lj Q
def wbX12_openDim_1 (rec : Nat → XT → (Nat → Int32) → (Nat → Int64) → (Int32 → XT → Prop) → Prop) (k : Nat) (t : XT) (li : Nat → Int32) (lj : Nat → Int64) (Q : Int32 → XT → Prop) : Prop :=
  ((((t.1 3) : Int32) ≤ (li 2)) → Q (li 1) t) ∧ (¬ (((t.1 3) : Int32) ≤ (li 2)) → (vp_in (li 2) 60 ∧ (∀ v_2 : Int32, v_2 = (t.2.2.1 9) (li 2).toNatClampNeg → ((v_2 = 0) → rec 2 t (uI li 100 (li 1)) lj Q) ∧ (¬ (v_2 = 0) → (wqX12_dimOf k t (li 2) (fun r_4 t_4 => (∀ v_5 : Int32, v_5 = (if (li 1) < r_4 then r_4 else (li 1)) → rec 2 t_4 (uI li 100 v_5) lj Q)))))))
def wbX12_openDim_2 (rec : Nat → XT → (Nat → Int32) → (Nat → Int64) → (Int32 → XT → Prop) → Prop) (k : Nat) (t : XT) (li : Nat → Int32) (lj : Nat → Int64) (Q : Int32 → XT → Prop) : Prop :=
  (∀ v_6 : Int32, v_6 = (li 2) + Int32.ofInt 1 → rec 1 t (uI (uI li 1 (li 100)) 2 v_6) lj Q)
def wpX12_openDim : Nat → Nat → XT → (Nat → Int32) → (Nat → Int64) → (Int32 → XT → Prop) → Prop
  | 0, _, _, _, _, _ => False
  | k + 1, 0, t, li, lj, Q => wbX12_openDim_0 (wpX12_openDim k) k t li lj Q
  | k + 1, 1, t, li, lj, Q => wbX12_openDim_1 (wpX12_openDim k) k t li lj Q
  | k + 1, 2, t, li, lj, Q => wbX12_openDim_2 (wpX12_openDim k) k t li lj Q
  | _ + 1, _, _, _, _, _ => False
def wqX12_openDim (k : Nat) (t : XT)  (Q : Int32 → XT → Prop) : Prop := wpX12_openDim k 0 t (fun _ => 0) (fun _ => 0) Q
set_option maxHeartbeats 8000000 in
set_option maxRecDepth 100000 in
theorem wkX12_openDim (l : Launch) (D : va_G) (cI cJ cB cZ : ClassId) (bd : Nat → Nat) (k : Nat) (t : XT)  (Q : Int32 → XT → Prop) (hR : wqX12_openDim k t  Q) : MetI l yX12_openDim wsX12_openDim 2 41 0 0 D (TYS cI cJ cB cZ) (wM cI cJ cB cZ bd t) [.ref (bd 0)] (fun r u => Q r u) (fun u : XT => (wM cI cJ cB cZ bd u)) := by
  refine x_startI (ty := .int) (cc := cX12_openDim) (by decide) rfl (Nat.le_of_ble_eq_true rfl) ?_
  intro p e s m args below meth c A ls B hr hnm h hl
  have hx := B.1.1
  have hb := B.1.2.1
  have hml := B.1.2.2.1
  have hts := B.1.2.2.2.2
  have hown : s.vm.findClass RX12 = some m.cls := B.1.2.2.2.1
  have hin12 : ∀ w ∈ u_ws RX12 TX12 31, w ∈ wsX12_openDim := by decide +kernel
  have main : ∀ k : Nat, (∀ (t : XT) (li : Nat → Int32) (lj : Nat → Int64) (H : Heap) (locs : List Loc) (ls : Array Slot), wpX12_openDim k 0 t li lj Q → lv_has ls 3 [(0, .ref (bd 0))] → Hp D A s.heap (wM cI cJ cB cZ bd t) H locs → W p l e { frames := 2, cells := 0, slots := 0, locals := 41 } s m args below meth c H locs 0 0 (MQ below (va_Qi (fun r u => Q r u) (fun u t => xEnd D ((fun u : XT => (wM cI cJ cB cZ bd u)) u) A t) A) args s 0 0 A) (F0 m 0 ls [])) ∧
      (∀ (t : XT) (li : Nat → Int32) (lj : Nat → Int64) (H : Heap) (locs : List Loc) (ls : Array Slot), wpX12_openDim k 1 t li lj Q → lv_has ls 3 [(0, .ref (bd 0)), (1, .int (li 1)), (2, .int (li 2))] → Hp D A s.heap (wM cI cJ cB cZ bd t) H locs → W p l e { frames := 2, cells := 0, slots := 0, locals := 41 } s m args below meth c H locs 0 0 (MQ below (va_Qi (fun r u => Q r u) (fun u t => xEnd D ((fun u : XT => (wM cI cJ cB cZ bd u)) u) A t) A) args s 0 0 A) (F0 m 4 ls [])) ∧
      (∀ (t : XT) (li : Nat → Int32) (lj : Nat → Int64) (H : Heap) (locs : List Loc) (ls : Array Slot), wpX12_openDim k 2 t li lj Q → lv_has ls 3 [(0, .ref (bd 0)), (1, .int (li 1)), (2, .int (li 2))] → Hp D A s.heap (wM cI cJ cB cZ bd t) H locs → W p l e { frames := 2, cells := 0, slots := 0, locals := 41 } s m args below meth c H locs 0 0 (MQ below (va_Qi (fun r u => Q r u) (fun u t => xEnd D ((fun u : XT => (wM cI cJ cB cZ bd u)) u) A t) A) args s 0 0 A) (F0 m 34 ls [.int (li 100)])) := by
    intro k
    induction k with
    | zero => exact ⟨fun _ _ _ _ _ _ hR => False.elim hR, fun _ _ _ _ _ _ hR => False.elim hR, fun _ _ _ _ _ _ hR => False.elim hR⟩
    | succ k ih =>
      refine ⟨?_, ?_, ?_⟩
      · intro t li lj H locs ls hR hl h
        have hR : wbX12_openDim_0 (wpX12_openDim k) k t li lj Q := hR
        unfold wbX12_openDim_0 at hR
        refine lv_iconst (v := (-1)) hx hb dX12_openDim_0 (by decide) ?_
        refine lv_istore_n (lv' := [(1, .int (-1)), (0, .ref (bd 0))]) hx hb dX12_openDim_1 rfl hl (by decide) rfl (fun ls hl => ?_)
        refine lv_iconst (v := 0) hx hb dX12_openDim_2 (by decide) ?_
        refine lv_istore_n (lv' := [(2, .int 0), (1, .int (-1)), (0, .ref (bd 0))]) hx hb dX12_openDim_3 rfl hl (by decide) rfl (fun ls hl => ?_)
        exact ih.2.1 t (uI (uI li 1 (-1)) 2 0) lj H locs ls hR (lv_sub hl [2, 1, 0] rfl) h
      · intro t li lj H locs ls hR hl h
        have hR : wbX12_openDim_1 (wpX12_openDim k) k t li lj Q := hR
        unfold wbX12_openDim_1 at hR
        refine lv_iload_n hx hb dX12_openDim_4 rfl (lv_at hl 2 rfl) ?_
        refine lv_aload_n hx hb dX12_openDim_5 rfl (lv_at hl 0 rfl) ?_
        refine x_get (ci := 12) (C := RX12) (T := TX12) (N := 31) (v := .int (t.1 3)) B h hin12 0 5 rfl rfl (by decide) (by decide +kernel) rfl dX12_openDim_6 ?_
        refine lv_icmp_ge (tgt := 41) hx hb dX12_openDim_9 (by decide) (fun c_1 => ?_) (fun c_1 => ?_)
        · have hR := hR.1 c_1
          refine lv_iload_n hx hb dX12_openDim_41 rfl (lv_at hl 1 rfl) ?_
          exact x_iret (w1 := (fun u : XT => (wM cI cJ cB cZ bd u))) t B h hr rfl hR dX12_openDim_42
        · have hR := hR.2 c_1
          refine lv_aload_n hx hb dX12_openDim_12 rfl (lv_at hl 0 rfl) ?_
          refine x_get (ci := 12) (C := RX12) (T := TX12) (N := 31) (v := .ref (bd 10)) B h hin12 0 14 rfl rfl (by decide) (by decide +kernel) rfl dX12_openDim_13 ?_
          refine lv_iload_n hx hb dX12_openDim_16 rfl (lv_at hl 2 rfl) ?_
          obtain ⟨hb_2, hR⟩ := hR
          refine va_zald (f := (t.2.2.1 9)) hx hb B.2.1 h.1 10 3 rfl rfl hb_2 dX12_openDim_17 ?_
          refine lv_topi (fun v_2 ev_2 => ?_)
          have hR := hR v_2 ev_2
          refine lv_if_eq (tgt := 33) hx hb dX12_openDim_18 (by decide) (fun c_3 => ?_) (fun c_3 => ?_)
          · have hR := hR.1 c_3
            refine lv_iload_n hx hb dX12_openDim_33 rfl (lv_at hl 1 rfl) ?_
            exact ih.2.2 t (uI li 100 (li 1)) lj H locs ls hR (lv_sub hl [0, 1, 2] rfl) h
          · have hR := hR.2 c_3
            refine lv_iload_n hx hb dX12_openDim_21 rfl (lv_at hl 1 rfl) ?_
            refine lv_aload_n hx hb dX12_openDim_22 rfl (lv_at hl 0 rfl) ?_
            refine lv_iload_n hx hb dX12_openDim_23 rfl (lv_at hl 2 rfl) ?_
            refine x_cVIF (n := 1) (As := [.int (li 2)]) (rest := [.int (li 1)]) B h (wkX12_dimOf l D cI cJ cB cZ bd k t (li 2) _ hR) ⟨⟨_, rfl⟩, by decide +kernel, Nat.le_of_ble_eq_true rfl, Nat.le_of_ble_eq_true rfl⟩ gX12_openDim_X12_dimOf (show ((wM cI cJ cB cZ bd t) : va_W)[0]? = some (_, .inr (12, _)) from rfl) rfl rfl hl.1 rfl (Nat.le_of_ble_eq_true rfl) dX12_openDim_24 ⟨Nat.le_of_ble_eq_true rfl, Nat.le_of_ble_eq_true rfl⟩ (fun r_4 t_4 H locs hR h => ?_)
            refine va_mmax hx hb (hml.trans hl.1.symm) hown (hts (.methodLink RX12 350 Lib.Math.max.name) (by decide +kernel)) (hts (.static Lib.Math.max.name) (by decide +kernel)) (hts (.initialized "java/lang/Math") (by decide +kernel)) (hts (.code Lib.Math.max.name Lib.Math.max.code 2 (some .int)) (by decide +kernel)) (Nat.le_of_ble_eq_true rfl) (Nat.le_of_ble_eq_true rfl) (Nat.le_of_ble_eq_true rfl) (Nat.le_of_ble_eq_true rfl) dX12_openDim_27 ?_
            refine lv_topi (fun v_5 ev_5 => ?_)
            have hR := hR v_5 ev_5
            refine lv_goto (tgt := 34) hx hb dX12_openDim_30 (by decide) ?_
            exact ih.2.2 t_4 (uI li 100 v_5) lj H locs ls hR (lv_sub hl [0, 1, 2] rfl) h
      · intro t li lj H locs ls hR hl h
        have hR : wbX12_openDim_2 (wpX12_openDim k) k t li lj Q := hR
        unfold wbX12_openDim_2 at hR
        refine lv_istore_n (lv' := [(1, .int (li 100)), (0, .ref (bd 0)), (2, .int (li 2))]) hx hb dX12_openDim_34 rfl hl (by decide) rfl (fun ls hl => ?_)
        obtain ⟨v_6, ev_6⟩ : ∃ v : Int32, v = (li 2) + Int32.ofInt 1 := ⟨_, rfl⟩
        have hR := hR v_6 ev_6
        refine lv_iinc (v := v_6) (lv' := [(2, .int v_6), (1, .int (li 100)), (0, .ref (bd 0))]) hx hb dX12_openDim_35 hl (k := 2) rfl ev_6.symm (by decide) rfl (fun ls hl => ?_)
        refine lv_goto (tgt := 4) hx hb dX12_openDim_38 (by decide) ?_
        exact ih.2.1 t (uI (uI li 1 (li 100)) 2 v_6) lj H locs ls hR (lv_sub hl [2, 1, 0] rfl) h
  exact (main k).1 t _ _ s.heap [] ls hR hl h
set_option maxRecDepth 20000 in
theorem ggX12_laysChoices_X12_onlyOver : GoodIn wsX12_laysChoices wsX12_onlyOver := goodIn_r _ [8, 1, 2, 9, 10, 11, 7, 12, 13, 14, 15, 16, 17, 18, 19, 20, 21, 22, 23, 24, 25, 26, 27, 28, 29, 30, 31, 32, 33, 34, 35, 36, 37, 38, 39, 40, 41, 42, 43, 44, 45, 46, 47, 48, 49, 50, 51, 52, 53, 54, 55] (by decide +kernel) (by decide +kernel)
set_option maxRecDepth 20000 in
theorem gX12_laysChoices_X12_onlyOver : GoodIn wsX12_laysChoices (wsV RX12 206 RX12 yX12_onlyOver wsX12_onlyOver) := goodIn_app (goodIn_of _ (by decide +kernel)) ggX12_laysChoices_X12_onlyOver
set_option maxRecDepth 20000 in
theorem ggX12_laysChoices_X12_dimOf : GoodIn wsX12_laysChoices wsX12_dimOf := goodIn_r _ [17, 13, 18, 19, 20, 21, 22, 23, 24, 25, 26, 27, 28, 29, 30, 31, 32, 33, 34, 35, 36, 37, 38, 39, 40, 41, 42, 43, 44, 45, 46, 47, 48, 49, 50, 51, 52, 53, 54, 55] (by decide +kernel) (by decide +kernel)
set_option maxRecDepth 20000 in
theorem gX12_laysChoices_X12_dimOf : GoodIn wsX12_laysChoices (wsV RX12 149 RX12 yX12_dimOf wsX12_dimOf) := goodIn_app (goodIn_of _ (by decide +kernel)) ggX12_laysChoices_X12_dimOf
def wbX12_laysChoices_0 (rec : Nat → XT → (Nat → Int32) → (Nat → Int64) → (Int32 → XT → Prop) → Prop) (k : Nat) (t : XT) (li : Nat → Int32) (lj : Nat → Int64) (Q : Int32 → XT → Prop) : Prop :=
  rec 1 t (uI (uI li 3 0) 4 0) lj Q
def wbX12_laysChoices_1 (rec : Nat → XT → (Nat → Int32) → (Nat → Int64) → (Int32 → XT → Prop) → Prop) (k : Nat) (t : XT) (li : Nat → Int32) (lj : Nat → Int64) (Q : Int32 → XT → Prop) : Prop :=
  ((((t.1 3) : Int32) ≤ (li 4)) → Q (li 3) t) ∧ (¬ (((t.1 3) : Int32) ≤ (li 4)) → (vp_in (li 4) 60 ∧ (∀ v_2 : Int32, v_2 = (t.2.2.1 9) (li 4).toNatClampNeg → ((v_2 = 0) → rec 3 t li lj Q) ∧ (¬ (v_2 = 0) → (((li 1) = 0) → (wqX12_dimOf k t (li 4) (fun r_5 t_5 => ((¬ r_5 = (li 2)) → rec 3 t_5 li lj Q) ∧ ((r_5 = (li 2)) → rec 2 t_5 li lj Q)))) ∧ (¬ ((li 1) = 0) → (wqX12_onlyOver k t (li 4) (fun r_7 t_7 => ((r_7 = (-1)) → rec 3 t_7 li lj Q) ∧ (¬ (r_7 = (-1)) → rec 2 t_7 li lj Q))))))))
def wbX12_laysChoices_2 (rec : Nat → XT → (Nat → Int32) → (Nat → Int64) → (Int32 → XT → Prop) → Prop) (k : Nat) (t : XT) (li : Nat → Int32) (lj : Nat → Int64) (Q : Int32 → XT → Prop) : Prop :=
  (vp_in (li 3) 60 ∧ (∀ t_9 : XT, t_9 = sA t 12 (upd (t.2.2.1 12) (li 3).toNatClampNeg (li 4)) → (∀ v_10 : Int32, v_10 = (li 3) + Int32.ofInt 1 → rec 3 t_9 (uI li 3 v_10) lj Q)))
def wbX12_laysChoices_3 (rec : Nat → XT → (Nat → Int32) → (Nat → Int64) → (Int32 → XT → Prop) → Prop) (k : Nat) (t : XT) (li : Nat → Int32) (lj : Nat → Int64) (Q : Int32 → XT → Prop) : Prop :=
  (∀ v_11 : Int32, v_11 = (li 4) + Int32.ofInt 1 → rec 1 t (uI li 4 v_11) lj Q)
def wpX12_laysChoices : Nat → Nat → XT → (Nat → Int32) → (Nat → Int64) → (Int32 → XT → Prop) → Prop
  | 0, _, _, _, _, _ => False
  | k + 1, 0, t, li, lj, Q => wbX12_laysChoices_0 (wpX12_laysChoices k) k t li lj Q
  | k + 1, 1, t, li, lj, Q => wbX12_laysChoices_1 (wpX12_laysChoices k) k t li lj Q
  | k + 1, 2, t, li, lj, Q => wbX12_laysChoices_2 (wpX12_laysChoices k) k t li lj Q
  | k + 1, 3, t, li, lj, Q => wbX12_laysChoices_3 (wpX12_laysChoices k) k t li lj Q
  | _ + 1, _, _, _, _, _ => False
def wqX12_laysChoices (k : Nat) (t : XT) (a1 : Int32) (a2 : Int32) (Q : Int32 → XT → Prop) : Prop := wpX12_laysChoices k 0 t (uI (uI (fun _ => 0) 1 a1) 2 a2) (fun _ => 0) Q
set_option maxHeartbeats 8000000 in
set_option maxRecDepth 100000 in
theorem wkX12_laysChoices (l : Launch) (D : va_G) (cI cJ cB cZ : ClassId) (bd : Nat → Nat) (k : Nat) (t : XT) (a1 : Int32) (a2 : Int32) (Q : Int32 → XT → Prop) (hR : wqX12_laysChoices k t a1 a2 Q) : MetI l yX12_laysChoices wsX12_laysChoices 4 86 0 0 D (TYS cI cJ cB cZ) (wM cI cJ cB cZ bd t) [.ref (bd 0), .int a1, .int a2] (fun r u => Q r u) (fun u : XT => (wM cI cJ cB cZ bd u)) := by
  refine x_startI (ty := .int) (cc := cX12_laysChoices) (by decide) rfl (Nat.le_of_ble_eq_true rfl) ?_
  intro p e s m args below meth c A ls B hr hnm h hl
  have hx := B.1.1
  have hb := B.1.2.1
  have hml := B.1.2.2.1
  have hts := B.1.2.2.2.2
  have hown : s.vm.findClass RX12 = some m.cls := B.1.2.2.2.1
  have hin12 : ∀ w ∈ u_ws RX12 TX12 31, w ∈ wsX12_laysChoices := by decide +kernel
  have main : ∀ k : Nat, (∀ (t : XT) (li : Nat → Int32) (lj : Nat → Int64) (H : Heap) (locs : List Loc) (ls : Array Slot), wpX12_laysChoices k 0 t li lj Q → lv_has ls 5 [(0, .ref (bd 0)), (1, .int (li 1)), (2, .int (li 2))] → Hp D A s.heap (wM cI cJ cB cZ bd t) H locs → W p l e { frames := 4, cells := 0, slots := 0, locals := 86 } s m args below meth c H locs 0 0 (MQ below (va_Qi (fun r u => Q r u) (fun u t => xEnd D ((fun u : XT => (wM cI cJ cB cZ bd u)) u) A t) A) args s 0 0 A) (F0 m 0 ls [])) ∧
      (∀ (t : XT) (li : Nat → Int32) (lj : Nat → Int64) (H : Heap) (locs : List Loc) (ls : Array Slot), wpX12_laysChoices k 1 t li lj Q → lv_has ls 5 [(0, .ref (bd 0)), (1, .int (li 1)), (2, .int (li 2)), (3, .int (li 3)), (4, .int (li 4))] → Hp D A s.heap (wM cI cJ cB cZ bd t) H locs → W p l e { frames := 4, cells := 0, slots := 0, locals := 86 } s m args below meth c H locs 0 0 (MQ below (va_Qi (fun r u => Q r u) (fun u t => xEnd D ((fun u : XT => (wM cI cJ cB cZ bd u)) u) A t) A) args s 0 0 A) (F0 m 5 ls [])) ∧
      (∀ (t : XT) (li : Nat → Int32) (lj : Nat → Int64) (H : Heap) (locs : List Loc) (ls : Array Slot), wpX12_laysChoices k 2 t li lj Q → lv_has ls 5 [(0, .ref (bd 0)), (1, .int (li 1)), (2, .int (li 2)), (3, .int (li 3)), (4, .int (li 4))] → Hp D A s.heap (wM cI cJ cB cZ bd t) H locs → W p l e { frames := 4, cells := 0, slots := 0, locals := 86 } s m args below meth c H locs 0 0 (MQ below (va_Qi (fun r u => Q r u) (fun u t => xEnd D ((fun u : XT => (wM cI cJ cB cZ bd u)) u) A t) A) args s 0 0 A) (F0 m 51 ls [])) ∧
      (∀ (t : XT) (li : Nat → Int32) (lj : Nat → Int64) (H : Heap) (locs : List Loc) (ls : Array Slot), wpX12_laysChoices k 3 t li lj Q → lv_has ls 5 [(0, .ref (bd 0)), (1, .int (li 1)), (2, .int (li 2)), (3, .int (li 3)), (4, .int (li 4))] → Hp D A s.heap (wM cI cJ cB cZ bd t) H locs → W p l e { frames := 4, cells := 0, slots := 0, locals := 86 } s m args below meth c H locs 0 0 (MQ below (va_Qi (fun r u => Q r u) (fun u t => xEnd D ((fun u : XT => (wM cI cJ cB cZ bd u)) u) A t) A) args s 0 0 A) (F0 m 62 ls [])) := by
    intro k
    induction k with
    | zero => exact ⟨fun _ _ _ _ _ _ hR => False.elim hR, fun _ _ _ _ _ _ hR => False.elim hR, fun _ _ _ _ _ _ hR => False.elim hR, fun _ _ _ _ _ _ hR => False.elim hR⟩
    | succ k ih =>
      refine ⟨?_, ?_, ?_, ?_⟩
      · intro t li lj H locs ls hR hl h
        have hR : wbX12_laysChoices_0 (wpX12_laysChoices k) k t li lj Q := hR
        unfold wbX12_laysChoices_0 at hR
        refine lv_iconst (v := 0) hx hb dX12_laysChoices_0 (by decide) ?_
        refine lv_istore_n (lv' := [(3, .int 0), (0, .ref (bd 0)), (1, .int (li 1)), (2, .int (li 2))]) hx hb dX12_laysChoices_1 rfl hl (by decide) rfl (fun ls hl => ?_)
        refine lv_iconst (v := 0) hx hb dX12_laysChoices_2 (by decide) ?_
        refine lv_istore (lv' := [(4, .int 0), (3, .int 0), (0, .ref (bd 0)), (1, .int (li 1)), (2, .int (li 2))]) hx hb dX12_laysChoices_3 hl (by decide) rfl (fun ls hl => ?_)
        exact ih.2.1 t (uI (uI li 3 0) 4 0) lj H locs ls hR (lv_sub hl [2, 3, 4, 1, 0] rfl) h
      · intro t li lj H locs ls hR hl h
        have hR : wbX12_laysChoices_1 (wpX12_laysChoices k) k t li lj Q := hR
        unfold wbX12_laysChoices_1 at hR
        refine lv_iload hx hb dX12_laysChoices_5 (lv_at hl 4 rfl) ?_
        refine lv_aload_n hx hb dX12_laysChoices_7 rfl (lv_at hl 0 rfl) ?_
        refine x_get (ci := 12) (C := RX12) (T := TX12) (N := 31) (v := .int (t.1 3)) B h hin12 0 5 rfl rfl (by decide) (by decide +kernel) rfl dX12_laysChoices_8 ?_
        refine lv_icmp_ge (tgt := 68) hx hb dX12_laysChoices_11 (by decide) (fun c_1 => ?_) (fun c_1 => ?_)
        · have hR := hR.1 c_1
          refine lv_iload_n hx hb dX12_laysChoices_68 rfl (lv_at hl 3 rfl) ?_
          exact x_iret (w1 := (fun u : XT => (wM cI cJ cB cZ bd u))) t B h hr rfl hR dX12_laysChoices_69
        · have hR := hR.2 c_1
          refine lv_aload_n hx hb dX12_laysChoices_14 rfl (lv_at hl 0 rfl) ?_
          refine x_get (ci := 12) (C := RX12) (T := TX12) (N := 31) (v := .ref (bd 10)) B h hin12 0 14 rfl rfl (by decide) (by decide +kernel) rfl dX12_laysChoices_15 ?_
          refine lv_iload hx hb dX12_laysChoices_18 (lv_at hl 4 rfl) ?_
          obtain ⟨hb_2, hR⟩ := hR
          refine va_zald (f := (t.2.2.1 9)) hx hb B.2.1 h.1 10 3 rfl rfl hb_2 dX12_laysChoices_20 ?_
          refine lv_topi (fun v_2 ev_2 => ?_)
          have hR := hR v_2 ev_2
          refine lv_if_eq (tgt := 62) hx hb dX12_laysChoices_21 (by decide) (fun c_3 => ?_) (fun c_3 => ?_)
          · have hR := hR.1 c_3
            exact ih.2.2.2 t li lj H locs ls hR (lv_sub hl [0, 1, 2, 3, 4] rfl) h
          · have hR := hR.2 c_3
            refine lv_iload_n hx hb dX12_laysChoices_24 rfl (lv_at hl 1 rfl) ?_
            refine lv_if_eq (tgt := 41) hx hb dX12_laysChoices_25 (by decide) (fun c_4 => ?_) (fun c_4 => ?_)
            · have hR := hR.1 c_4
              refine lv_aload_n hx hb dX12_laysChoices_41 rfl (lv_at hl 0 rfl) ?_
              refine lv_iload hx hb dX12_laysChoices_42 (lv_at hl 4 rfl) ?_
              refine x_cVIF (n := 1) (As := [.int (li 4)]) (rest := []) B h (wkX12_dimOf l D cI cJ cB cZ bd k t (li 4) _ hR) ⟨⟨_, rfl⟩, by decide +kernel, Nat.le_of_ble_eq_true rfl, Nat.le_of_ble_eq_true rfl⟩ gX12_laysChoices_X12_dimOf (show ((wM cI cJ cB cZ bd t) : va_W)[0]? = some (_, .inr (12, _)) from rfl) rfl rfl hl.1 rfl (Nat.le_of_ble_eq_true rfl) dX12_laysChoices_44 ⟨Nat.le_of_ble_eq_true rfl, Nat.le_of_ble_eq_true rfl⟩ (fun r_5 t_5 H locs hR h => ?_)
              refine lv_iload_n hx hb dX12_laysChoices_47 rfl (lv_at hl 2 rfl) ?_
              refine lv_icmp_ne (tgt := 62) hx hb dX12_laysChoices_48 (by decide) (fun c_6 => ?_) (fun c_6 => ?_)
              · have hR := hR.1 c_6
                exact ih.2.2.2 t_5 li lj H locs ls hR (lv_sub hl [0, 1, 2, 3, 4] rfl) h
              · have hR := hR.2 c_6
                exact ih.2.2.1 t_5 li lj H locs ls hR (lv_sub hl [0, 1, 2, 3, 4] rfl) h
            · have hR := hR.2 c_4
              refine lv_aload_n hx hb dX12_laysChoices_28 rfl (lv_at hl 0 rfl) ?_
              refine lv_iload hx hb dX12_laysChoices_29 (lv_at hl 4 rfl) ?_
              refine x_cVIF (n := 1) (As := [.int (li 4)]) (rest := []) B h (wkX12_onlyOver l D cI cJ cB cZ bd k t (li 4) _ hR) ⟨⟨_, rfl⟩, by decide +kernel, Nat.le_of_ble_eq_true rfl, Nat.le_of_ble_eq_true rfl⟩ gX12_laysChoices_X12_onlyOver (show ((wM cI cJ cB cZ bd t) : va_W)[0]? = some (_, .inr (12, _)) from rfl) rfl rfl hl.1 rfl (Nat.le_of_ble_eq_true rfl) dX12_laysChoices_31 ⟨Nat.le_of_ble_eq_true rfl, Nat.le_of_ble_eq_true rfl⟩ (fun r_7 t_7 H locs hR h => ?_)
              refine lv_iconst (v := (-1)) hx hb dX12_laysChoices_34 (by decide) ?_
              refine lv_icmp_eq (tgt := 62) hx hb dX12_laysChoices_35 (by decide) (fun c_8 => ?_) (fun c_8 => ?_)
              · have hR := hR.1 c_8
                exact ih.2.2.2 t_7 li lj H locs ls hR (lv_sub hl [0, 1, 2, 3, 4] rfl) h
              · have hR := hR.2 c_8
                refine lv_goto (tgt := 51) hx hb dX12_laysChoices_38 (by decide) ?_
                exact ih.2.2.1 t_7 li lj H locs ls hR (lv_sub hl [0, 1, 2, 3, 4] rfl) h
      · intro t li lj H locs ls hR hl h
        have hR : wbX12_laysChoices_2 (wpX12_laysChoices k) k t li lj Q := hR
        unfold wbX12_laysChoices_2 at hR
        refine lv_aload_n hx hb dX12_laysChoices_51 rfl (lv_at hl 0 rfl) ?_
        refine x_get (ci := 12) (C := RX12) (T := TX12) (N := 31) (v := .ref (bd 19)) B h hin12 0 27 rfl rfl (by decide) (by decide +kernel) rfl dX12_laysChoices_52 ?_
        refine lv_iload_n hx hb dX12_laysChoices_55 rfl (lv_at hl 3 rfl) ?_
        refine lv_iload hx hb dX12_laysChoices_56 (lv_at hl 4 rfl) ?_
        obtain ⟨hb_9, hR⟩ := hR
        refine z_iast (f := (t.2.2.1 12)) B h 19 0 rfl rfl hb_9 dX12_laysChoices_58 (fun H locs h => ?_)
        obtain ⟨t_9, et_9⟩ : ∃ v : XT, v = sA t 12 (upd (t.2.2.1 12) (li 3).toNatClampNeg (li 4)) := ⟨_, rfl⟩
        have hR := hR t_9 et_9
        have h : Hp D A s.heap (wM cI cJ cB cZ bd t_9) H locs := by rw [et_9]; exact h
        obtain ⟨v_10, ev_10⟩ : ∃ v : Int32, v = (li 3) + Int32.ofInt 1 := ⟨_, rfl⟩
        have hR := hR v_10 ev_10
        refine lv_iinc (v := v_10) (lv' := [(3, .int v_10), (0, .ref (bd 0)), (1, .int (li 1)), (2, .int (li 2)), (4, .int (li 4))]) hx hb dX12_laysChoices_59 hl (k := 3) rfl ev_10.symm (by decide) rfl (fun ls hl => ?_)
        exact ih.2.2.2 t_9 (uI li 3 v_10) lj H locs ls hR (lv_sub hl [1, 2, 3, 0, 4] rfl) h
      · intro t li lj H locs ls hR hl h
        have hR : wbX12_laysChoices_3 (wpX12_laysChoices k) k t li lj Q := hR
        unfold wbX12_laysChoices_3 at hR
        obtain ⟨v_11, ev_11⟩ : ∃ v : Int32, v = (li 4) + Int32.ofInt 1 := ⟨_, rfl⟩
        have hR := hR v_11 ev_11
        refine lv_iinc (v := v_11) (lv' := [(4, .int v_11), (0, .ref (bd 0)), (1, .int (li 1)), (2, .int (li 2)), (3, .int (li 3))]) hx hb dX12_laysChoices_62 hl (k := 4) rfl ev_11.symm (by decide) rfl (fun ls hl => ?_)
        refine lv_goto (tgt := 5) hx hb dX12_laysChoices_65 (by decide) ?_
        exact ih.2.1 t (uI li 4 v_11) lj H locs ls hR (lv_sub hl [1, 2, 3, 4, 0] rfl) h
  exact (main k).1 t _ _ s.heap [] ls hR hl h
def wbX12_drawnOf_0 (rec : Nat → XT → (Nat → Int32) → (Nat → Int64) → (Int32 → XT → Prop) → Prop) (k : Nat) (t : XT) (li : Nat → Int32) (lj : Nat → Int64) (Q : Int32 → XT → Prop) : Prop :=
  (∀ v_1 : Int64, v_1 = (t.1 8).toInt64 → (∀ v_2 : Int64, v_2 = (v_1 * 1103515245) → (∀ v_3 : Int64, v_3 = (v_2 + 12345) → ((¬ (2147483648 : Int64) = 0) ∧ (∀ v_4 : Int64, v_4 = (v_3 - v_3 / 2147483648 * 2147483648) → (∀ v_5 : Int32, v_5 = v_4.toInt32 → (∀ t_6 : XT, t_6 = sI t 8 v_5 → ((¬ (65536 : Int32) = 0) ∧ (∀ v_7 : Int32, v_7 = ((t_6.1 8) / 65536) → ((¬ (li 1) = 0) ∧ (∀ v_8 : Int32, v_8 = (v_7 - v_7 / (li 1) * (li 1)) → Q v_8 t_6)))))))))))
def wpX12_drawnOf : Nat → Nat → XT → (Nat → Int32) → (Nat → Int64) → (Int32 → XT → Prop) → Prop
  | 0, _, _, _, _, _ => False
  | k + 1, 0, t, li, lj, Q => wbX12_drawnOf_0 (wpX12_drawnOf k) k t li lj Q
  | _ + 1, _, _, _, _, _ => False
def wqX12_drawnOf (k : Nat) (t : XT) (a1 : Int32) (Q : Int32 → XT → Prop) : Prop := wpX12_drawnOf k 0 t (uI (fun _ => 0) 1 a1) (fun _ => 0) Q
set_option maxHeartbeats 8000000 in
set_option maxRecDepth 100000 in
theorem wkX12_drawnOf (l : Launch) (D : va_G) (cI cJ cB cZ : ClassId) (bd : Nat → Nat) (k : Nat) (t : XT) (a1 : Int32) (Q : Int32 → XT → Prop) (hR : wqX12_drawnOf k t a1 Q) : MetI l yX12_drawnOf wsX12_drawnOf 0 0 0 0 D (TYS cI cJ cB cZ) (wM cI cJ cB cZ bd t) [.ref (bd 0), .int a1] (fun r u => Q r u) (fun u : XT => (wM cI cJ cB cZ bd u)) := by
  refine x_startI (ty := .int) (cc := cX12_drawnOf) (by decide) rfl (Nat.le_of_ble_eq_true rfl) ?_
  intro p e s m args below meth c A ls B hr hnm h hl
  have hx := B.1.1
  have hb := B.1.2.1
  have hml := B.1.2.2.1
  have hts := B.1.2.2.2.2
  have hown : s.vm.findClass RX12 = some m.cls := B.1.2.2.2.1
  have hin12 : ∀ w ∈ u_ws RX12 TX12 31, w ∈ wsX12_drawnOf := by decide +kernel
  have main : ∀ k : Nat, (∀ (t : XT) (li : Nat → Int32) (lj : Nat → Int64) (H : Heap) (locs : List Loc) (ls : Array Slot), wpX12_drawnOf k 0 t li lj Q → lv_has ls 2 [(0, .ref (bd 0)), (1, .int (li 1))] → Hp D A s.heap (wM cI cJ cB cZ bd t) H locs → W p l e { frames := 0, cells := 0, slots := 0, locals := 0 } s m args below meth c H locs 0 0 (MQ below (va_Qi (fun r u => Q r u) (fun u t => xEnd D ((fun u : XT => (wM cI cJ cB cZ bd u)) u) A t) A) args s 0 0 A) (F0 m 0 ls [])) := by
    intro k
    induction k with
    | zero => exact fun _ _ _ _ _ _ hR => False.elim hR
    | succ k ih =>
      intro t li lj H locs ls hR hl h
      have hR : wbX12_drawnOf_0 (wpX12_drawnOf k) k t li lj Q := hR
      unfold wbX12_drawnOf_0 at hR
      refine lv_aload_n hx hb dX12_drawnOf_0 rfl (lv_at hl 0 rfl) ?_
      refine lv_aload_n hx hb dX12_drawnOf_1 rfl (lv_at hl 0 rfl) ?_
      refine x_get (ci := 12) (C := RX12) (T := TX12) (N := 31) (v := .int (t.1 8)) B h hin12 0 26 rfl rfl (by decide) (by decide +kernel) rfl dX12_drawnOf_2 ?_
      obtain ⟨v_1, ev_1⟩ : ∃ v : Int64, v = (t.1 8).toInt64 := ⟨_, rfl⟩
      have hR := hR v_1 ev_1
      refine lv_i2l (v := v_1) hx hb dX12_drawnOf_5 ev_1.symm ?_
      refine lv_ldc2 (v := 1103515245) hx hb hown (hts (.constantLong RX12 343 1103515245) (by decide +kernel)) dX12_drawnOf_6 ?_
      refine lv_lmul hx hb dX12_drawnOf_9 ?_
      refine lv_topl (fun v_2 ev_2 => ?_)
      have hR := hR v_2 ev_2
      refine lv_ldc2 (v := 12345) hx hb hown (hts (.constantLong RX12 345 12345) (by decide +kernel)) dX12_drawnOf_10 ?_
      refine lv_ladd hx hb dX12_drawnOf_13 ?_
      refine lv_topl (fun v_3 ev_3 => ?_)
      have hR := hR v_3 ev_3
      refine lv_ldc2 (v := 2147483648) hx hb hown (hts (.constantLong RX12 347 2147483648) (by decide +kernel)) dX12_drawnOf_14 ?_
      obtain ⟨hd_4, hR⟩ := hR
      refine lv_lrem hx hb dX12_drawnOf_17 hd_4 ?_
      refine lv_topl (fun v_4 ev_4 => ?_)
      have hR := hR v_4 ev_4
      obtain ⟨v_5, ev_5⟩ : ∃ v : Int32, v = v_4.toInt32 := ⟨_, rfl⟩
      have hR := hR v_5 ev_5
      refine lv_l2i (v := v_5) hx hb dX12_drawnOf_18 ev_5.symm ?_
      refine x_put (ci := 12) (C := RX12) (T := TX12) (N := 31) (v := .int v_5) (ty := .int) B h hin12 tyX12 tyX12_ok nmX12 0 26 rfl rfl (by decide) (by decide +kernel) rfl rfl rfl rfl (Nat.le_of_ble_eq_true rfl) dX12_drawnOf_19 (fun H locs h => ?_)
      obtain ⟨t_6, et_6⟩ : ∃ v : XT, v = sI t 8 v_5 := ⟨_, rfl⟩
      have hR := hR t_6 et_6
      have h : Hp D A s.heap (wM cI cJ cB cZ bd t_6) H locs := by rw [et_6]; exact h
      refine lv_aload_n hx hb dX12_drawnOf_22 rfl (lv_at hl 0 rfl) ?_
      refine x_get (ci := 12) (C := RX12) (T := TX12) (N := 31) (v := .int (t_6.1 8)) B h hin12 0 26 rfl rfl (by decide) (by decide +kernel) rfl dX12_drawnOf_23 ?_
      refine lv_ldcw (v := 65536) hx hb hown (hts (.constant RX12 349 65536) (by decide +kernel)) dX12_drawnOf_26 ?_
      obtain ⟨hd_7, hR⟩ := hR
      refine lv_idiv hx hb dX12_drawnOf_29 hd_7 ?_
      refine lv_topi (fun v_7 ev_7 => ?_)
      have hR := hR v_7 ev_7
      refine lv_iload_n hx hb dX12_drawnOf_30 rfl (lv_at hl 1 rfl) ?_
      obtain ⟨hd_8, hR⟩ := hR
      refine lv_irem hx hb dX12_drawnOf_31 hd_8 ?_
      refine lv_topi (fun v_8 ev_8 => ?_)
      have hR := hR v_8 ev_8
      exact x_iret (w1 := (fun u : XT => (wM cI cJ cB cZ bd u))) t_6 B h hr rfl hR dX12_drawnOf_32
  exact (main k) t _ _ s.heap [] ls hR hl h
set_option maxRecDepth 20000 in
theorem ggX12_drawnOnce_X12_opensAll : GoodIn wsX12_drawnOnce wsX12_opensAll := goodIn_r _ [7, 8, 2, 9, 10, 11, 12, 6, 13, 14, 60, 61, 62, 63, 64, 65, 66, 67, 68, 69, 70, 71, 72, 73, 74, 75, 76, 77, 78, 79, 80, 81, 82, 83, 84, 85, 86, 87, 88, 89, 90] (by decide +kernel) (by decide +kernel)
set_option maxRecDepth 20000 in
theorem gX12_drawnOnce_X12_opensAll : GoodIn wsX12_drawnOnce (wsV RX12 203 RX12 yX12_opensAll wsX12_opensAll) := goodIn_app (goodIn_of _ (by decide +kernel)) ggX12_drawnOnce_X12_opensAll
set_option maxRecDepth 20000 in
theorem ggX12_drawnOnce_X12_openDim : GoodIn wsX12_drawnOnce wsX12_openDim := goodIn_r _ [18, 8, 2, 19, 20, 21, 22, 23, 24, 25, 6, 26, 27, 28, 29, 30, 31, 32, 33, 34, 60, 61, 62, 63, 64, 65, 66, 67, 68, 69, 70, 71, 72, 73, 74, 75, 76, 77, 78, 79, 80, 81, 82, 83, 84, 85, 86, 87, 88, 89, 90] (by decide +kernel) (by decide +kernel)
set_option maxRecDepth 20000 in
theorem gX12_drawnOnce_X12_openDim : GoodIn wsX12_drawnOnce (wsV RX12 353 RX12 yX12_openDim wsX12_openDim) := goodIn_app (goodIn_of _ (by decide +kernel)) ggX12_drawnOnce_X12_openDim
set_option maxRecDepth 20000 in
theorem ggX12_drawnOnce_X12_laysChoices : GoodIn wsX12_drawnOnce wsX12_laysChoices := goodIn_r _ [38, 8, 2, 1, 39, 40, 41, 6, 42, 43, 44, 45, 46, 27, 23, 24, 25, 26, 28, 29, 30, 31, 32, 33, 34, 60, 61, 62, 63, 64, 65, 66, 67, 68, 69, 70, 71, 72, 73, 74, 75, 76, 77, 78, 79, 80, 81, 82, 83, 84, 85, 86, 87, 88, 89, 90] (by decide +kernel) (by decide +kernel)
set_option maxRecDepth 20000 in
theorem gX12_drawnOnce_X12_laysChoices : GoodIn wsX12_drawnOnce (wsV RX12 356 RX12 yX12_laysChoices wsX12_laysChoices) := goodIn_app (goodIn_of _ (by decide +kernel)) ggX12_drawnOnce_X12_laysChoices
set_option maxRecDepth 20000 in
theorem ggX12_drawnOnce_X12_drawnOf : GoodIn wsX12_drawnOnce wsX12_drawnOf := goodIn_r _ [50, 51, 52, 53, 54, 55, 60, 61, 62, 63, 64, 65, 66, 67, 68, 69, 70, 71, 72, 73, 74, 75, 76, 77, 78, 79, 80, 81, 82, 83, 84, 85, 86, 87, 88, 89, 90] (by decide +kernel) (by decide +kernel)
set_option maxRecDepth 20000 in
theorem gX12_drawnOnce_X12_drawnOf : GoodIn wsX12_drawnOnce (wsV RX12 360 RX12 yX12_drawnOf wsX12_drawnOf) := goodIn_app (goodIn_of _ (by decide +kernel)) ggX12_drawnOnce_X12_drawnOf
set_option maxRecDepth 20000 in
theorem ggX12_drawnOnce_X12_onlyOver : GoodIn wsX12_drawnOnce wsX12_onlyOver := goodIn_r _ [42, 8, 2, 43, 44, 45, 6, 46, 27, 23, 24, 25, 26, 28, 29, 30, 31, 32, 33, 34, 60, 61, 62, 63, 64, 65, 66, 67, 68, 69, 70, 71, 72, 73, 74, 75, 76, 77, 78, 79, 80, 81, 82, 83, 84, 85, 86, 87, 88, 89, 90] (by decide +kernel) (by decide +kernel)
set_option maxRecDepth 20000 in
theorem gX12_drawnOnce_X12_onlyOver : GoodIn wsX12_drawnOnce (wsV RX12 206 RX12 yX12_onlyOver wsX12_onlyOver) := goodIn_app (goodIn_of _ (by decide +kernel)) ggX12_drawnOnce_X12_onlyOver
set_option maxRecDepth 20000 in
theorem ggX12_drawnOnce_X12_closes : GoodIn wsX12_drawnOnce wsX12_closes := goodIn_r _ [59, 14, 2, 60, 61, 62, 63, 64, 65, 66, 67, 68, 69, 70, 71, 72, 73, 74, 75, 76, 77, 78, 79, 80, 81, 82, 83, 84, 85, 86, 87, 88, 89, 90] (by decide +kernel) (by decide +kernel)
set_option maxRecDepth 20000 in
theorem gX12_drawnOnce_X12_closes : GoodIn wsX12_drawnOnce (wsV RX12 209 RX12 yX12_closes wsX12_closes) := goodIn_app (goodIn_of _ (by decide +kernel)) ggX12_drawnOnce_X12_closes
def wbX12_drawnOnce_0 (rec : Nat → XT → (Nat → Int32) → (Nat → Int64) → (Int32 → XT → Prop) → Prop) (k : Nat) (t : XT) (li : Nat → Int32) (lj : Nat → Int64) (Q : Int32 → XT → Prop) : Prop :=
  (wqX12_opensAll k t  (fun t_1 => (wqX12_openDim k t_1  (fun r_2 t_2 => rec 1 t_2 (uI (uI li 1 0) 2 r_2) lj Q))))
def wbX12_drawnOnce_1 (rec : Nat → XT → (Nat → Int32) → (Nat → Int64) → (Int32 → XT → Prop) → Prop) (k : Nat) (t : XT) (li : Nat → Int32) (lj : Nat → Int64) (Q : Int32 → XT → Prop) : Prop :=
  (((li 2) = (-1)) → Q (li 1) t) ∧ (¬ ((li 2) = (-1)) → (wqX12_laysChoices k t 1 0 (fun r_4 t_4 => ((r_4 ≤ 0) → (wqX12_laysChoices k t_4 0 (li 2) (fun r_6 t_6 => (wqX12_drawnOf k t_6 r_6 (fun r_7 t_7 => (vp_in r_7 60 ∧ (∀ v_8 : Int32, v_8 = (t_7.2.2.1 12) r_7.toNatClampNeg → (vp_in v_8 60 ∧ (∀ t_9 : XT, t_9 = sA t_7 9 (upd (t_7.2.2.1 9) v_8.toNatClampNeg (vp_nar .boolean 0)) → (∀ v_10 : Int32, v_10 = (li 1) + Int32.ofInt 1 → rec 2 t_9 (uI (uI (uI li 1 v_10) 3 r_4) 4 r_6) lj Q)))))))))) ∧ (¬ (r_4 ≤ 0) → (wqX12_drawnOf k t_4 r_4 (fun r_11 t_11 => (vp_in r_11 60 ∧ (∀ v_12 : Int32, v_12 = (t_11.2.2.1 12) r_11.toNatClampNeg → (wqX12_onlyOver k t_11 v_12 (fun r_13 t_13 => (wqX12_closes k t_13 v_12 r_13 (fun t_14 => rec 2 t_14 (uI (uI li 3 r_4) 4 v_12) lj Q))))))))))))
def wbX12_drawnOnce_2 (rec : Nat → XT → (Nat → Int32) → (Nat → Int64) → (Int32 → XT → Prop) → Prop) (k : Nat) (t : XT) (li : Nat → Int32) (lj : Nat → Int64) (Q : Int32 → XT → Prop) : Prop :=
  (wqX12_openDim k t  (fun r_15 t_15 => rec 1 t_15 (uI li 2 r_15) lj Q))
def wpX12_drawnOnce : Nat → Nat → XT → (Nat → Int32) → (Nat → Int64) → (Int32 → XT → Prop) → Prop
  | 0, _, _, _, _, _ => False
  | k + 1, 0, t, li, lj, Q => wbX12_drawnOnce_0 (wpX12_drawnOnce k) k t li lj Q
  | k + 1, 1, t, li, lj, Q => wbX12_drawnOnce_1 (wpX12_drawnOnce k) k t li lj Q
  | k + 1, 2, t, li, lj, Q => wbX12_drawnOnce_2 (wpX12_drawnOnce k) k t li lj Q
  | _ + 1, _, _, _, _, _ => False
def wqX12_drawnOnce (k : Nat) (t : XT)  (Q : Int32 → XT → Prop) : Prop := wpX12_drawnOnce k 0 t (fun _ => 0) (fun _ => 0) Q
set_option maxHeartbeats 8000000 in
set_option maxRecDepth 100000 in
theorem wkX12_drawnOnce (l : Launch) (D : va_G) (cI cJ cB cZ : ClassId) (bd : Nat → Nat) (k : Nat) (t : XT)  (Q : Int32 → XT → Prop) (hR : wqX12_drawnOnce k t  Q) : MetI l yX12_drawnOnce wsX12_drawnOnce 5 110 0 0 D (TYS cI cJ cB cZ) (wM cI cJ cB cZ bd t) [.ref (bd 0)] (fun r u => Q r u) (fun u : XT => (wM cI cJ cB cZ bd u)) := by
  refine x_startI (ty := .int) (cc := cX12_drawnOnce) (by decide) rfl (Nat.le_of_ble_eq_true rfl) ?_
  intro p e s m args below meth c A ls B hr hnm h hl
  have hx := B.1.1
  have hb := B.1.2.1
  have hml := B.1.2.2.1
  have hts := B.1.2.2.2.2
  have hown : s.vm.findClass RX12 = some m.cls := B.1.2.2.2.1
  have hin12 : ∀ w ∈ u_ws RX12 TX12 31, w ∈ wsX12_drawnOnce := by decide +kernel
  have main : ∀ k : Nat, (∀ (t : XT) (li : Nat → Int32) (lj : Nat → Int64) (H : Heap) (locs : List Loc) (ls : Array Slot), wpX12_drawnOnce k 0 t li lj Q → lv_has ls 5 [(0, .ref (bd 0))] → Hp D A s.heap (wM cI cJ cB cZ bd t) H locs → W p l e { frames := 5, cells := 0, slots := 0, locals := 110 } s m args below meth c H locs 0 0 (MQ below (va_Qi (fun r u => Q r u) (fun u t => xEnd D ((fun u : XT => (wM cI cJ cB cZ bd u)) u) A t) A) args s 0 0 A) (F0 m 0 ls [])) ∧
      (∀ (t : XT) (li : Nat → Int32) (lj : Nat → Int64) (H : Heap) (locs : List Loc) (ls : Array Slot), wpX12_drawnOnce k 1 t li lj Q → lv_has ls 5 [(0, .ref (bd 0)), (1, .int (li 1)), (2, .int (li 2))] → Hp D A s.heap (wM cI cJ cB cZ bd t) H locs → W p l e { frames := 5, cells := 0, slots := 0, locals := 110 } s m args below meth c H locs 0 0 (MQ below (va_Qi (fun r u => Q r u) (fun u t => xEnd D ((fun u : XT => (wM cI cJ cB cZ bd u)) u) A t) A) args s 0 0 A) (F0 m 11 ls [])) ∧
      (∀ (t : XT) (li : Nat → Int32) (lj : Nat → Int64) (H : Heap) (locs : List Loc) (ls : Array Slot), wpX12_drawnOnce k 2 t li lj Q → lv_has ls 5 [(0, .ref (bd 0)), (1, .int (li 1)), (2, .int (li 2)), (3, .int (li 3)), (4, .int (li 4))] → Hp D A s.heap (wM cI cJ cB cZ bd t) H locs → W p l e { frames := 5, cells := 0, slots := 0, locals := 110 } s m args below meth c H locs 0 0 (MQ below (va_Qi (fun r u => Q r u) (fun u t => xEnd D ((fun u : XT => (wM cI cJ cB cZ bd u)) u) A t) A) args s 0 0 A) (F0 m 82 ls [])) := by
    intro k
    induction k with
    | zero => exact ⟨fun _ _ _ _ _ _ hR => False.elim hR, fun _ _ _ _ _ _ hR => False.elim hR, fun _ _ _ _ _ _ hR => False.elim hR⟩
    | succ k ih =>
      refine ⟨?_, ?_, ?_⟩
      · intro t li lj H locs ls hR hl h
        have hR : wbX12_drawnOnce_0 (wpX12_drawnOnce k) k t li lj Q := hR
        unfold wbX12_drawnOnce_0 at hR
        refine lv_aload_n hx hb dX12_drawnOnce_0 rfl (lv_at hl 0 rfl) ?_
        refine x_cVVF (n := 0) (As := []) (rest := []) B h (wkX12_opensAll l D cI cJ cB cZ bd k t  _ hR) ⟨⟨_, rfl⟩, by decide +kernel, Nat.le_of_ble_eq_true rfl, Nat.le_of_ble_eq_true rfl⟩ gX12_drawnOnce_X12_opensAll (show ((wM cI cJ cB cZ bd t) : va_W)[0]? = some (_, .inr (12, _)) from rfl) rfl rfl hl.1 rfl (Nat.le_of_ble_eq_true rfl) dX12_drawnOnce_1 ⟨Nat.le_of_ble_eq_true rfl, Nat.le_of_ble_eq_true rfl⟩ (fun t_1 H locs hR h => ?_)
        refine lv_iconst (v := 0) hx hb dX12_drawnOnce_4 (by decide) ?_
        refine lv_istore_n (lv' := [(1, .int 0), (0, .ref (bd 0))]) hx hb dX12_drawnOnce_5 rfl hl (by decide) rfl (fun ls hl => ?_)
        refine lv_aload_n hx hb dX12_drawnOnce_6 rfl (lv_at hl 1 rfl) ?_
        refine x_cVIF (n := 0) (As := []) (rest := []) B h (wkX12_openDim l D cI cJ cB cZ bd k t_1  _ hR) ⟨⟨_, rfl⟩, by decide +kernel, Nat.le_of_ble_eq_true rfl, Nat.le_of_ble_eq_true rfl⟩ gX12_drawnOnce_X12_openDim (show ((wM cI cJ cB cZ bd t_1) : va_W)[0]? = some (_, .inr (12, _)) from rfl) rfl rfl hl.1 rfl (Nat.le_of_ble_eq_true rfl) dX12_drawnOnce_7 ⟨Nat.le_of_ble_eq_true rfl, Nat.le_of_ble_eq_true rfl⟩ (fun r_2 t_2 H locs hR h => ?_)
        refine lv_istore_n (lv' := [(2, .int r_2), (1, .int 0), (0, .ref (bd 0))]) hx hb dX12_drawnOnce_10 rfl hl (by decide) rfl (fun ls hl => ?_)
        exact ih.2.1 t_2 (uI (uI li 1 0) 2 r_2) lj H locs ls hR (lv_sub hl [2, 1, 0] rfl) h
      · intro t li lj H locs ls hR hl h
        have hR : wbX12_drawnOnce_1 (wpX12_drawnOnce k) k t li lj Q := hR
        unfold wbX12_drawnOnce_1 at hR
        refine lv_iload_n hx hb dX12_drawnOnce_11 rfl (lv_at hl 2 rfl) ?_
        refine lv_iconst (v := (-1)) hx hb dX12_drawnOnce_12 (by decide) ?_
        refine lv_icmp_eq (tgt := 90) hx hb dX12_drawnOnce_13 (by decide) (fun c_3 => ?_) (fun c_3 => ?_)
        · have hR := hR.1 c_3
          refine lv_iload_n hx hb dX12_drawnOnce_90 rfl (lv_at hl 1 rfl) ?_
          exact x_iret (w1 := (fun u : XT => (wM cI cJ cB cZ bd u))) t B h hr rfl hR dX12_drawnOnce_91
        · have hR := hR.2 c_3
          refine lv_aload_n hx hb dX12_drawnOnce_16 rfl (lv_at hl 0 rfl) ?_
          refine lv_iconst (v := 1) hx hb dX12_drawnOnce_17 (by decide) ?_
          refine lv_iconst (v := 0) hx hb dX12_drawnOnce_18 (by decide) ?_
          refine x_cVIF (n := 2) (As := [.int 1, .int 0]) (rest := []) B h (wkX12_laysChoices l D cI cJ cB cZ bd k t 1 0 _ hR) ⟨⟨_, rfl⟩, by decide +kernel, Nat.le_of_ble_eq_true rfl, Nat.le_of_ble_eq_true rfl⟩ gX12_drawnOnce_X12_laysChoices (show ((wM cI cJ cB cZ bd t) : va_W)[0]? = some (_, .inr (12, _)) from rfl) rfl rfl hl.1 rfl (Nat.le_of_ble_eq_true rfl) dX12_drawnOnce_19 ⟨Nat.le_of_ble_eq_true rfl, Nat.le_of_ble_eq_true rfl⟩ (fun r_4 t_4 H locs hR h => ?_)
          refine lv_istore_n (lv' := [(3, .int r_4), (0, .ref (bd 0)), (1, .int (li 1)), (2, .int (li 2))]) hx hb dX12_drawnOnce_22 rfl hl (by decide) rfl (fun ls hl => ?_)
          refine lv_iload_n hx hb dX12_drawnOnce_23 rfl (lv_at hl 0 rfl) ?_
          refine lv_if_le (tgt := 54) hx hb dX12_drawnOnce_24 (by decide) (fun c_5 => ?_) (fun c_5 => ?_)
          · have hR := hR.1 c_5
            refine lv_aload_n hx hb dX12_drawnOnce_54 rfl (lv_at hl 1 rfl) ?_
            refine lv_iconst (v := 0) hx hb dX12_drawnOnce_55 (by decide) ?_
            refine lv_iload_n hx hb dX12_drawnOnce_56 rfl (lv_at hl 3 rfl) ?_
            refine x_cVIF (n := 2) (As := [.int 0, .int (li 2)]) (rest := []) B h (wkX12_laysChoices l D cI cJ cB cZ bd k t_4 0 (li 2) _ hR) ⟨⟨_, rfl⟩, by decide +kernel, Nat.le_of_ble_eq_true rfl, Nat.le_of_ble_eq_true rfl⟩ gX12_drawnOnce_X12_laysChoices (show ((wM cI cJ cB cZ bd t_4) : va_W)[0]? = some (_, .inr (12, _)) from rfl) rfl rfl hl.1 rfl (Nat.le_of_ble_eq_true rfl) dX12_drawnOnce_57 ⟨Nat.le_of_ble_eq_true rfl, Nat.le_of_ble_eq_true rfl⟩ (fun r_6 t_6 H locs hR h => ?_)
            refine lv_istore (lv' := [(4, .int r_6), (3, .int r_4), (0, .ref (bd 0)), (1, .int (li 1)), (2, .int (li 2))]) hx hb dX12_drawnOnce_60 hl (by decide) rfl (fun ls hl => ?_)
            refine lv_aload_n hx hb dX12_drawnOnce_62 rfl (lv_at hl 2 rfl) ?_
            refine x_get (ci := 12) (C := RX12) (T := TX12) (N := 31) (v := .ref (bd 10)) B h hin12 0 14 rfl rfl (by decide) (by decide +kernel) rfl dX12_drawnOnce_63 ?_
            refine lv_aload_n hx hb dX12_drawnOnce_66 rfl (lv_at hl 2 rfl) ?_
            refine x_get (ci := 12) (C := RX12) (T := TX12) (N := 31) (v := .ref (bd 19)) B h hin12 0 27 rfl rfl (by decide) (by decide +kernel) rfl dX12_drawnOnce_67 ?_
            refine lv_aload_n hx hb dX12_drawnOnce_70 rfl (lv_at hl 2 rfl) ?_
            refine lv_iload hx hb dX12_drawnOnce_71 (lv_at hl 0 rfl) ?_
            refine x_cVIF (n := 1) (As := [.int r_6]) (rest := [.ref (bd 19), .ref (bd 10)]) B h (wkX12_drawnOf l D cI cJ cB cZ bd k t_6 r_6 _ hR) ⟨⟨_, rfl⟩, by decide +kernel, Nat.le_of_ble_eq_true rfl, Nat.le_of_ble_eq_true rfl⟩ gX12_drawnOnce_X12_drawnOf (show ((wM cI cJ cB cZ bd t_6) : va_W)[0]? = some (_, .inr (12, _)) from rfl) rfl rfl hl.1 rfl (Nat.le_of_ble_eq_true rfl) dX12_drawnOnce_73 ⟨Nat.le_of_ble_eq_true rfl, Nat.le_of_ble_eq_true rfl⟩ (fun r_7 t_7 H locs hR h => ?_)
            obtain ⟨hb_8, hR⟩ := hR
            refine va_iald (f := (t_7.2.2.1 12)) hx hb B.2.1 h.1 19 0 rfl rfl hb_8 dX12_drawnOnce_76 ?_
            refine lv_topi (fun v_8 ev_8 => ?_)
            have hR := hR v_8 ev_8
            refine lv_iconst (v := 0) hx hb dX12_drawnOnce_77 (by decide) ?_
            obtain ⟨hb_9, hR⟩ := hR
            refine z_zast (f := (t_7.2.2.1 9)) B h 10 3 rfl rfl hb_9 dX12_drawnOnce_78 (fun H locs h => ?_)
            obtain ⟨t_9, et_9⟩ : ∃ v : XT, v = sA t_7 9 (upd (t_7.2.2.1 9) v_8.toNatClampNeg (vp_nar .boolean 0)) := ⟨_, rfl⟩
            have hR := hR t_9 et_9
            have h : Hp D A s.heap (wM cI cJ cB cZ bd t_9) H locs := by rw [et_9]; exact h
            obtain ⟨v_10, ev_10⟩ : ∃ v : Int32, v = (li 1) + Int32.ofInt 1 := ⟨_, rfl⟩
            have hR := hR v_10 ev_10
            refine lv_iinc (v := v_10) (lv' := [(1, .int v_10), (4, .int r_6), (3, .int r_4), (0, .ref (bd 0)), (2, .int (li 2))]) hx hb dX12_drawnOnce_79 hl (k := 3) rfl ev_10.symm (by decide) rfl (fun ls hl => ?_)
            exact ih.2.2 t_9 (uI (uI (uI li 1 v_10) 3 r_4) 4 r_6) lj H locs ls hR (lv_sub hl [3, 0, 4, 2, 1] rfl) h
          · have hR := hR.2 c_5
            refine lv_aload_n hx hb dX12_drawnOnce_27 rfl (lv_at hl 1 rfl) ?_
            refine x_get (ci := 12) (C := RX12) (T := TX12) (N := 31) (v := .ref (bd 19)) B h hin12 0 27 rfl rfl (by decide) (by decide +kernel) rfl dX12_drawnOnce_28 ?_
            refine lv_aload_n hx hb dX12_drawnOnce_31 rfl (lv_at hl 1 rfl) ?_
            refine lv_iload_n hx hb dX12_drawnOnce_32 rfl (lv_at hl 0 rfl) ?_
            refine x_cVIF (n := 1) (As := [.int r_4]) (rest := [.ref (bd 19)]) B h (wkX12_drawnOf l D cI cJ cB cZ bd k t_4 r_4 _ hR) ⟨⟨_, rfl⟩, by decide +kernel, Nat.le_of_ble_eq_true rfl, Nat.le_of_ble_eq_true rfl⟩ gX12_drawnOnce_X12_drawnOf (show ((wM cI cJ cB cZ bd t_4) : va_W)[0]? = some (_, .inr (12, _)) from rfl) rfl rfl hl.1 rfl (Nat.le_of_ble_eq_true rfl) dX12_drawnOnce_33 ⟨Nat.le_of_ble_eq_true rfl, Nat.le_of_ble_eq_true rfl⟩ (fun r_11 t_11 H locs hR h => ?_)
            obtain ⟨hb_12, hR⟩ := hR
            refine va_iald (f := (t_11.2.2.1 12)) hx hb B.2.1 h.1 19 0 rfl rfl hb_12 dX12_drawnOnce_36 ?_
            refine lv_topi (fun v_12 ev_12 => ?_)
            have hR := hR v_12 ev_12
            refine lv_istore (lv' := [(4, .int v_12), (3, .int r_4), (0, .ref (bd 0)), (1, .int (li 1)), (2, .int (li 2))]) hx hb dX12_drawnOnce_37 hl (by decide) rfl (fun ls hl => ?_)
            refine lv_aload_n hx hb dX12_drawnOnce_39 rfl (lv_at hl 2 rfl) ?_
            refine lv_iload hx hb dX12_drawnOnce_40 (lv_at hl 0 rfl) ?_
            refine lv_aload_n hx hb dX12_drawnOnce_42 rfl (lv_at hl 2 rfl) ?_
            refine lv_iload hx hb dX12_drawnOnce_43 (lv_at hl 0 rfl) ?_
            refine x_cVIF (n := 1) (As := [.int v_12]) (rest := [.int v_12, .ref (bd 0)]) B h (wkX12_onlyOver l D cI cJ cB cZ bd k t_11 v_12 _ hR) ⟨⟨_, rfl⟩, by decide +kernel, Nat.le_of_ble_eq_true rfl, Nat.le_of_ble_eq_true rfl⟩ gX12_drawnOnce_X12_onlyOver (show ((wM cI cJ cB cZ bd t_11) : va_W)[0]? = some (_, .inr (12, _)) from rfl) rfl rfl hl.1 rfl (Nat.le_of_ble_eq_true rfl) dX12_drawnOnce_45 ⟨Nat.le_of_ble_eq_true rfl, Nat.le_of_ble_eq_true rfl⟩ (fun r_13 t_13 H locs hR h => ?_)
            refine x_cVVF (n := 2) (As := [.int v_12, .int r_13]) (rest := []) B h (wkX12_closes l D cI cJ cB cZ bd k t_13 v_12 r_13 _ hR) ⟨⟨_, rfl⟩, by decide +kernel, Nat.le_of_ble_eq_true rfl, Nat.le_of_ble_eq_true rfl⟩ gX12_drawnOnce_X12_closes (show ((wM cI cJ cB cZ bd t_13) : va_W)[0]? = some (_, .inr (12, _)) from rfl) rfl rfl hl.1 rfl (Nat.le_of_ble_eq_true rfl) dX12_drawnOnce_48 ⟨Nat.le_of_ble_eq_true rfl, Nat.le_of_ble_eq_true rfl⟩ (fun t_14 H locs hR h => ?_)
            refine lv_goto (tgt := 82) hx hb dX12_drawnOnce_51 (by decide) ?_
            exact ih.2.2 t_14 (uI (uI li 3 r_4) 4 v_12) lj H locs ls hR (lv_sub hl [2, 3, 4, 1, 0] rfl) h
      · intro t li lj H locs ls hR hl h
        have hR : wbX12_drawnOnce_2 (wpX12_drawnOnce k) k t li lj Q := hR
        unfold wbX12_drawnOnce_2 at hR
        refine lv_aload_n hx hb dX12_drawnOnce_82 rfl (lv_at hl 0 rfl) ?_
        refine x_cVIF (n := 0) (As := []) (rest := []) B h (wkX12_openDim l D cI cJ cB cZ bd k t  _ hR) ⟨⟨_, rfl⟩, by decide +kernel, Nat.le_of_ble_eq_true rfl, Nat.le_of_ble_eq_true rfl⟩ gX12_drawnOnce_X12_openDim (show ((wM cI cJ cB cZ bd t) : va_W)[0]? = some (_, .inr (12, _)) from rfl) rfl rfl hl.1 rfl (Nat.le_of_ble_eq_true rfl) dX12_drawnOnce_83 ⟨Nat.le_of_ble_eq_true rfl, Nat.le_of_ble_eq_true rfl⟩ (fun r_15 t_15 H locs hR h => ?_)
        refine lv_istore_n (lv' := [(2, .int r_15), (0, .ref (bd 0)), (1, .int (li 1)), (3, .int (li 3)), (4, .int (li 4))]) hx hb dX12_drawnOnce_86 rfl hl (by decide) rfl (fun ls hl => ?_)
        refine lv_goto (tgt := 11) hx hb dX12_drawnOnce_87 (by decide) ?_
        exact ih.2.1 t_15 (uI li 2 r_15) lj H locs ls hR (lv_sub hl [1, 2, 0] rfl) h
  exact (main k).1 t _ _ s.heap [] ls hR hl h
set_option maxRecDepth 20000 in
theorem ggX12_drawn_X12_in : GoodIn wsX12_drawn wsX12_in := goodIn_r _ [15] (by decide +kernel) (by decide +kernel)
set_option maxRecDepth 20000 in
theorem gX12_drawn_X12_in : GoodIn wsX12_drawn (va_wsS RX12 101 yX12_in wsX12_in) := goodIn_app (goodIn_of _ (by decide +kernel)) ggX12_drawn_X12_in
set_option maxRecDepth 20000 in
theorem ggX12_drawn_X12_drawnOnce : GoodIn wsX12_drawn wsX12_drawnOnce := goodIn_r _ [19, 20, 21, 22, 23, 24, 14, 25, 1, 26, 27, 28, 29, 30, 3, 31, 32, 33, 34, 9, 10, 7, 11, 35, 36, 37, 38, 39, 40, 41, 42, 43, 44, 45, 46, 47, 48, 49, 50, 51, 52, 53, 54, 55, 56, 57, 58, 59, 60, 61, 62, 4, 63, 64, 65, 66, 67, 68, 69, 70, 71, 72, 73, 74, 75, 76, 77, 78, 79, 80, 81, 82, 83, 84, 85, 86, 87, 88, 89, 90, 91, 92, 93, 94, 95, 96, 97, 98, 99, 100, 101] (by decide +kernel) (by decide +kernel)
set_option maxRecDepth 20000 in
theorem gX12_drawn_X12_drawnOnce : GoodIn wsX12_drawn (wsV RX12 363 RX12 yX12_drawnOnce wsX12_drawnOnce) := goodIn_app (goodIn_of _ (by decide +kernel)) ggX12_drawn_X12_drawnOnce
def wbX12_drawn_0 (rec : Nat → XT → (Nat → Int32) → (Nat → Int64) → (Int32 → XT → Prop) → Prop) (k : Nat) (t : XT) (li : Nat → Int32) (lj : Nat → Int64) (Q : Int32 → XT → Prop) : Prop :=
  (((t.1 3) = 0) → rec 1 t li lj Q) ∧ (¬ ((t.1 3) = 0) → (wqX12_in k (li 1) 1 40 (fun r_2 => ((r_2 = 0) → rec 1 t li lj Q) ∧ (¬ (r_2 = 0) → (wqX12_in k (li 2) 0 2 (fun r_4 => ((¬ r_4 = 0) → rec 2 t (uI li 3 0) lj Q) ∧ ((r_4 = 0) → rec 1 t li lj Q)))))))
def wbX12_drawn_1 (rec : Nat → XT → (Nat → Int32) → (Nat → Int64) → (Int32 → XT → Prop) → Prop) (k : Nat) (t : XT) (li : Nat → Int32) (lj : Nat → Int64) (Q : Int32 → XT → Prop) : Prop :=
  Q (-1) t
def wbX12_drawn_2 (rec : Nat → XT → (Nat → Int32) → (Nat → Int64) → (Int32 → XT → Prop) → Prop) (k : Nat) (t : XT) (li : Nat → Int32) (lj : Nat → Int64) (Q : Int32 → XT → Prop) : Prop :=
  ((((t.1 3) : Int32) ≤ (li 3)) → rec 3 t (uI (uI (uI (uI (uI li 3 (t.1 8)) 4 61) 5 0) 6 0) 7 0) lj Q) ∧ (¬ (((t.1 3) : Int32) ≤ (li 3)) → (vp_in (li 3) 60 ∧ (∀ v_7 : Int32, v_7 = (t.2.2.1 4) (li 3).toNatClampNeg → (vp_in (li 3) 60 ∧ (∀ t_8 : XT, t_8 = sA t 13 (upd (t.2.2.1 13) (li 3).toNatClampNeg v_7) → (∀ v_9 : Int32, v_9 = (li 3) + Int32.ofInt 1 → rec 2 t_8 (uI li 3 v_9) lj Q))))))
def wbX12_drawn_3 (rec : Nat → XT → (Nat → Int32) → (Nat → Int64) → (Int32 → XT → Prop) → Prop) (k : Nat) (t : XT) (li : Nat → Int32) (lj : Nat → Int64) (Q : Int32 → XT → Prop) : Prop :=
  ((((li 1) : Int32) ≤ (li 7)) → (∀ t_11 : XT, t_11 = sI t 8 (li 3) → rec 5 t_11 (uI li 7 0) lj Q)) ∧ (¬ (((li 1) : Int32) ≤ (li 7)) → (wqX12_drawnOnce k t  (fun r_12 t_12 => ((((li 4) : Int32) ≤ r_12) → ((¬ r_12 = (li 4)) → rec 4 t_12 (uI (uI li 8 r_12) 100 (li 5)) lj Q) ∧ ((r_12 = (li 4)) → (∀ v_15 : Int32, v_15 = ((li 5) + 1) → rec 4 t_12 (uI (uI li 8 r_12) 100 v_15) lj Q))) ∧ (¬ (((li 4) : Int32) ≤ r_12) → rec 4 t_12 (uI (uI li 8 r_12) 100 1) lj Q))))
def wbX12_drawn_4 (rec : Nat → XT → (Nat → Int32) → (Nat → Int64) → (Int32 → XT → Prop) → Prop) (k : Nat) (t : XT) (li : Nat → Int32) (lj : Nat → Int64) (Q : Int32 → XT → Prop) : Prop :=
  (∀ v_16 : Int32, v_16 = (if (li 8) < (li 4) then (li 8) else (li 4)) → (∀ v_17 : Int32, v_17 = (if (li 6) < (li 8) then (li 8) else (li 6)) → (∀ v_18 : Int32, v_18 = (li 7) + Int32.ofInt 1 → rec 3 t (uI (uI (uI (uI li 4 v_16) 5 (li 100)) 6 v_17) 7 v_18) lj Q)))
def wbX12_drawn_5 (rec : Nat → XT → (Nat → Int32) → (Nat → Int64) → (Int32 → XT → Prop) → Prop) (k : Nat) (t : XT) (li : Nat → Int32) (lj : Nat → Int64) (Q : Int32 → XT → Prop) : Prop :=
  ((((t.1 3) : Int32) ≤ (li 7)) → ((¬ (li 2) = 0) → ((¬ (li 2) = 1) → Q (li 6) t) ∧ (((li 2) = 1) → Q (li 5) t)) ∧ (((li 2) = 0) → Q (li 4) t)) ∧ (¬ (((t.1 3) : Int32) ≤ (li 7)) → (vp_in (li 7) 60 ∧ (∀ v_22 : Int32, v_22 = (t.2.2.1 13) (li 7).toNatClampNeg → (vp_in (li 7) 60 ∧ (∀ t_23 : XT, t_23 = sA t 4 (upd (t.2.2.1 4) (li 7).toNatClampNeg v_22) → (∀ v_24 : Int32, v_24 = (li 7) + Int32.ofInt 1 → rec 5 t_23 (uI li 7 v_24) lj Q))))))
def wpX12_drawn : Nat → Nat → XT → (Nat → Int32) → (Nat → Int64) → (Int32 → XT → Prop) → Prop
  | 0, _, _, _, _, _ => False
  | k + 1, 0, t, li, lj, Q => wbX12_drawn_0 (wpX12_drawn k) k t li lj Q
  | k + 1, 1, t, li, lj, Q => wbX12_drawn_1 (wpX12_drawn k) k t li lj Q
  | k + 1, 2, t, li, lj, Q => wbX12_drawn_2 (wpX12_drawn k) k t li lj Q
  | k + 1, 3, t, li, lj, Q => wbX12_drawn_3 (wpX12_drawn k) k t li lj Q
  | k + 1, 4, t, li, lj, Q => wbX12_drawn_4 (wpX12_drawn k) k t li lj Q
  | k + 1, 5, t, li, lj, Q => wbX12_drawn_5 (wpX12_drawn k) k t li lj Q
  | _ + 1, _, _, _, _, _ => False
def wqX12_drawn (k : Nat) (t : XT) (a1 : Int32) (a2 : Int32) (Q : Int32 → XT → Prop) : Prop := wpX12_drawn k 0 t (uI (uI (fun _ => 0) 1 a1) 2 a2) (fun _ => 0) Q
set_option maxHeartbeats 8000000 in
set_option maxRecDepth 100000 in
theorem wkX12_drawn (l : Launch) (D : va_G) (cI cJ cB cZ : ClassId) (bd : Nat → Nat) (k : Nat) (t : XT) (a1 : Int32) (a2 : Int32) (Q : Int32 → XT → Prop) (hR : wqX12_drawn k t a1 a2 Q) : MetI l yX12_drawn wsX12_drawn 6 134 0 0 D (TYS cI cJ cB cZ) (wM cI cJ cB cZ bd t) [.ref (bd 0), .int a1, .int a2] (fun r u => Q r u) (fun u : XT => (wM cI cJ cB cZ bd u)) := by
  refine x_startI (ty := .int) (cc := cX12_drawn) (by decide) rfl (Nat.le_of_ble_eq_true rfl) ?_
  intro p e s m args below meth c A ls B hr hnm h hl
  have hx := B.1.1
  have hb := B.1.2.1
  have hml := B.1.2.2.1
  have hts := B.1.2.2.2.2
  have hown : s.vm.findClass RX12 = some m.cls := B.1.2.2.2.1
  have hin12 : ∀ w ∈ u_ws RX12 TX12 31, w ∈ wsX12_drawn := by decide +kernel
  have main : ∀ k : Nat, (∀ (t : XT) (li : Nat → Int32) (lj : Nat → Int64) (H : Heap) (locs : List Loc) (ls : Array Slot), wpX12_drawn k 0 t li lj Q → lv_has ls 9 [(0, .ref (bd 0)), (1, .int (li 1)), (2, .int (li 2))] → Hp D A s.heap (wM cI cJ cB cZ bd t) H locs → W p l e { frames := 6, cells := 0, slots := 0, locals := 134 } s m args below meth c H locs 0 0 (MQ below (va_Qi (fun r u => Q r u) (fun u t => xEnd D ((fun u : XT => (wM cI cJ cB cZ bd u)) u) A t) A) args s 0 0 A) (F0 m 0 ls [])) ∧
      (∀ (t : XT) (li : Nat → Int32) (lj : Nat → Int64) (H : Heap) (locs : List Loc) (ls : Array Slot), wpX12_drawn k 1 t li lj Q → lv_has ls 9 [(0, .ref (bd 0)), (1, .int (li 1)), (2, .int (li 2))] → Hp D A s.heap (wM cI cJ cB cZ bd t) H locs → W p l e { frames := 6, cells := 0, slots := 0, locals := 134 } s m args below meth c H locs 0 0 (MQ below (va_Qi (fun r u => Q r u) (fun u t => xEnd D ((fun u : XT => (wM cI cJ cB cZ bd u)) u) A t) A) args s 0 0 A) (F0 m 26 ls [])) ∧
      (∀ (t : XT) (li : Nat → Int32) (lj : Nat → Int64) (H : Heap) (locs : List Loc) (ls : Array Slot), wpX12_drawn k 2 t li lj Q → lv_has ls 9 [(0, .ref (bd 0)), (1, .int (li 1)), (2, .int (li 2)), (3, .int (li 3))] → Hp D A s.heap (wM cI cJ cB cZ bd t) H locs → W p l e { frames := 6, cells := 0, slots := 0, locals := 134 } s m args below meth c H locs 0 0 (MQ below (va_Qi (fun r u => Q r u) (fun u t => xEnd D ((fun u : XT => (wM cI cJ cB cZ bd u)) u) A t) A) args s 0 0 A) (F0 m 30 ls [])) ∧
      (∀ (t : XT) (li : Nat → Int32) (lj : Nat → Int64) (H : Heap) (locs : List Loc) (ls : Array Slot), wpX12_drawn k 3 t li lj Q → lv_has ls 9 [(0, .ref (bd 0)), (1, .int (li 1)), (2, .int (li 2)), (3, .int (li 3)), (4, .int (li 4)), (5, .int (li 5)), (6, .int (li 6)), (7, .int (li 7))] → Hp D A s.heap (wM cI cJ cB cZ bd t) H locs → W p l e { frames := 6, cells := 0, slots := 0, locals := 134 } s m args below meth c H locs 0 0 (MQ below (va_Qi (fun r u => Q r u) (fun u t => xEnd D ((fun u : XT => (wM cI cJ cB cZ bd u)) u) A t) A) args s 0 0 A) (F0 m 74 ls [])) ∧
      (∀ (t : XT) (li : Nat → Int32) (lj : Nat → Int64) (H : Heap) (locs : List Loc) (ls : Array Slot), wpX12_drawn k 4 t li lj Q → lv_has ls 9 [(0, .ref (bd 0)), (1, .int (li 1)), (2, .int (li 2)), (3, .int (li 3)), (4, .int (li 4)), (5, .int (li 5)), (6, .int (li 6)), (7, .int (li 7)), (8, .int (li 8))] → Hp D A s.heap (wM cI cJ cB cZ bd t) H locs → W p l e { frames := 6, cells := 0, slots := 0, locals := 134 } s m args below meth c H locs 0 0 (MQ below (va_Qi (fun r u => Q r u) (fun u t => xEnd D ((fun u : XT => (wM cI cJ cB cZ bd u)) u) A t) A) args s 0 0 A) (F0 m 113 ls [.int (li 100)])) ∧
      (∀ (t : XT) (li : Nat → Int32) (lj : Nat → Int64) (H : Heap) (locs : List Loc) (ls : Array Slot), wpX12_drawn k 5 t li lj Q → lv_has ls 9 [(0, .ref (bd 0)), (1, .int (li 1)), (2, .int (li 2)), (3, .int (li 3)), (4, .int (li 4)), (5, .int (li 5)), (6, .int (li 6)), (7, .int (li 7))] → Hp D A s.heap (wM cI cJ cB cZ bd t) H locs → W p l e { frames := 6, cells := 0, slots := 0, locals := 134 } s m args below meth c H locs 0 0 (MQ below (va_Qi (fun r u => Q r u) (fun u t => xEnd D ((fun u : XT => (wM cI cJ cB cZ bd u)) u) A t) A) args s 0 0 A) (F0 m 147 ls [])) := by
    intro k
    induction k with
    | zero => exact ⟨fun _ _ _ _ _ _ hR => False.elim hR, fun _ _ _ _ _ _ hR => False.elim hR, fun _ _ _ _ _ _ hR => False.elim hR, fun _ _ _ _ _ _ hR => False.elim hR, fun _ _ _ _ _ _ hR => False.elim hR, fun _ _ _ _ _ _ hR => False.elim hR⟩
    | succ k ih =>
      refine ⟨?_, ?_, ?_, ?_, ?_, ?_⟩
      · intro t li lj H locs ls hR hl h
        have hR : wbX12_drawn_0 (wpX12_drawn k) k t li lj Q := hR
        unfold wbX12_drawn_0 at hR
        refine lv_aload_n hx hb dX12_drawn_0 rfl (lv_at hl 0 rfl) ?_
        refine x_get (ci := 12) (C := RX12) (T := TX12) (N := 31) (v := .int (t.1 3)) B h hin12 0 5 rfl rfl (by decide) (by decide +kernel) rfl dX12_drawn_1 ?_
        refine lv_if_eq (tgt := 26) hx hb dX12_drawn_4 (by decide) (fun c_1 => ?_) (fun c_1 => ?_)
        · have hR := hR.1 c_1
          exact ih.2.1 t li lj H locs ls hR (lv_sub hl [0, 1, 2] rfl) h
        · have hR := hR.2 c_1
          refine lv_iload_n hx hb dX12_drawn_7 rfl (lv_at hl 1 rfl) ?_
          refine lv_iconst (v := 1) hx hb dX12_drawn_8 (by decide) ?_
          refine lv_bipush (v := 40) hx hb dX12_drawn_9 (by decide) ?_
          refine x_cSIE (n := 3) (As := [.int (li 1), .int 1, .int 40]) (rest := []) B h (wkX12_in l D cI cJ cB cZ bd k (li 1) 1 40 _ hR) ⟨⟨_, rfl⟩, by decide +kernel, Nat.le_of_ble_eq_true rfl, Nat.le_of_ble_eq_true rfl⟩ gX12_drawn_X12_in rfl hl.1 rfl (Nat.le_of_ble_eq_true rfl) dX12_drawn_11 ⟨Nat.le_of_ble_eq_true rfl, Nat.le_of_ble_eq_true rfl⟩ (fun r_2 _ H locs hR h => ?_)
          refine lv_if_eq (tgt := 26) hx hb dX12_drawn_14 (by decide) (fun c_3 => ?_) (fun c_3 => ?_)
          · have hR := hR.1 c_3
            exact ih.2.1 t li lj H locs ls hR (lv_sub hl [0, 1, 2] rfl) h
          · have hR := hR.2 c_3
            refine lv_iload_n hx hb dX12_drawn_17 rfl (lv_at hl 2 rfl) ?_
            refine lv_iconst (v := 0) hx hb dX12_drawn_18 (by decide) ?_
            refine lv_iconst (v := 2) hx hb dX12_drawn_19 (by decide) ?_
            refine x_cSIE (n := 3) (As := [.int (li 2), .int 0, .int 2]) (rest := []) B h (wkX12_in l D cI cJ cB cZ bd k (li 2) 0 2 _ hR) ⟨⟨_, rfl⟩, by decide +kernel, Nat.le_of_ble_eq_true rfl, Nat.le_of_ble_eq_true rfl⟩ gX12_drawn_X12_in rfl hl.1 rfl (Nat.le_of_ble_eq_true rfl) dX12_drawn_20 ⟨Nat.le_of_ble_eq_true rfl, Nat.le_of_ble_eq_true rfl⟩ (fun r_4 _ H locs hR h => ?_)
            refine lv_if_ne (tgt := 28) hx hb dX12_drawn_23 (by decide) (fun c_5 => ?_) (fun c_5 => ?_)
            · have hR := hR.1 c_5
              refine lv_iconst (v := 0) hx hb dX12_drawn_28 (by decide) ?_
              refine lv_istore_n (lv' := [(3, .int 0), (0, .ref (bd 0)), (1, .int (li 1)), (2, .int (li 2))]) hx hb dX12_drawn_29 rfl hl (by decide) rfl (fun ls hl => ?_)
              exact ih.2.2.1 t (uI li 3 0) lj H locs ls hR (lv_sub hl [1, 2, 3, 0] rfl) h
            · have hR := hR.2 c_5
              exact ih.2.1 t li lj H locs ls hR (lv_sub hl [0, 1, 2] rfl) h
      · intro t li lj H locs ls hR hl h
        have hR : wbX12_drawn_1 (wpX12_drawn k) k t li lj Q := hR
        unfold wbX12_drawn_1 at hR
        refine lv_iconst (v := (-1)) hx hb dX12_drawn_26 (by decide) ?_
        exact x_iret (w1 := (fun u : XT => (wM cI cJ cB cZ bd u))) t B h hr rfl hR dX12_drawn_27
      · intro t li lj H locs ls hR hl h
        have hR : wbX12_drawn_2 (wpX12_drawn k) k t li lj Q := hR
        unfold wbX12_drawn_2 at hR
        refine lv_iload_n hx hb dX12_drawn_30 rfl (lv_at hl 3 rfl) ?_
        refine lv_aload_n hx hb dX12_drawn_31 rfl (lv_at hl 0 rfl) ?_
        refine x_get (ci := 12) (C := RX12) (T := TX12) (N := 31) (v := .int (t.1 3)) B h hin12 0 5 rfl rfl (by decide) (by decide +kernel) rfl dX12_drawn_32 ?_
        refine lv_icmp_ge (tgt := 56) hx hb dX12_drawn_35 (by decide) (fun c_6 => ?_) (fun c_6 => ?_)
        · have hR := hR.1 c_6
          refine lv_aload_n hx hb dX12_drawn_56 rfl (lv_at hl 0 rfl) ?_
          refine x_get (ci := 12) (C := RX12) (T := TX12) (N := 31) (v := .int (t.1 8)) B h hin12 0 26 rfl rfl (by decide) (by decide +kernel) rfl dX12_drawn_57 ?_
          refine lv_istore_n (lv' := [(3, .int (t.1 8)), (0, .ref (bd 0)), (1, .int (li 1)), (2, .int (li 2))]) hx hb dX12_drawn_60 rfl hl (by decide) rfl (fun ls hl => ?_)
          refine lv_bipush (v := 61) hx hb dX12_drawn_61 (by decide) ?_
          refine lv_istore (lv' := [(4, .int 61), (3, .int (t.1 8)), (0, .ref (bd 0)), (1, .int (li 1)), (2, .int (li 2))]) hx hb dX12_drawn_63 hl (by decide) rfl (fun ls hl => ?_)
          refine lv_iconst (v := 0) hx hb dX12_drawn_65 (by decide) ?_
          refine lv_istore (lv' := [(5, .int 0), (4, .int 61), (3, .int (t.1 8)), (0, .ref (bd 0)), (1, .int (li 1)), (2, .int (li 2))]) hx hb dX12_drawn_66 hl (by decide) rfl (fun ls hl => ?_)
          refine lv_iconst (v := 0) hx hb dX12_drawn_68 (by decide) ?_
          refine lv_istore (lv' := [(6, .int 0), (5, .int 0), (4, .int 61), (3, .int (t.1 8)), (0, .ref (bd 0)), (1, .int (li 1)), (2, .int (li 2))]) hx hb dX12_drawn_69 hl (by decide) rfl (fun ls hl => ?_)
          refine lv_iconst (v := 0) hx hb dX12_drawn_71 (by decide) ?_
          refine lv_istore (lv' := [(7, .int 0), (6, .int 0), (5, .int 0), (4, .int 61), (3, .int (t.1 8)), (0, .ref (bd 0)), (1, .int (li 1)), (2, .int (li 2))]) hx hb dX12_drawn_72 hl (by decide) rfl (fun ls hl => ?_)
          exact ih.2.2.2.1 t (uI (uI (uI (uI (uI li 3 (t.1 8)) 4 61) 5 0) 6 0) 7 0) lj H locs ls hR (lv_sub hl [5, 6, 7, 4, 3, 2, 1, 0] rfl) h
        · have hR := hR.2 c_6
          refine lv_aload_n hx hb dX12_drawn_38 rfl (lv_at hl 0 rfl) ?_
          refine x_get (ci := 12) (C := RX12) (T := TX12) (N := 31) (v := .ref (bd 20)) B h hin12 0 28 rfl rfl (by decide) (by decide +kernel) rfl dX12_drawn_39 ?_
          refine lv_iload_n hx hb dX12_drawn_42 rfl (lv_at hl 3 rfl) ?_
          refine lv_aload_n hx hb dX12_drawn_43 rfl (lv_at hl 0 rfl) ?_
          refine x_get (ci := 12) (C := RX12) (T := TX12) (N := 31) (v := .ref (bd 5)) B h hin12 0 8 rfl rfl (by decide) (by decide +kernel) rfl dX12_drawn_44 ?_
          refine lv_iload_n hx hb dX12_drawn_47 rfl (lv_at hl 3 rfl) ?_
          obtain ⟨hb_7, hR⟩ := hR
          refine va_iald (f := (t.2.2.1 4)) hx hb B.2.1 h.1 5 0 rfl rfl hb_7 dX12_drawn_48 ?_
          refine lv_topi (fun v_7 ev_7 => ?_)
          have hR := hR v_7 ev_7
          obtain ⟨hb_8, hR⟩ := hR
          refine z_iast (f := (t.2.2.1 13)) B h 20 0 rfl rfl hb_8 dX12_drawn_49 (fun H locs h => ?_)
          obtain ⟨t_8, et_8⟩ : ∃ v : XT, v = sA t 13 (upd (t.2.2.1 13) (li 3).toNatClampNeg v_7) := ⟨_, rfl⟩
          have hR := hR t_8 et_8
          have h : Hp D A s.heap (wM cI cJ cB cZ bd t_8) H locs := by rw [et_8]; exact h
          obtain ⟨v_9, ev_9⟩ : ∃ v : Int32, v = (li 3) + Int32.ofInt 1 := ⟨_, rfl⟩
          have hR := hR v_9 ev_9
          refine lv_iinc (v := v_9) (lv' := [(3, .int v_9), (0, .ref (bd 0)), (1, .int (li 1)), (2, .int (li 2))]) hx hb dX12_drawn_50 hl (k := 3) rfl ev_9.symm (by decide) rfl (fun ls hl => ?_)
          refine lv_goto (tgt := 30) hx hb dX12_drawn_53 (by decide) ?_
          exact ih.2.2.1 t_8 (uI li 3 v_9) lj H locs ls hR (lv_sub hl [1, 2, 3, 0] rfl) h
      · intro t li lj H locs ls hR hl h
        have hR : wbX12_drawn_3 (wpX12_drawn k) k t li lj Q := hR
        unfold wbX12_drawn_3 at hR
        refine lv_iload hx hb dX12_drawn_74 (lv_at hl 7 rfl) ?_
        refine lv_iload_n hx hb dX12_drawn_76 rfl (lv_at hl 1 rfl) ?_
        refine lv_icmp_ge (tgt := 139) hx hb dX12_drawn_77 (by decide) (fun c_10 => ?_) (fun c_10 => ?_)
        · have hR := hR.1 c_10
          refine lv_aload_n hx hb dX12_drawn_139 rfl (lv_at hl 0 rfl) ?_
          refine lv_iload_n hx hb dX12_drawn_140 rfl (lv_at hl 3 rfl) ?_
          refine x_put (ci := 12) (C := RX12) (T := TX12) (N := 31) (v := .int (li 3)) (ty := .int) B h hin12 tyX12 tyX12_ok nmX12 0 26 rfl rfl (by decide) (by decide +kernel) rfl rfl rfl rfl (Nat.le_of_ble_eq_true rfl) dX12_drawn_141 (fun H locs h => ?_)
          obtain ⟨t_11, et_11⟩ : ∃ v : XT, v = sI t 8 (li 3) := ⟨_, rfl⟩
          have hR := hR t_11 et_11
          have h : Hp D A s.heap (wM cI cJ cB cZ bd t_11) H locs := by rw [et_11]; exact h
          refine lv_iconst (v := 0) hx hb dX12_drawn_144 (by decide) ?_
          refine lv_istore (lv' := [(7, .int 0), (0, .ref (bd 0)), (1, .int (li 1)), (2, .int (li 2)), (3, .int (li 3)), (4, .int (li 4)), (5, .int (li 5)), (6, .int (li 6))]) hx hb dX12_drawn_145 hl (by decide) rfl (fun ls hl => ?_)
          exact ih.2.2.2.2.2 t_11 (uI li 7 0) lj H locs ls hR (lv_sub hl [1, 2, 3, 4, 5, 6, 7, 0] rfl) h
        · have hR := hR.2 c_10
          refine lv_aload_n hx hb dX12_drawn_80 rfl (lv_at hl 0 rfl) ?_
          refine x_cVIF (n := 0) (As := []) (rest := []) B h (wkX12_drawnOnce l D cI cJ cB cZ bd k t  _ hR) ⟨⟨_, rfl⟩, by decide +kernel, Nat.le_of_ble_eq_true rfl, Nat.le_of_ble_eq_true rfl⟩ gX12_drawn_X12_drawnOnce (show ((wM cI cJ cB cZ bd t) : va_W)[0]? = some (_, .inr (12, _)) from rfl) rfl rfl hl.1 rfl (Nat.le_of_ble_eq_true rfl) dX12_drawn_81 ⟨Nat.le_of_ble_eq_true rfl, Nat.le_of_ble_eq_true rfl⟩ (fun r_12 t_12 H locs hR h => ?_)
          refine lv_istore (lv' := [(8, .int r_12), (0, .ref (bd 0)), (1, .int (li 1)), (2, .int (li 2)), (3, .int (li 3)), (4, .int (li 4)), (5, .int (li 5)), (6, .int (li 6)), (7, .int (li 7))]) hx hb dX12_drawn_84 hl (by decide) rfl (fun ls hl => ?_)
          refine lv_iload hx hb dX12_drawn_86 (lv_at hl 0 rfl) ?_
          refine lv_iload hx hb dX12_drawn_88 (lv_at hl 5 rfl) ?_
          refine lv_icmp_ge (tgt := 97) hx hb dX12_drawn_90 (by decide) (fun c_13 => ?_) (fun c_13 => ?_)
          · have hR := hR.1 c_13
            refine lv_iload hx hb dX12_drawn_97 (lv_at hl 0 rfl) ?_
            refine lv_iload hx hb dX12_drawn_99 (lv_at hl 5 rfl) ?_
            refine lv_icmp_ne (tgt := 111) hx hb dX12_drawn_101 (by decide) (fun c_14 => ?_) (fun c_14 => ?_)
            · have hR := hR.1 c_14
              refine lv_iload hx hb dX12_drawn_111 (lv_at hl 6 rfl) ?_
              exact ih.2.2.2.2.1 t_12 (uI (uI li 8 r_12) 100 (li 5)) lj H locs ls hR (lv_sub hl [1, 2, 3, 4, 5, 6, 7, 8, 0] rfl) h
            · have hR := hR.2 c_14
              refine lv_iload hx hb dX12_drawn_104 (lv_at hl 6 rfl) ?_
              refine lv_iconst (v := 1) hx hb dX12_drawn_106 (by decide) ?_
              refine lv_iadd hx hb dX12_drawn_107 ?_
              refine lv_topi (fun v_15 ev_15 => ?_)
              have hR := hR v_15 ev_15
              refine lv_goto (tgt := 113) hx hb dX12_drawn_108 (by decide) ?_
              exact ih.2.2.2.2.1 t_12 (uI (uI li 8 r_12) 100 v_15) lj H locs ls hR (lv_sub hl [1, 2, 3, 4, 5, 6, 7, 8, 0] rfl) h
          · have hR := hR.2 c_13
            refine lv_iconst (v := 1) hx hb dX12_drawn_93 (by decide) ?_
            refine lv_goto (tgt := 113) hx hb dX12_drawn_94 (by decide) ?_
            exact ih.2.2.2.2.1 t_12 (uI (uI li 8 r_12) 100 1) lj H locs ls hR (lv_sub hl [1, 2, 3, 4, 5, 6, 7, 8, 0] rfl) h
      · intro t li lj H locs ls hR hl h
        have hR : wbX12_drawn_4 (wpX12_drawn k) k t li lj Q := hR
        unfold wbX12_drawn_4 at hR
        refine lv_istore (lv' := [(5, .int (li 100)), (0, .ref (bd 0)), (1, .int (li 1)), (2, .int (li 2)), (3, .int (li 3)), (4, .int (li 4)), (6, .int (li 6)), (7, .int (li 7)), (8, .int (li 8))]) hx hb dX12_drawn_113 hl (by decide) rfl (fun ls hl => ?_)
        refine lv_iload hx hb dX12_drawn_115 (lv_at hl 5 rfl) ?_
        refine lv_iload hx hb dX12_drawn_117 (lv_at hl 8 rfl) ?_
        refine va_mmin hx hb (hml.trans hl.1.symm) hown (hts (.methodLink RX12 337 Lib.Math.min.name) (by decide +kernel)) (hts (.static Lib.Math.min.name) (by decide +kernel)) (hts (.initialized "java/lang/Math") (by decide +kernel)) (hts (.code Lib.Math.min.name Lib.Math.min.code 2 (some .int)) (by decide +kernel)) (Nat.le_of_ble_eq_true rfl) (Nat.le_of_ble_eq_true rfl) (Nat.le_of_ble_eq_true rfl) (Nat.le_of_ble_eq_true rfl) dX12_drawn_119 ?_
        refine lv_topi (fun v_16 ev_16 => ?_)
        have hR := hR v_16 ev_16
        refine lv_istore (lv' := [(4, .int v_16), (5, .int (li 100)), (0, .ref (bd 0)), (1, .int (li 1)), (2, .int (li 2)), (3, .int (li 3)), (6, .int (li 6)), (7, .int (li 7)), (8, .int (li 8))]) hx hb dX12_drawn_122 hl (by decide) rfl (fun ls hl => ?_)
        refine lv_iload hx hb dX12_drawn_124 (lv_at hl 6 rfl) ?_
        refine lv_iload hx hb dX12_drawn_126 (lv_at hl 8 rfl) ?_
        refine va_mmax hx hb (hml.trans hl.1.symm) hown (hts (.methodLink RX12 350 Lib.Math.max.name) (by decide +kernel)) (hts (.static Lib.Math.max.name) (by decide +kernel)) (hts (.initialized "java/lang/Math") (by decide +kernel)) (hts (.code Lib.Math.max.name Lib.Math.max.code 2 (some .int)) (by decide +kernel)) (Nat.le_of_ble_eq_true rfl) (Nat.le_of_ble_eq_true rfl) (Nat.le_of_ble_eq_true rfl) (Nat.le_of_ble_eq_true rfl) dX12_drawn_128 ?_
        refine lv_topi (fun v_17 ev_17 => ?_)
        have hR := hR v_17 ev_17
        refine lv_istore (lv' := [(6, .int v_17), (4, .int v_16), (5, .int (li 100)), (0, .ref (bd 0)), (1, .int (li 1)), (2, .int (li 2)), (3, .int (li 3)), (7, .int (li 7)), (8, .int (li 8))]) hx hb dX12_drawn_131 hl (by decide) rfl (fun ls hl => ?_)
        obtain ⟨v_18, ev_18⟩ : ∃ v : Int32, v = (li 7) + Int32.ofInt 1 := ⟨_, rfl⟩
        have hR := hR v_18 ev_18
        refine lv_iinc (v := v_18) (lv' := [(7, .int v_18), (6, .int v_17), (4, .int v_16), (5, .int (li 100)), (0, .ref (bd 0)), (1, .int (li 1)), (2, .int (li 2)), (3, .int (li 3)), (8, .int (li 8))]) hx hb dX12_drawn_133 hl (k := 7) rfl ev_18.symm (by decide) rfl (fun ls hl => ?_)
        refine lv_goto (tgt := 74) hx hb dX12_drawn_136 (by decide) ?_
        exact ih.2.2.2.1 t (uI (uI (uI (uI li 4 v_16) 5 (li 100)) 6 v_17) 7 v_18) lj H locs ls hR (lv_sub hl [4, 5, 6, 7, 2, 3, 1, 0] rfl) h
      · intro t li lj H locs ls hR hl h
        have hR : wbX12_drawn_5 (wpX12_drawn k) k t li lj Q := hR
        unfold wbX12_drawn_5 at hR
        refine lv_iload hx hb dX12_drawn_147 (lv_at hl 7 rfl) ?_
        refine lv_aload_n hx hb dX12_drawn_149 rfl (lv_at hl 0 rfl) ?_
        refine x_get (ci := 12) (C := RX12) (T := TX12) (N := 31) (v := .int (t.1 3)) B h hin12 0 5 rfl rfl (by decide) (by decide +kernel) rfl dX12_drawn_150 ?_
        refine lv_icmp_ge (tgt := 176) hx hb dX12_drawn_153 (by decide) (fun c_19 => ?_) (fun c_19 => ?_)
        · have hR := hR.1 c_19
          refine lv_iload_n hx hb dX12_drawn_176 rfl (lv_at hl 2 rfl) ?_
          refine lv_if_ne (tgt := 185) hx hb dX12_drawn_177 (by decide) (fun c_20 => ?_) (fun c_20 => ?_)
          · have hR := hR.1 c_20
            refine lv_iload_n hx hb dX12_drawn_185 rfl (lv_at hl 2 rfl) ?_
            refine lv_iconst (v := 1) hx hb dX12_drawn_186 (by decide) ?_
            refine lv_icmp_ne (tgt := 195) hx hb dX12_drawn_187 (by decide) (fun c_21 => ?_) (fun c_21 => ?_)
            · have hR := hR.1 c_21
              refine lv_iload hx hb dX12_drawn_195 (lv_at hl 6 rfl) ?_
              exact x_iret (w1 := (fun u : XT => (wM cI cJ cB cZ bd u))) t B h hr rfl hR dX12_drawn_197
            · have hR := hR.2 c_21
              refine lv_iload hx hb dX12_drawn_190 (lv_at hl 5 rfl) ?_
              refine lv_goto (tgt := 197) hx hb dX12_drawn_192 (by decide) ?_
              exact x_iret (w1 := (fun u : XT => (wM cI cJ cB cZ bd u))) t B h hr rfl hR dX12_drawn_197
          · have hR := hR.2 c_20
            refine lv_iload hx hb dX12_drawn_180 (lv_at hl 4 rfl) ?_
            refine lv_goto (tgt := 197) hx hb dX12_drawn_182 (by decide) ?_
            exact x_iret (w1 := (fun u : XT => (wM cI cJ cB cZ bd u))) t B h hr rfl hR dX12_drawn_197
        · have hR := hR.2 c_19
          refine lv_aload_n hx hb dX12_drawn_156 rfl (lv_at hl 0 rfl) ?_
          refine x_get (ci := 12) (C := RX12) (T := TX12) (N := 31) (v := .ref (bd 5)) B h hin12 0 8 rfl rfl (by decide) (by decide +kernel) rfl dX12_drawn_157 ?_
          refine lv_iload hx hb dX12_drawn_160 (lv_at hl 7 rfl) ?_
          refine lv_aload_n hx hb dX12_drawn_162 rfl (lv_at hl 0 rfl) ?_
          refine x_get (ci := 12) (C := RX12) (T := TX12) (N := 31) (v := .ref (bd 20)) B h hin12 0 28 rfl rfl (by decide) (by decide +kernel) rfl dX12_drawn_163 ?_
          refine lv_iload hx hb dX12_drawn_166 (lv_at hl 7 rfl) ?_
          obtain ⟨hb_22, hR⟩ := hR
          refine va_iald (f := (t.2.2.1 13)) hx hb B.2.1 h.1 20 0 rfl rfl hb_22 dX12_drawn_168 ?_
          refine lv_topi (fun v_22 ev_22 => ?_)
          have hR := hR v_22 ev_22
          obtain ⟨hb_23, hR⟩ := hR
          refine z_iast (f := (t.2.2.1 4)) B h 5 0 rfl rfl hb_23 dX12_drawn_169 (fun H locs h => ?_)
          obtain ⟨t_23, et_23⟩ : ∃ v : XT, v = sA t 4 (upd (t.2.2.1 4) (li 7).toNatClampNeg v_22) := ⟨_, rfl⟩
          have hR := hR t_23 et_23
          have h : Hp D A s.heap (wM cI cJ cB cZ bd t_23) H locs := by rw [et_23]; exact h
          obtain ⟨v_24, ev_24⟩ : ∃ v : Int32, v = (li 7) + Int32.ofInt 1 := ⟨_, rfl⟩
          have hR := hR v_24 ev_24
          refine lv_iinc (v := v_24) (lv' := [(7, .int v_24), (0, .ref (bd 0)), (1, .int (li 1)), (2, .int (li 2)), (3, .int (li 3)), (4, .int (li 4)), (5, .int (li 5)), (6, .int (li 6))]) hx hb dX12_drawn_170 hl (k := 7) rfl ev_24.symm (by decide) rfl (fun ls hl => ?_)
          refine lv_goto (tgt := 147) hx hb dX12_drawn_173 (by decide) ?_
          exact ih.2.2.2.2.2 t_23 (uI li 7 v_24) lj H locs ls hR (lv_sub hl [1, 2, 3, 4, 5, 6, 7, 0] rfl) h
  exact (main k).1 t _ _ s.heap [] ls hR hl h
