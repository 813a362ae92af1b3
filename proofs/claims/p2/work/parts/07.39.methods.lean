set_option maxRecDepth 20000 in
theorem ggX1_goUp_X9_signOf : GoodIn wsX1_goUp wsX9_signOf := goodIn_r _ [9, 10, 11, 12, 13, 14, 15, 16, 17, 18, 19, 20, 21, 35, 36, 37, 38, 39, 40, 41] (by decide +kernel) (by decide +kernel)
set_option maxRecDepth 20000 in
theorem gX1_goUp_X9_signOf : GoodIn wsX1_goUp (wsV RX1 78 RX9 yX9_signOf wsX9_signOf) := goodIn_app (goodIn_of _ (by decide +kernel)) ggX1_goUp_X9_signOf
def wbX1_goUp_0 (rec : Nat → XT → (Nat → Int32) → (Nat → Int64) → (XT → Prop) → Prop) (k : Nat) (t : XT) (li : Nat → Int32) (lj : Nat → Int64) (Q : XT → Prop) : Prop :=
  (vp_in (li 1) 64 ∧ (∀ v_1 : Int32, v_1 = (t.2.2.1 5) (li 1).toNatClampNeg → ((((li 1) : Int32) < v_1) → (vp_in v_1 64 ∧ (∀ v_3 : Int64, v_3 = (t.2.2.2 3) v_1.toNatClampNeg → (((li 2) = 0) → (vp_in (li 1) 64 ∧ (∀ v_5 : Int64, v_5 = (t.2.2.2 3) (li 1).toNatClampNeg → rec 1 t (uI (uI li 3 v_1) 101 v_1) (uI (uI lj 103 v_5) 102 v_3) Q))) ∧ (¬ ((li 2) = 0) → (vp_in (li 1) 64 ∧ (∀ v_6 : Int64, v_6 = (t.2.2.2 3) (li 1).toNatClampNeg → (∀ v_7 : Int64, v_7 = (-v_6) → (wqX9_signOf k t (li 1) v_1 (fun r_8 t_8 => (∀ v_9 : Int64, v_9 = r_8.toInt64 → (∀ v_10 : Int64, v_10 = (v_7 * v_9) → rec 1 t_8 (uI (uI li 3 v_1) 101 v_1) (uI (uI lj 103 v_10) 102 v_3) Q))))))))))) ∧ (¬ (((li 1) : Int32) < v_1) → Q t)))
def wbX1_goUp_1 (rec : Nat → XT → (Nat → Int32) → (Nat → Int64) → (XT → Prop) → Prop) (k : Nat) (t : XT) (li : Nat → Int32) (lj : Nat → Int64) (Q : XT → Prop) : Prop :=
  (∀ v_11 : Int64, v_11 = ((lj 102) + (lj 103)) → (vp_in (li 101) 64 ∧ (∀ t_12 : XT, t_12 = sB t 3 (vp_updL (t.2.2.2 3) (li 101).toNatClampNeg v_11) → Q t_12)))
def wpX1_goUp : Nat → Nat → XT → (Nat → Int32) → (Nat → Int64) → (XT → Prop) → Prop
  | 0, _, _, _, _, _ => False
  | k + 1, 0, t, li, lj, Q => wbX1_goUp_0 (wpX1_goUp k) k t li lj Q
  | k + 1, 1, t, li, lj, Q => wbX1_goUp_1 (wpX1_goUp k) k t li lj Q
  | _ + 1, _, _, _, _, _ => False
def wqX1_goUp (k : Nat) (t : XT) (a1 : Int32) (a2 : Int32) (Q : XT → Prop) : Prop := wpX1_goUp k 0 t (uI (uI (fun _ => 0) 1 a1) 2 a2) (fun _ => 0) Q
set_option maxHeartbeats 8000000 in
set_option maxRecDepth 100000 in
theorem wkX1_goUp (l : Launch) (D : va_G) (cI cJ cB cZ : ClassId) (ad : Nat → Nat) (k : Nat) (t : XT) (a1 : Int32) (a2 : Int32) (Q : XT → Prop) (hR : wqX1_goUp k t a1 a2 Q) : MetV l yX1_goUp wsX1_goUp 2 46 0 0 D (TYS cI cJ cB cZ) (wX cI cJ cB cZ ad t) [.ref (ad 7), .int a1, .int a2] (fun u => Q u) (fun u : XT => (wX cI cJ cB cZ ad u)) := by
  refine x_startV (ty := .int) (cc := cX1_goUp) (by decide) rfl (Nat.le_of_ble_eq_true rfl) ?_
  intro p e s m args below meth c A ls B hr hnm h hl
  have hx := B.1.1
  have hb := B.1.2.1
  have hml := B.1.2.2.1
  have hts := B.1.2.2.2.2
  have hown : s.vm.findClass RX1 = some m.cls := B.1.2.2.2.1
  have hin1 : ∀ w ∈ u_ws RX1 TX1 7, w ∈ wsX1_goUp := by decide +kernel
  have hin6 : ∀ w ∈ u_ws RX6 TX6 6, w ∈ wsX1_goUp := by decide +kernel
  have main : ∀ k : Nat, (∀ (t : XT) (li : Nat → Int32) (lj : Nat → Int64) (H : Heap) (locs : List Loc) (ls : Array Slot), wpX1_goUp k 0 t li lj Q → lv_has ls 4 [(0, .ref (ad 7)), (1, .int (li 1)), (2, .int (li 2))] → Hp D A s.heap (wX cI cJ cB cZ ad t) H locs → W p l e { frames := 2, cells := 0, slots := 0, locals := 46 } s m args below meth c H locs 0 0 (MQ below (va_Qv (fun u => Q u) (fun u t => xEnd D ((fun u : XT => (wX cI cJ cB cZ ad u)) u) A t) A) args s 0 0 A) (F0 m 0 ls [])) ∧
      (∀ (t : XT) (li : Nat → Int32) (lj : Nat → Int64) (H : Heap) (locs : List Loc) (ls : Array Slot), wpX1_goUp k 1 t li lj Q → lv_has ls 4 [(0, .ref (ad 7)), (1, .int (li 1)), (2, .int (li 2)), (3, .int (li 3))] → Hp D A s.heap (wX cI cJ cB cZ ad t) H locs → W p l e { frames := 2, cells := 0, slots := 0, locals := 46 } s m args below meth c H locs 0 0 (MQ below (va_Qv (fun u => Q u) (fun u t => xEnd D ((fun u : XT => (wX cI cJ cB cZ ad u)) u) A t) A) args s 0 0 A) (F0 m 54 ls [.long (lj 103), .long (lj 102), .int (li 101), .ref (ad 23)])) := by
    intro k
    induction k with
    | zero => exact ⟨fun _ _ _ _ _ _ hR => False.elim hR, fun _ _ _ _ _ _ hR => False.elim hR⟩
    | succ k ih =>
      refine ⟨?_, ?_⟩
      · intro t li lj H locs ls hR hl h
        have hR : wbX1_goUp_0 (wpX1_goUp k) k t li lj Q := hR
        unfold wbX1_goUp_0 at hR
        refine lv_aload_n hx hb dX1_goUp_0 rfl (lv_at hl 0 rfl) ?_
        refine x_get (ci := 1) (C := RX1) (T := TX1) (N := 7) (v := .ref (ad 4)) B h hin1 7 1 rfl rfl (by decide) (by decide +kernel) rfl dX1_goUp_1 ?_
        refine x_get (ci := 6) (C := RX6) (T := TX6) (N := 6) (v := .ref (ad 20)) B h hin6 4 1 rfl rfl (by decide) (by decide +kernel) rfl dX1_goUp_4 ?_
        refine lv_iload_n hx hb dX1_goUp_7 rfl (lv_at hl 1 rfl) ?_
        obtain ⟨hb_1, hR⟩ := hR
        refine va_iald (f := (t.2.2.1 5)) hx hb B.2.1 h.1 20 0 rfl rfl hb_1 dX1_goUp_8 ?_
        refine lv_topi (fun v_1 ev_1 => ?_)
        have hR := hR v_1 ev_1
        refine lv_istore_n (lv' := [(3, .int v_1), (0, .ref (ad 7)), (1, .int (li 1)), (2, .int (li 2))]) hx hb dX1_goUp_9 rfl hl (by decide) rfl (fun ls hl => ?_)
        refine lv_iload_n hx hb dX1_goUp_10 rfl (lv_at hl 0 rfl) ?_
        refine lv_iload_n hx hb dX1_goUp_11 rfl (lv_at hl 2 rfl) ?_
        refine lv_icmp_gt (tgt := 16) hx hb dX1_goUp_12 (by decide) (fun c_2 => ?_) (fun c_2 => ?_)
        · have hR := hR.1 c_2
          refine lv_aload_n hx hb dX1_goUp_16 rfl (lv_at hl 1 rfl) ?_
          refine x_get (ci := 1) (C := RX1) (T := TX1) (N := 7) (v := .ref (ad 23)) B h hin1 7 3 rfl rfl (by decide) (by decide +kernel) rfl dX1_goUp_17 ?_
          refine lv_iload_n hx hb dX1_goUp_20 rfl (lv_at hl 0 rfl) ?_
          refine lv_dup2_11 hx hb dX1_goUp_21 rfl rfl ?_
          obtain ⟨hb_3, hR⟩ := hR
          refine va_lald (f := (t.2.2.2 3)) hx hb B.2.1 h.1 23 1 rfl rfl hb_3 dX1_goUp_22 ?_
          refine lv_topl (fun v_3 ev_3 => ?_)
          have hR := hR v_3 ev_3
          refine lv_iload_n hx hb dX1_goUp_23 rfl (lv_at hl 3 rfl) ?_
          refine lv_if_eq (tgt := 48) hx hb dX1_goUp_24 (by decide) (fun c_4 => ?_) (fun c_4 => ?_)
          · have hR := hR.1 c_4
            refine lv_aload_n hx hb dX1_goUp_48 rfl (lv_at hl 1 rfl) ?_
            refine x_get (ci := 1) (C := RX1) (T := TX1) (N := 7) (v := .ref (ad 23)) B h hin1 7 3 rfl rfl (by decide) (by decide +kernel) rfl dX1_goUp_49 ?_
            refine lv_iload_n hx hb dX1_goUp_52 rfl (lv_at hl 2 rfl) ?_
            obtain ⟨hb_5, hR⟩ := hR
            refine va_lald (f := (t.2.2.2 3)) hx hb B.2.1 h.1 23 1 rfl rfl hb_5 dX1_goUp_53 ?_
            refine lv_topl (fun v_5 ev_5 => ?_)
            have hR := hR v_5 ev_5
            exact ih.2 t (uI (uI li 3 v_1) 101 v_1) (uI (uI lj 103 v_5) 102 v_3) H locs ls hR (lv_sub hl [1, 2, 3, 0] rfl) h
          · have hR := hR.2 c_4
            refine lv_aload_n hx hb dX1_goUp_27 rfl (lv_at hl 1 rfl) ?_
            refine x_get (ci := 1) (C := RX1) (T := TX1) (N := 7) (v := .ref (ad 23)) B h hin1 7 3 rfl rfl (by decide) (by decide +kernel) rfl dX1_goUp_28 ?_
            refine lv_iload_n hx hb dX1_goUp_31 rfl (lv_at hl 2 rfl) ?_
            obtain ⟨hb_6, hR⟩ := hR
            refine va_lald (f := (t.2.2.2 3)) hx hb B.2.1 h.1 23 1 rfl rfl hb_6 dX1_goUp_32 ?_
            refine lv_topl (fun v_6 ev_6 => ?_)
            have hR := hR v_6 ev_6
            refine lv_lneg hx hb dX1_goUp_33 ?_
            refine lv_topl (fun v_7 ev_7 => ?_)
            have hR := hR v_7 ev_7
            refine lv_aload_n hx hb dX1_goUp_34 rfl (lv_at hl 1 rfl) ?_
            refine x_get (ci := 1) (C := RX1) (T := TX1) (N := 7) (v := .ref (ad 3)) B h hin1 7 0 rfl rfl (by decide) (by decide +kernel) rfl dX1_goUp_35 ?_
            refine lv_iload_n hx hb dX1_goUp_38 rfl (lv_at hl 2 rfl) ?_
            refine lv_iload_n hx hb dX1_goUp_39 rfl (lv_at hl 0 rfl) ?_
            refine x_cVIF (n := 2) (As := [.int (li 1), .int v_1]) (rest := [.long v_7, .long v_3, .int v_1, .ref (ad 23)]) B h (wkX9_signOf l D cI cJ cB cZ ad k t (li 1) v_1 _ hR) ⟨⟨_, rfl⟩, by decide +kernel, Nat.le_of_ble_eq_true rfl, Nat.le_of_ble_eq_true rfl⟩ gX1_goUp_X9_signOf (show ((wX cI cJ cB cZ ad t) : va_W)[3]? = some (_, .inr (9, _)) from rfl) rfl rfl hl.1 rfl (Nat.le_of_ble_eq_true rfl) dX1_goUp_40 ⟨Nat.le_of_ble_eq_true rfl, Nat.le_of_ble_eq_true rfl⟩ (fun r_8 t_8 H locs hR h => ?_)
            obtain ⟨v_9, ev_9⟩ : ∃ v : Int64, v = r_8.toInt64 := ⟨_, rfl⟩
            have hR := hR v_9 ev_9
            refine lv_i2l (v := v_9) hx hb dX1_goUp_43 ev_9.symm ?_
            refine lv_lmul hx hb dX1_goUp_44 ?_
            refine lv_topl (fun v_10 ev_10 => ?_)
            have hR := hR v_10 ev_10
            refine lv_goto (tgt := 54) hx hb dX1_goUp_45 (by decide) ?_
            exact ih.2 t_8 (uI (uI li 3 v_1) 101 v_1) (uI (uI lj 103 v_10) 102 v_3) H locs ls hR (lv_sub hl [1, 2, 3, 0] rfl) h
        · have hR := hR.2 c_2
          exact x_vret (w1 := (fun u : XT => (wX cI cJ cB cZ ad u))) t B h hr hR dX1_goUp_15
      · intro t li lj H locs ls hR hl h
        have hR : wbX1_goUp_1 (wpX1_goUp k) k t li lj Q := hR
        unfold wbX1_goUp_1 at hR
        refine lv_ladd hx hb dX1_goUp_54 ?_
        refine lv_topl (fun v_11 ev_11 => ?_)
        have hR := hR v_11 ev_11
        obtain ⟨hb_12, hR⟩ := hR
        refine z_last (f := (t.2.2.2 3)) B h 23 1 rfl rfl hb_12 dX1_goUp_55 (fun H locs h => ?_)
        obtain ⟨t_12, et_12⟩ : ∃ v : XT, v = sB t 3 (vp_updL (t.2.2.2 3) (li 101).toNatClampNeg v_11) := ⟨_, rfl⟩
        have hR := hR t_12 et_12
        have h : Hp D A s.heap (wX cI cJ cB cZ ad t_12) H locs := by rw [et_12]; exact h
        exact x_vret (w1 := (fun u : XT => (wX cI cJ cB cZ ad u))) t_12 B h hr hR dX1_goUp_56
  exact (main k).1 t _ _ s.heap [] ls hR hl h
set_option maxRecDepth 20000 in
theorem ggX1_pour_X1_goDown : GoodIn wsX1_pour wsX1_goDown := goodIn_r _ [11, 12, 4, 5, 13, 14, 15, 16, 17, 18, 19, 20, 21, 22, 23, 24, 25, 26, 27, 28, 29, 30, 31, 32, 33, 34, 35, 36, 37, 38, 39, 40, 41, 42, 43, 44, 45, 46, 47, 53, 54, 55, 56, 57, 58, 59, 73, 74, 75, 76, 77, 78, 66, 67, 68, 69, 70, 71, 72] (by decide +kernel) (by decide +kernel)
set_option maxRecDepth 20000 in
theorem gX1_pour_X1_goDown : GoodIn wsX1_pour (wsV RX1 61 RX1 yX1_goDown wsX1_goDown) := goodIn_app (goodIn_of _ (by decide +kernel)) ggX1_pour_X1_goDown
set_option maxRecDepth 20000 in
theorem ggX1_pour_X1_goUp : GoodIn wsX1_pour wsX1_goUp := goodIn_r _ [51, 12, 52, 4, 5, 32, 33, 34, 35, 36, 37, 38, 39, 23, 40, 41, 42, 43, 44, 45, 46, 47, 53, 54, 55, 56, 57, 58, 59, 73, 74, 75, 76, 77, 78, 66, 67, 68, 69, 70, 71, 72] (by decide +kernel) (by decide +kernel)
set_option maxRecDepth 20000 in
theorem gX1_pour_X1_goUp : GoodIn wsX1_pour (wsV RX1 65 RX1 yX1_goUp wsX1_goUp) := goodIn_app (goodIn_of _ (by decide +kernel)) ggX1_pour_X1_goUp
def wbX1_pour_0 (rec : Nat → XT → (Nat → Int32) → (Nat → Int64) → (XT → Prop) → Prop) (k : Nat) (t : XT) (li : Nat → Int32) (lj : Nat → Int64) (Q : XT → Prop) : Prop :=
  (∀ v_1 : Int32, v_1 = ((t.1 6) - 1) → rec 1 t (uI li 3 v_1) lj Q)
def wbX1_pour_1 (rec : Nat → XT → (Nat → Int32) → (Nat → Int64) → (XT → Prop) → Prop) (k : Nat) (t : XT) (li : Nat → Int32) (lj : Nat → Int64) (Q : XT → Prop) : Prop :=
  (((li 3) < 0) → Q t) ∧ (¬ ((li 3) < 0) → (vp_in (li 3) 64 ∧ (∀ v_3 : Int32, v_3 = (t.2.2.1 7) (li 3).toNatClampNeg → (vp_in v_3 64 ∧ (∀ v_4 : Int64, v_4 = (t.2.2.2 3) v_3.toNatClampNeg → (∀ v_5 : Int32, v_5 = (lg_cmp v_4 0) → ((v_5 = 0) → rec 2 t (uI li 4 v_3) lj Q) ∧ (¬ (v_5 = 0) → (vp_in v_3 64 ∧ (∀ v_7 : Int32, v_7 = (t.2.2.1 3) v_3.toNatClampNeg → ((¬ v_7 = (li 1)) → rec 2 t (uI li 4 v_3) lj Q) ∧ ((v_7 = (li 1)) → (wqX1_goDown k t v_3 (li 2) (fun t_9 => rec 3 t_9 (uI li 4 v_3) lj Q))))))))))))
def wbX1_pour_2 (rec : Nat → XT → (Nat → Int32) → (Nat → Int64) → (XT → Prop) → Prop) (k : Nat) (t : XT) (li : Nat → Int32) (lj : Nat → Int64) (Q : XT → Prop) : Prop :=
  (vp_in (li 4) 64 ∧ (∀ v_10 : Int64, v_10 = (t.2.2.2 3) (li 4).toNatClampNeg → (∀ v_11 : Int32, v_11 = (lg_cmp v_10 0) → ((v_11 = 0) → rec 3 t li lj Q) ∧ (¬ (v_11 = 0) → (vp_in (li 4) 64 ∧ (∀ v_13 : Int32, v_13 = (t.2.2.1 3) (li 4).toNatClampNeg → (∀ v_14 : Int32, v_14 = ((li 1) - 1) → ((¬ v_13 = v_14) → rec 3 t li lj Q) ∧ ((v_13 = v_14) → (wqX1_goUp k t (li 4) (li 2) (fun t_16 => rec 3 t_16 li lj Q))))))))))
def wbX1_pour_3 (rec : Nat → XT → (Nat → Int32) → (Nat → Int64) → (XT → Prop) → Prop) (k : Nat) (t : XT) (li : Nat → Int32) (lj : Nat → Int64) (Q : XT → Prop) : Prop :=
  (∀ v_17 : Int32, v_17 = (li 3) + Int32.ofInt (-1) → rec 1 t (uI li 3 v_17) lj Q)
def wpX1_pour : Nat → Nat → XT → (Nat → Int32) → (Nat → Int64) → (XT → Prop) → Prop
  | 0, _, _, _, _, _ => False
  | k + 1, 0, t, li, lj, Q => wbX1_pour_0 (wpX1_pour k) k t li lj Q
  | k + 1, 1, t, li, lj, Q => wbX1_pour_1 (wpX1_pour k) k t li lj Q
  | k + 1, 2, t, li, lj, Q => wbX1_pour_2 (wpX1_pour k) k t li lj Q
  | k + 1, 3, t, li, lj, Q => wbX1_pour_3 (wpX1_pour k) k t li lj Q
  | _ + 1, _, _, _, _, _ => False
def wqX1_pour (k : Nat) (t : XT) (a1 : Int32) (a2 : Int32) (Q : XT → Prop) : Prop := wpX1_pour k 0 t (uI (uI (fun _ => 0) 1 a1) 2 a2) (fun _ => 0) Q
set_option maxHeartbeats 8000000 in
set_option maxRecDepth 100000 in
theorem wkX1_pour (l : Launch) (D : va_G) (cI cJ cB cZ : ClassId) (ad : Nat → Nat) (k : Nat) (t : XT) (a1 : Int32) (a2 : Int32) (Q : XT → Prop) (hR : wqX1_pour k t a1 a2 Q) : MetV l yX1_pour wsX1_pour 3 72 0 0 D (TYS cI cJ cB cZ) (wX cI cJ cB cZ ad t) [.ref (ad 7), .int a1, .int a2] (fun u => Q u) (fun u : XT => (wX cI cJ cB cZ ad u)) := by
  refine x_startV (ty := .int) (cc := cX1_pour) (by decide) rfl (Nat.le_of_ble_eq_true rfl) ?_
  intro p e s m args below meth c A ls B hr hnm h hl
  have hx := B.1.1
  have hb := B.1.2.1
  have hml := B.1.2.2.1
  have hts := B.1.2.2.2.2
  have hown : s.vm.findClass RX1 = some m.cls := B.1.2.2.2.1
  have hin1 : ∀ w ∈ u_ws RX1 TX1 7, w ∈ wsX1_pour := by decide +kernel
  have hin2 : ∀ w ∈ u_ws RX2 TX2 6, w ∈ wsX1_pour := by decide +kernel
  have hin9 : ∀ w ∈ u_ws RX9 TX9 7, w ∈ wsX1_pour := by decide +kernel
  have main : ∀ k : Nat, (∀ (t : XT) (li : Nat → Int32) (lj : Nat → Int64) (H : Heap) (locs : List Loc) (ls : Array Slot), wpX1_pour k 0 t li lj Q → lv_has ls 5 [(0, .ref (ad 7)), (1, .int (li 1)), (2, .int (li 2))] → Hp D A s.heap (wX cI cJ cB cZ ad t) H locs → W p l e { frames := 3, cells := 0, slots := 0, locals := 72 } s m args below meth c H locs 0 0 (MQ below (va_Qv (fun u => Q u) (fun u t => xEnd D ((fun u : XT => (wX cI cJ cB cZ ad u)) u) A t) A) args s 0 0 A) (F0 m 0 ls [])) ∧
      (∀ (t : XT) (li : Nat → Int32) (lj : Nat → Int64) (H : Heap) (locs : List Loc) (ls : Array Slot), wpX1_pour k 1 t li lj Q → lv_has ls 5 [(0, .ref (ad 7)), (1, .int (li 1)), (2, .int (li 2)), (3, .int (li 3))] → Hp D A s.heap (wX cI cJ cB cZ ad t) H locs → W p l e { frames := 3, cells := 0, slots := 0, locals := 72 } s m args below meth c H locs 0 0 (MQ below (va_Qv (fun u => Q u) (fun u t => xEnd D ((fun u : XT => (wX cI cJ cB cZ ad u)) u) A t) A) args s 0 0 A) (F0 m 10 ls [])) ∧
      (∀ (t : XT) (li : Nat → Int32) (lj : Nat → Int64) (H : Heap) (locs : List Loc) (ls : Array Slot), wpX1_pour k 2 t li lj Q → lv_has ls 5 [(0, .ref (ad 7)), (1, .int (li 1)), (2, .int (li 2)), (3, .int (li 3)), (4, .int (li 4))] → Hp D A s.heap (wX cI cJ cB cZ ad t) H locs → W p l e { frames := 3, cells := 0, slots := 0, locals := 72 } s m args below meth c H locs 0 0 (MQ below (va_Qv (fun u => Q u) (fun u t => xEnd D ((fun u : XT => (wX cI cJ cB cZ ad u)) u) A t) A) args s 0 0 A) (F0 m 61 ls [])) ∧
      (∀ (t : XT) (li : Nat → Int32) (lj : Nat → Int64) (H : Heap) (locs : List Loc) (ls : Array Slot), wpX1_pour k 3 t li lj Q → lv_has ls 5 [(0, .ref (ad 7)), (1, .int (li 1)), (2, .int (li 2)), (3, .int (li 3)), (4, .int (li 4))] → Hp D A s.heap (wX cI cJ cB cZ ad t) H locs → W p l e { frames := 3, cells := 0, slots := 0, locals := 72 } s m args below meth c H locs 0 0 (MQ below (va_Qv (fun u => Q u) (fun u t => xEnd D ((fun u : XT => (wX cI cJ cB cZ ad u)) u) A t) A) args s 0 0 A) (F0 m 96 ls [])) := by
    intro k
    induction k with
    | zero => exact ⟨fun _ _ _ _ _ _ hR => False.elim hR, fun _ _ _ _ _ _ hR => False.elim hR, fun _ _ _ _ _ _ hR => False.elim hR, fun _ _ _ _ _ _ hR => False.elim hR⟩
    | succ k ih =>
      refine ⟨?_, ?_, ?_, ?_⟩
      · intro t li lj H locs ls hR hl h
        have hR : wbX1_pour_0 (wpX1_pour k) k t li lj Q := hR
        unfold wbX1_pour_0 at hR
        refine lv_aload_n hx hb dX1_pour_0 rfl (lv_at hl 0 rfl) ?_
        refine x_get (ci := 1) (C := RX1) (T := TX1) (N := 7) (v := .ref (ad 6)) B h hin1 7 2 rfl rfl (by decide) (by decide +kernel) rfl dX1_pour_1 ?_
        refine x_get (ci := 2) (C := RX2) (T := TX2) (N := 6) (v := .int (t.1 6)) B h hin2 6 4 rfl rfl (by decide) (by decide +kernel) rfl dX1_pour_4 ?_
        refine lv_iconst (v := 1) hx hb dX1_pour_7 (by decide) ?_
        refine lv_isub hx hb dX1_pour_8 ?_
        refine lv_topi (fun v_1 ev_1 => ?_)
        have hR := hR v_1 ev_1
        refine lv_istore_n (lv' := [(3, .int v_1), (0, .ref (ad 7)), (1, .int (li 1)), (2, .int (li 2))]) hx hb dX1_pour_9 rfl hl (by decide) rfl (fun ls hl => ?_)
        exact ih.2.1 t (uI li 3 v_1) lj H locs ls hR (lv_sub hl [1, 2, 3, 0] rfl) h
      · intro t li lj H locs ls hR hl h
        have hR : wbX1_pour_1 (wpX1_pour k) k t li lj Q := hR
        unfold wbX1_pour_1 at hR
        refine lv_iload_n hx hb dX1_pour_10 rfl (lv_at hl 3 rfl) ?_
        refine lv_if_lt (tgt := 102) hx hb dX1_pour_11 (by decide) (fun c_2 => ?_) (fun c_2 => ?_)
        · have hR := hR.1 c_2
          exact x_vret (w1 := (fun u : XT => (wX cI cJ cB cZ ad u))) t B h hr hR dX1_pour_102
        · have hR := hR.2 c_2
          refine lv_aload_n hx hb dX1_pour_14 rfl (lv_at hl 0 rfl) ?_
          refine x_get (ci := 1) (C := RX1) (T := TX1) (N := 7) (v := .ref (ad 6)) B h hin1 7 2 rfl rfl (by decide) (by decide +kernel) rfl dX1_pour_15 ?_
          refine x_get (ci := 2) (C := RX2) (T := TX2) (N := 6) (v := .ref (ad 22)) B h hin2 6 3 rfl rfl (by decide) (by decide +kernel) rfl dX1_pour_18 ?_
          refine lv_iload_n hx hb dX1_pour_21 rfl (lv_at hl 3 rfl) ?_
          obtain ⟨hb_3, hR⟩ := hR
          refine va_iald (f := (t.2.2.1 7)) hx hb B.2.1 h.1 22 0 rfl rfl hb_3 dX1_pour_22 ?_
          refine lv_topi (fun v_3 ev_3 => ?_)
          have hR := hR v_3 ev_3
          refine lv_istore (lv' := [(4, .int v_3), (0, .ref (ad 7)), (1, .int (li 1)), (2, .int (li 2)), (3, .int (li 3))]) hx hb dX1_pour_23 hl (by decide) rfl (fun ls hl => ?_)
          refine lv_aload_n hx hb dX1_pour_25 rfl (lv_at hl 1 rfl) ?_
          refine x_get (ci := 1) (C := RX1) (T := TX1) (N := 7) (v := .ref (ad 23)) B h hin1 7 3 rfl rfl (by decide) (by decide +kernel) rfl dX1_pour_26 ?_
          refine lv_iload hx hb dX1_pour_29 (lv_at hl 0 rfl) ?_
          obtain ⟨hb_4, hR⟩ := hR
          refine va_lald (f := (t.2.2.2 3)) hx hb B.2.1 h.1 23 1 rfl rfl hb_4 dX1_pour_31 ?_
          refine lv_topl (fun v_4 ev_4 => ?_)
          have hR := hR v_4 ev_4
          refine lv_lconst (v := 0) hx hb dX1_pour_32 (by decide) ?_
          refine W.lcmp hx hb dX1_pour_33 ?_
          refine lv_topi (fun v_5 ev_5 => ?_)
          have hR := hR v_5 ev_5
          refine lv_if_eq (tgt := 61) hx hb dX1_pour_34 (by decide) (fun c_6 => ?_) (fun c_6 => ?_)
          · have hR := hR.1 c_6
            exact ih.2.2.1 t (uI li 4 v_3) lj H locs ls hR (lv_sub hl [1, 2, 3, 4, 0] rfl) h
          · have hR := hR.2 c_6
            refine lv_aload_n hx hb dX1_pour_37 rfl (lv_at hl 1 rfl) ?_
            refine x_get (ci := 1) (C := RX1) (T := TX1) (N := 7) (v := .ref (ad 3)) B h hin1 7 0 rfl rfl (by decide) (by decide +kernel) rfl dX1_pour_38 ?_
            refine x_get (ci := 9) (C := RX9) (T := TX9) (N := 7) (v := .ref (ad 15)) B h hin9 3 2 rfl rfl (by decide) (by decide +kernel) rfl dX1_pour_41 ?_
            refine lv_iload hx hb dX1_pour_44 (lv_at hl 0 rfl) ?_
            obtain ⟨hb_7, hR⟩ := hR
            refine va_iald (f := (t.2.2.1 3)) hx hb B.2.1 h.1 15 0 rfl rfl hb_7 dX1_pour_46 ?_
            refine lv_topi (fun v_7 ev_7 => ?_)
            have hR := hR v_7 ev_7
            refine lv_iload_n hx hb dX1_pour_47 rfl (lv_at hl 2 rfl) ?_
            refine lv_icmp_ne (tgt := 61) hx hb dX1_pour_48 (by decide) (fun c_8 => ?_) (fun c_8 => ?_)
            · have hR := hR.1 c_8
              exact ih.2.2.1 t (uI li 4 v_3) lj H locs ls hR (lv_sub hl [1, 2, 3, 4, 0] rfl) h
            · have hR := hR.2 c_8
              refine lv_aload_n hx hb dX1_pour_51 rfl (lv_at hl 1 rfl) ?_
              refine lv_iload hx hb dX1_pour_52 (lv_at hl 0 rfl) ?_
              refine lv_iload_n hx hb dX1_pour_54 rfl (lv_at hl 3 rfl) ?_
              refine x_cVVF (n := 2) (As := [.int v_3, .int (li 2)]) (rest := []) B h (wkX1_goDown l D cI cJ cB cZ ad k t v_3 (li 2) _ hR) ⟨⟨_, rfl⟩, by decide +kernel, Nat.le_of_ble_eq_true rfl, Nat.le_of_ble_eq_true rfl⟩ gX1_pour_X1_goDown (show ((wX cI cJ cB cZ ad t) : va_W)[7]? = some (_, .inr (1, _)) from rfl) rfl rfl hl.1 rfl (Nat.le_of_ble_eq_true rfl) dX1_pour_55 ⟨Nat.le_of_ble_eq_true rfl, Nat.le_of_ble_eq_true rfl⟩ (fun t_9 H locs hR h => ?_)
              refine lv_goto (tgt := 96) hx hb dX1_pour_58 (by decide) ?_
              exact ih.2.2.2 t_9 (uI li 4 v_3) lj H locs ls hR (lv_sub hl [1, 2, 3, 4, 0] rfl) h
      · intro t li lj H locs ls hR hl h
        have hR : wbX1_pour_2 (wpX1_pour k) k t li lj Q := hR
        unfold wbX1_pour_2 at hR
        refine lv_aload_n hx hb dX1_pour_61 rfl (lv_at hl 0 rfl) ?_
        refine x_get (ci := 1) (C := RX1) (T := TX1) (N := 7) (v := .ref (ad 23)) B h hin1 7 3 rfl rfl (by decide) (by decide +kernel) rfl dX1_pour_62 ?_
        refine lv_iload hx hb dX1_pour_65 (lv_at hl 4 rfl) ?_
        obtain ⟨hb_10, hR⟩ := hR
        refine va_lald (f := (t.2.2.2 3)) hx hb B.2.1 h.1 23 1 rfl rfl hb_10 dX1_pour_67 ?_
        refine lv_topl (fun v_10 ev_10 => ?_)
        have hR := hR v_10 ev_10
        refine lv_lconst (v := 0) hx hb dX1_pour_68 (by decide) ?_
        refine W.lcmp hx hb dX1_pour_69 ?_
        refine lv_topi (fun v_11 ev_11 => ?_)
        have hR := hR v_11 ev_11
        refine lv_if_eq (tgt := 96) hx hb dX1_pour_70 (by decide) (fun c_12 => ?_) (fun c_12 => ?_)
        · have hR := hR.1 c_12
          exact ih.2.2.2 t li lj H locs ls hR (lv_sub hl [0, 1, 2, 3, 4] rfl) h
        · have hR := hR.2 c_12
          refine lv_aload_n hx hb dX1_pour_73 rfl (lv_at hl 0 rfl) ?_
          refine x_get (ci := 1) (C := RX1) (T := TX1) (N := 7) (v := .ref (ad 3)) B h hin1 7 0 rfl rfl (by decide) (by decide +kernel) rfl dX1_pour_74 ?_
          refine x_get (ci := 9) (C := RX9) (T := TX9) (N := 7) (v := .ref (ad 15)) B h hin9 3 2 rfl rfl (by decide) (by decide +kernel) rfl dX1_pour_77 ?_
          refine lv_iload hx hb dX1_pour_80 (lv_at hl 4 rfl) ?_
          obtain ⟨hb_13, hR⟩ := hR
          refine va_iald (f := (t.2.2.1 3)) hx hb B.2.1 h.1 15 0 rfl rfl hb_13 dX1_pour_82 ?_
          refine lv_topi (fun v_13 ev_13 => ?_)
          have hR := hR v_13 ev_13
          refine lv_iload_n hx hb dX1_pour_83 rfl (lv_at hl 1 rfl) ?_
          refine lv_iconst (v := 1) hx hb dX1_pour_84 (by decide) ?_
          refine lv_isub hx hb dX1_pour_85 ?_
          refine lv_topi (fun v_14 ev_14 => ?_)
          have hR := hR v_14 ev_14
          refine lv_icmp_ne (tgt := 96) hx hb dX1_pour_86 (by decide) (fun c_15 => ?_) (fun c_15 => ?_)
          · have hR := hR.1 c_15
            exact ih.2.2.2 t li lj H locs ls hR (lv_sub hl [0, 1, 2, 3, 4] rfl) h
          · have hR := hR.2 c_15
            refine lv_aload_n hx hb dX1_pour_89 rfl (lv_at hl 0 rfl) ?_
            refine lv_iload hx hb dX1_pour_90 (lv_at hl 4 rfl) ?_
            refine lv_iload_n hx hb dX1_pour_92 rfl (lv_at hl 2 rfl) ?_
            refine x_cVVF (n := 2) (As := [.int (li 4), .int (li 2)]) (rest := []) B h (wkX1_goUp l D cI cJ cB cZ ad k t (li 4) (li 2) _ hR) ⟨⟨_, rfl⟩, by decide +kernel, Nat.le_of_ble_eq_true rfl, Nat.le_of_ble_eq_true rfl⟩ gX1_pour_X1_goUp (show ((wX cI cJ cB cZ ad t) : va_W)[7]? = some (_, .inr (1, _)) from rfl) rfl rfl hl.1 rfl (Nat.le_of_ble_eq_true rfl) dX1_pour_93 ⟨Nat.le_of_ble_eq_true rfl, Nat.le_of_ble_eq_true rfl⟩ (fun t_16 H locs hR h => ?_)
            exact ih.2.2.2 t_16 li lj H locs ls hR (lv_sub hl [0, 1, 2, 3, 4] rfl) h
      · intro t li lj H locs ls hR hl h
        have hR : wbX1_pour_3 (wpX1_pour k) k t li lj Q := hR
        unfold wbX1_pour_3 at hR
        obtain ⟨v_17, ev_17⟩ : ∃ v : Int32, v = (li 3) + Int32.ofInt (-1) := ⟨_, rfl⟩
        have hR := hR v_17 ev_17
        refine lv_iinc (v := v_17) (lv' := [(3, .int v_17), (0, .ref (ad 7)), (1, .int (li 1)), (2, .int (li 2)), (4, .int (li 4))]) hx hb dX1_pour_96 hl (k := 3) rfl ev_17.symm (by decide) rfl (fun ls hl => ?_)
        refine lv_goto (tgt := 10) hx hb dX1_pour_99 (by decide) ?_
        exact ih.2.1 t (uI li 3 v_17) lj H locs ls hR (lv_sub hl [1, 2, 3, 0] rfl) h
  exact (main k).1 t _ _ s.heap [] ls hR hl h
set_option maxRecDepth 20000 in
theorem ggX11_incidence_X11_areEnds : GoodIn wsX11_incidence wsX11_areEnds := goodIn_r _ [10, 3, 4, 11, 12, 13, 14, 9, 15, 16, 17, 18, 19, 20, 21, 22, 23, 24, 25, 26, 27, 28, 29, 30, 31, 32, 33, 34, 35, 36, 37, 38, 125, 126, 127, 128, 129, 130, 131, 132, 133, 134, 135, 136, 137, 138, 139, 140, 141, 142, 150, 151, 152, 153, 154, 155] (by decide +kernel) (by decide +kernel)
set_option maxRecDepth 20000 in
theorem gX11_incidence_X11_areEnds : GoodIn wsX11_incidence (wsV RX11 203 RX11 yX11_areEnds wsX11_areEnds) := goodIn_app (goodIn_of _ (by decide +kernel)) ggX11_incidence_X11_areEnds
set_option maxRecDepth 20000 in
theorem ggX11_incidence_X1_start : GoodIn wsX11_incidence wsX1_start := goodIn_r _ [43, 44, 45, 46, 47, 48, 49, 50, 51, 52, 53, 54, 55, 56, 57, 58, 59, 60, 61, 62, 63, 64, 65, 66, 67, 68, 24, 9, 25, 69, 70, 71, 29, 72, 73, 74, 75, 76, 77, 78, 79, 80, 143, 144, 145, 146, 147, 148, 149, 156, 157, 158, 159, 160, 161, 150, 151, 152, 153, 154, 155, 136, 137, 138, 139, 140, 141, 142] (by decide +kernel) (by decide +kernel)
set_option maxRecDepth 20000 in
theorem gX11_incidence_X1_start : GoodIn wsX11_incidence (wsV RX11 246 RX1 yX1_start wsX1_start) := goodIn_app (goodIn_of _ (by decide +kernel)) ggX11_incidence_X1_start
set_option maxRecDepth 20000 in
theorem ggX11_incidence_X1_pour : GoodIn wsX11_incidence wsX1_pour := goodIn_r _ [84, 44, 85, 86, 45, 87, 88, 89, 90, 91, 42, 92, 93, 94, 95, 96, 29, 97, 73, 74, 75, 38, 98, 9, 99, 100, 101, 102, 103, 104, 105, 106, 107, 108, 109, 20, 110, 111, 112, 24, 25, 113, 114, 115, 116, 117, 118, 119, 120, 121, 122, 123, 124, 143, 144, 145, 146, 147, 148, 149, 156, 157, 158, 159, 160, 161, 136, 137, 138, 139, 140, 141, 142, 150, 151, 152, 153, 154, 155] (by decide +kernel) (by decide +kernel)
set_option maxRecDepth 20000 in
theorem gX11_incidence_X1_pour : GoodIn wsX11_incidence (wsV RX11 249 RX1 yX1_pour wsX1_pour) := goodIn_app (goodIn_of _ (by decide +kernel)) ggX11_incidence_X1_pour
def wbX11_incidence_0 (rec : Nat → XT → (Nat → Int32) → (Nat → Int64) → (Int64 → XT → Prop) → Prop) (k : Nat) (t : XT) (li : Nat → Int32) (lj : Nat → Int64) (Q : Int64 → XT → Prop) : Prop :=
  (wqX11_areEnds k t (li 1) (li 2) (fun r_1 t_1 => ((¬ r_1 = 0) → (wqX1_start k t_1 (li 1) (fun t_3 => (vp_in (li 1) 64 ∧ (∀ v_4 : Int32, v_4 = (t_3.2.2.1 3) (li 1).toNatClampNeg → (wqX1_pour k t_3 v_4 1 (fun t_5 => (vp_in (li 2) 64 ∧ (∀ v_6 : Int64, v_6 = (t_5.2.2.2 3) (li 2).toNatClampNeg → Q v_6 t_5))))))))) ∧ ((r_1 = 0) → Q (-9223372036854775808) t_1)))
def wpX11_incidence : Nat → Nat → XT → (Nat → Int32) → (Nat → Int64) → (Int64 → XT → Prop) → Prop
  | 0, _, _, _, _, _ => False
  | k + 1, 0, t, li, lj, Q => wbX11_incidence_0 (wpX11_incidence k) k t li lj Q
  | _ + 1, _, _, _, _, _ => False
def wqX11_incidence (k : Nat) (t : XT) (a1 : Int32) (a2 : Int32) (Q : Int64 → XT → Prop) : Prop := wpX11_incidence k 0 t (uI (uI (fun _ => 0) 1 a1) 2 a2) (fun _ => 0) Q
set_option maxHeartbeats 8000000 in
set_option maxRecDepth 100000 in
theorem wkX11_incidence (l : Launch) (D : va_G) (cI cJ cB cZ : ClassId) (ad : Nat → Nat) (k : Nat) (t : XT) (a1 : Int32) (a2 : Int32) (Q : Int64 → XT → Prop) (hR : wqX11_incidence k t a1 a2 Q) : MetL l yX11_incidence wsX11_incidence 4 96 0 0 D (TYS cI cJ cB cZ) (wX cI cJ cB cZ ad t) [.ref (ad 0), .int a1, .int a2] (fun r u => Q r u) (fun u : XT => (wX cI cJ cB cZ ad u)) := by
  refine x_startL (ty := .long) (cc := cX11_incidence) (by decide) rfl (Nat.le_of_ble_eq_true rfl) ?_
  intro p e s m args below meth c A ls B hr hnm h hl
  have hx := B.1.1
  have hb := B.1.2.1
  have hml := B.1.2.2.1
  have hts := B.1.2.2.2.2
  have hown : s.vm.findClass RX11 = some m.cls := B.1.2.2.2.1
  have hin1 : ∀ w ∈ u_ws RX1 TX1 7, w ∈ wsX11_incidence := by decide +kernel
  have hin9 : ∀ w ∈ u_ws RX9 TX9 7, w ∈ wsX11_incidence := by decide +kernel
  have hin11 : ∀ w ∈ u_ws RX11 TX11 11, w ∈ wsX11_incidence := by decide +kernel
  have main : ∀ k : Nat, (∀ (t : XT) (li : Nat → Int32) (lj : Nat → Int64) (H : Heap) (locs : List Loc) (ls : Array Slot), wpX11_incidence k 0 t li lj Q → lv_has ls 3 [(0, .ref (ad 0)), (1, .int (li 1)), (2, .int (li 2))] → Hp D A s.heap (wX cI cJ cB cZ ad t) H locs → W p l e { frames := 4, cells := 0, slots := 0, locals := 96 } s m args below meth c H locs 0 0 (MQ below (va_Ql (fun r u => Q r u) (fun u t => xEnd D ((fun u : XT => (wX cI cJ cB cZ ad u)) u) A t) A) args s 0 0 A) (F0 m 0 ls [])) := by
    intro k
    induction k with
    | zero => exact fun _ _ _ _ _ _ hR => False.elim hR
    | succ k ih =>
      intro t li lj H locs ls hR hl h
      have hR : wbX11_incidence_0 (wpX11_incidence k) k t li lj Q := hR
      unfold wbX11_incidence_0 at hR
      refine lv_aload_n hx hb dX11_incidence_0 rfl (lv_at hl 0 rfl) ?_
      refine lv_iload_n hx hb dX11_incidence_1 rfl (lv_at hl 1 rfl) ?_
      refine lv_iload_n hx hb dX11_incidence_2 rfl (lv_at hl 2 rfl) ?_
      refine x_cVIF (n := 2) (As := [.int (li 1), .int (li 2)]) (rest := []) B h (wkX11_areEnds l D cI cJ cB cZ ad k t (li 1) (li 2) _ hR) ⟨⟨_, rfl⟩, by decide +kernel, Nat.le_of_ble_eq_true rfl, Nat.le_of_ble_eq_true rfl⟩ gX11_incidence_X11_areEnds (show ((wX cI cJ cB cZ ad t) : va_W)[0]? = some (_, .inr (11, _)) from rfl) rfl rfl hl.1 rfl (Nat.le_of_ble_eq_true rfl) dX11_incidence_3 ⟨Nat.le_of_ble_eq_true rfl, Nat.le_of_ble_eq_true rfl⟩ (fun r_1 t_1 H locs hR h => ?_)
      refine lv_if_ne (tgt := 13) hx hb dX11_incidence_6 (by decide) (fun c_2 => ?_) (fun c_2 => ?_)
      · have hR := hR.1 c_2
        refine lv_aload_n hx hb dX11_incidence_13 rfl (lv_at hl 0 rfl) ?_
        refine x_get (ci := 11) (C := RX11) (T := TX11) (N := 11) (v := .ref (ad 7)) B h hin11 0 6 rfl rfl (by decide) (by decide +kernel) rfl dX11_incidence_14 ?_
        refine lv_iload_n hx hb dX11_incidence_17 rfl (lv_at hl 1 rfl) ?_
        refine x_cVVF (n := 1) (As := [.int (li 1)]) (rest := []) B h (wkX1_start l D cI cJ cB cZ ad k t_1 (li 1) _ hR) ⟨⟨_, rfl⟩, by decide +kernel, Nat.le_of_ble_eq_true rfl, Nat.le_of_ble_eq_true rfl⟩ gX11_incidence_X1_start (show ((wX cI cJ cB cZ ad t_1) : va_W)[7]? = some (_, .inr (1, _)) from rfl) rfl rfl hl.1 rfl (Nat.le_of_ble_eq_true rfl) dX11_incidence_18 ⟨Nat.le_of_ble_eq_true rfl, Nat.le_of_ble_eq_true rfl⟩ (fun t_3 H locs hR h => ?_)
        refine lv_aload_n hx hb dX11_incidence_21 rfl (lv_at hl 0 rfl) ?_
        refine x_get (ci := 11) (C := RX11) (T := TX11) (N := 11) (v := .ref (ad 7)) B h hin11 0 6 rfl rfl (by decide) (by decide +kernel) rfl dX11_incidence_22 ?_
        refine lv_aload_n hx hb dX11_incidence_25 rfl (lv_at hl 0 rfl) ?_
        refine x_get (ci := 11) (C := RX11) (T := TX11) (N := 11) (v := .ref (ad 3)) B h hin11 0 2 rfl rfl (by decide) (by decide +kernel) rfl dX11_incidence_26 ?_
        refine x_get (ci := 9) (C := RX9) (T := TX9) (N := 7) (v := .ref (ad 15)) B h hin9 3 2 rfl rfl (by decide) (by decide +kernel) rfl dX11_incidence_29 ?_
        refine lv_iload_n hx hb dX11_incidence_32 rfl (lv_at hl 1 rfl) ?_
        obtain ⟨hb_4, hR⟩ := hR
        refine va_iald (f := (t_3.2.2.1 3)) hx hb B.2.1 h.1 15 0 rfl rfl hb_4 dX11_incidence_33 ?_
        refine lv_topi (fun v_4 ev_4 => ?_)
        have hR := hR v_4 ev_4
        refine lv_iconst (v := 1) hx hb dX11_incidence_34 (by decide) ?_
        refine x_cVVF (n := 2) (As := [.int v_4, .int 1]) (rest := []) B h (wkX1_pour l D cI cJ cB cZ ad k t_3 v_4 1 _ hR) ⟨⟨_, rfl⟩, by decide +kernel, Nat.le_of_ble_eq_true rfl, Nat.le_of_ble_eq_true rfl⟩ gX11_incidence_X1_pour (show ((wX cI cJ cB cZ ad t_3) : va_W)[7]? = some (_, .inr (1, _)) from rfl) rfl rfl hl.1 rfl (Nat.le_of_ble_eq_true rfl) dX11_incidence_35 ⟨Nat.le_of_ble_eq_true rfl, Nat.le_of_ble_eq_true rfl⟩ (fun t_5 H locs hR h => ?_)
        refine lv_aload_n hx hb dX11_incidence_38 rfl (lv_at hl 0 rfl) ?_
        refine x_get (ci := 11) (C := RX11) (T := TX11) (N := 11) (v := .ref (ad 7)) B h hin11 0 6 rfl rfl (by decide) (by decide +kernel) rfl dX11_incidence_39 ?_
        refine x_get (ci := 1) (C := RX1) (T := TX1) (N := 7) (v := .ref (ad 23)) B h hin1 7 3 rfl rfl (by decide) (by decide +kernel) rfl dX11_incidence_42 ?_
        refine lv_iload_n hx hb dX11_incidence_45 rfl (lv_at hl 2 rfl) ?_
        obtain ⟨hb_6, hR⟩ := hR
        refine va_lald (f := (t_5.2.2.2 3)) hx hb B.2.1 h.1 23 1 rfl rfl hb_6 dX11_incidence_46 ?_
        refine lv_topl (fun v_6 ev_6 => ?_)
        have hR := hR v_6 ev_6
        exact x_lret (w1 := (fun u : XT => (wX cI cJ cB cZ ad u))) t_5 B h hr hR dX11_incidence_47
      · have hR := hR.2 c_2
        refine lv_ldc2 (v := (-9223372036854775808)) hx hb hown (hts (.constantLong RX11 244 (-9223372036854775808)) (by decide +kernel)) dX11_incidence_9 ?_
        exact x_lret (w1 := (fun u : XT => (wX cI cJ cB cZ ad u))) t_1 B h hr hR dX11_incidence_12
  exact (main k) t _ _ s.heap [] ls hR hl h
set_option maxRecDepth 20000 in
theorem ggX11_chain_X11_isThere : GoodIn wsX11_chain wsX11_isThere := goodIn_r _ [11, 3, 1, 12, 13, 14, 15, 16, 17, 18, 19, 20, 10, 21, 121, 122, 123, 124, 125, 126, 127, 128, 129, 130, 131, 146, 147, 148, 149, 150, 151, 132, 133, 134, 135, 136, 137, 138] (by decide +kernel) (by decide +kernel)
set_option maxRecDepth 20000 in
theorem gX11_chain_X11_isThere : GoodIn wsX11_chain (wsV RX11 130 RX11 yX11_isThere wsX11_isThere) := goodIn_app (goodIn_of _ (by decide +kernel)) ggX11_chain_X11_isThere
set_option maxRecDepth 20000 in
theorem ggX11_chain_X6_isCritical : GoodIn wsX11_chain wsX6_isCritical := goodIn_r _ [26, 27, 28, 29, 25, 30, 31, 32, 33, 34, 20, 10, 21, 146, 147, 148, 149, 150, 151] (by decide +kernel) (by decide +kernel)
set_option maxRecDepth 20000 in
theorem gX11_chain_X6_isCritical : GoodIn wsX11_chain (wsV RX11 172 RX6 yX6_isCritical wsX6_isCritical) := goodIn_app (goodIn_of _ (by decide +kernel)) ggX11_chain_X6_isCritical
set_option maxRecDepth 20000 in
theorem ggX11_chain_X1_start : GoodIn wsX11_chain wsX1_start := goodIn_r _ [39, 40, 41, 42, 43, 44, 45, 46, 47, 48, 49, 50, 51, 52, 53, 54, 55, 56, 57, 58, 59, 60, 61, 62, 63, 64, 20, 10, 21, 65, 66, 67, 25, 68, 69, 70, 71, 72, 73, 74, 75, 76, 139, 140, 141, 142, 143, 144, 145, 152, 153, 154, 155, 156, 157, 146, 147, 148, 149, 150, 151, 132, 133, 134, 135, 136, 137, 138] (by decide +kernel) (by decide +kernel)
set_option maxRecDepth 20000 in
theorem gX11_chain_X1_start : GoodIn wsX11_chain (wsV RX11 246 RX1 yX1_start wsX1_start) := goodIn_app (goodIn_of _ (by decide +kernel)) ggX11_chain_X1_start
set_option maxRecDepth 20000 in
theorem ggX11_chain_X1_pour : GoodIn wsX11_chain wsX1_pour := goodIn_r _ [80, 40, 81, 82, 41, 83, 84, 85, 86, 87, 38, 88, 89, 90, 91, 92, 25, 93, 69, 70, 71, 34, 94, 10, 95, 96, 97, 98, 99, 100, 101, 102, 103, 104, 105, 16, 106, 107, 108, 20, 21, 109, 110, 111, 112, 113, 114, 115, 116, 117, 118, 119, 120, 139, 140, 141, 142, 143, 144, 145, 152, 153, 154, 155, 156, 157, 132, 133, 134, 135, 136, 137, 138, 146, 147, 148, 149, 150, 151] (by decide +kernel) (by decide +kernel)
set_option maxRecDepth 20000 in
theorem gX11_chain_X1_pour : GoodIn wsX11_chain (wsV RX11 249 RX1 yX1_pour wsX1_pour) := goodIn_app (goodIn_of _ (by decide +kernel)) ggX11_chain_X1_pour
def wbX11_chain_0 (rec : Nat → XT → (Nat → Int32) → (Nat → Int64) → (Int64 → XT → Prop) → Prop) (k : Nat) (t : XT) (li : Nat → Int32) (lj : Nat → Int64) (Q : Int64 → XT → Prop) : Prop :=
  (wqX11_isThere k t (li 1) (fun r_1 t_1 => ((r_1 = 0) → rec 1 t_1 li lj Q) ∧ (¬ (r_1 = 0) → (wqX11_isThere k t_1 (li 2) (fun r_3 t_3 => ((r_3 = 0) → rec 1 t_3 li lj Q) ∧ (¬ (r_3 = 0) → (wqX6_isCritical k t_3 (li 1) (fun r_5 t_5 => ((¬ r_5 = 0) → (vp_in (li 1) 64 ∧ (∀ v_7 : Int32, v_7 = (t_5.2.2.1 3) (li 1).toNatClampNeg → (vp_in (li 2) 64 ∧ (∀ v_8 : Int32, v_8 = (t_5.2.2.1 3) (li 2).toNatClampNeg → ((v_7 = v_8) → (wqX1_start k t_5 (li 1) (fun t_10 => (vp_in (li 1) 64 ∧ (∀ v_11 : Int32, v_11 = (t_10.2.2.1 3) (li 1).toNatClampNeg → (wqX1_pour k t_10 v_11 1 (fun t_12 => (vp_in (li 2) 64 ∧ (∀ v_13 : Int64, v_13 = (t_12.2.2.2 3) (li 2).toNatClampNeg → Q v_13 t_12))))))))) ∧ (¬ (v_7 = v_8) → Q (-9223372036854775808) t_5)))))) ∧ ((r_5 = 0) → rec 1 t_5 li lj Q)))))))))
def wbX11_chain_1 (rec : Nat → XT → (Nat → Int32) → (Nat → Int64) → (Int64 → XT → Prop) → Prop) (k : Nat) (t : XT) (li : Nat → Int32) (lj : Nat → Int64) (Q : Int64 → XT → Prop) : Prop :=
  Q (-9223372036854775808) t
def wpX11_chain : Nat → Nat → XT → (Nat → Int32) → (Nat → Int64) → (Int64 → XT → Prop) → Prop
  | 0, _, _, _, _, _ => False
  | k + 1, 0, t, li, lj, Q => wbX11_chain_0 (wpX11_chain k) k t li lj Q
  | k + 1, 1, t, li, lj, Q => wbX11_chain_1 (wpX11_chain k) k t li lj Q
  | _ + 1, _, _, _, _, _ => False
def wqX11_chain (k : Nat) (t : XT) (a1 : Int32) (a2 : Int32) (Q : Int64 → XT → Prop) : Prop := wpX11_chain k 0 t (uI (uI (fun _ => 0) 1 a1) 2 a2) (fun _ => 0) Q
set_option maxHeartbeats 8000000 in
set_option maxRecDepth 100000 in
theorem wkX11_chain (l : Launch) (D : va_G) (cI cJ cB cZ : ClassId) (ad : Nat → Nat) (k : Nat) (t : XT) (a1 : Int32) (a2 : Int32) (Q : Int64 → XT → Prop) (hR : wqX11_chain k t a1 a2 Q) : MetL l yX11_chain wsX11_chain 4 96 0 0 D (TYS cI cJ cB cZ) (wX cI cJ cB cZ ad t) [.ref (ad 0), .int a1, .int a2] (fun r u => Q r u) (fun u : XT => (wX cI cJ cB cZ ad u)) := by
  refine x_startL (ty := .long) (cc := cX11_chain) (by decide) rfl (Nat.le_of_ble_eq_true rfl) ?_
  intro p e s m args below meth c A ls B hr hnm h hl
  have hx := B.1.1
  have hb := B.1.2.1
  have hml := B.1.2.2.1
  have hts := B.1.2.2.2.2
  have hown : s.vm.findClass RX11 = some m.cls := B.1.2.2.2.1
  have hin1 : ∀ w ∈ u_ws RX1 TX1 7, w ∈ wsX11_chain := by decide +kernel
  have hin9 : ∀ w ∈ u_ws RX9 TX9 7, w ∈ wsX11_chain := by decide +kernel
  have hin11 : ∀ w ∈ u_ws RX11 TX11 11, w ∈ wsX11_chain := by decide +kernel
  have main : ∀ k : Nat, (∀ (t : XT) (li : Nat → Int32) (lj : Nat → Int64) (H : Heap) (locs : List Loc) (ls : Array Slot), wpX11_chain k 0 t li lj Q → lv_has ls 3 [(0, .ref (ad 0)), (1, .int (li 1)), (2, .int (li 2))] → Hp D A s.heap (wX cI cJ cB cZ ad t) H locs → W p l e { frames := 4, cells := 0, slots := 0, locals := 96 } s m args below meth c H locs 0 0 (MQ below (va_Ql (fun r u => Q r u) (fun u t => xEnd D ((fun u : XT => (wX cI cJ cB cZ ad u)) u) A t) A) args s 0 0 A) (F0 m 0 ls [])) ∧
      (∀ (t : XT) (li : Nat → Int32) (lj : Nat → Int64) (H : Heap) (locs : List Loc) (ls : Array Slot), wpX11_chain k 1 t li lj Q → lv_has ls 3 [(0, .ref (ad 0)), (1, .int (li 1)), (2, .int (li 2))] → Hp D A s.heap (wX cI cJ cB cZ ad t) H locs → W p l e { frames := 4, cells := 0, slots := 0, locals := 96 } s m args below meth c H locs 0 0 (MQ below (va_Ql (fun r u => Q r u) (fun u t => xEnd D ((fun u : XT => (wX cI cJ cB cZ ad u)) u) A t) A) args s 0 0 A) (F0 m 27 ls [])) := by
    intro k
    induction k with
    | zero => exact ⟨fun _ _ _ _ _ _ hR => False.elim hR, fun _ _ _ _ _ _ hR => False.elim hR⟩
    | succ k ih =>
      refine ⟨?_, ?_⟩
      · intro t li lj H locs ls hR hl h
        have hR : wbX11_chain_0 (wpX11_chain k) k t li lj Q := hR
        unfold wbX11_chain_0 at hR
        refine lv_aload_n hx hb dX11_chain_0 rfl (lv_at hl 0 rfl) ?_
        refine lv_iload_n hx hb dX11_chain_1 rfl (lv_at hl 1 rfl) ?_
        refine x_cVIF (n := 1) (As := [.int (li 1)]) (rest := []) B h (wkX11_isThere l D cI cJ cB cZ ad k t (li 1) _ hR) ⟨⟨_, rfl⟩, by decide +kernel, Nat.le_of_ble_eq_true rfl, Nat.le_of_ble_eq_true rfl⟩ gX11_chain_X11_isThere (show ((wX cI cJ cB cZ ad t) : va_W)[0]? = some (_, .inr (11, _)) from rfl) rfl rfl hl.1 rfl (Nat.le_of_ble_eq_true rfl) dX11_chain_2 ⟨Nat.le_of_ble_eq_true rfl, Nat.le_of_ble_eq_true rfl⟩ (fun r_1 t_1 H locs hR h => ?_)
        refine lv_if_eq (tgt := 27) hx hb dX11_chain_5 (by decide) (fun c_2 => ?_) (fun c_2 => ?_)
        · have hR := hR.1 c_2
          exact ih.2 t_1 li lj H locs ls hR (lv_sub hl [0, 1, 2] rfl) h
        · have hR := hR.2 c_2
          refine lv_aload_n hx hb dX11_chain_8 rfl (lv_at hl 0 rfl) ?_
          refine lv_iload_n hx hb dX11_chain_9 rfl (lv_at hl 2 rfl) ?_
          refine x_cVIF (n := 1) (As := [.int (li 2)]) (rest := []) B h (wkX11_isThere l D cI cJ cB cZ ad k t_1 (li 2) _ hR) ⟨⟨_, rfl⟩, by decide +kernel, Nat.le_of_ble_eq_true rfl, Nat.le_of_ble_eq_true rfl⟩ gX11_chain_X11_isThere (show ((wX cI cJ cB cZ ad t_1) : va_W)[0]? = some (_, .inr (11, _)) from rfl) rfl rfl hl.1 rfl (Nat.le_of_ble_eq_true rfl) dX11_chain_10 ⟨Nat.le_of_ble_eq_true rfl, Nat.le_of_ble_eq_true rfl⟩ (fun r_3 t_3 H locs hR h => ?_)
          refine lv_if_eq (tgt := 27) hx hb dX11_chain_13 (by decide) (fun c_4 => ?_) (fun c_4 => ?_)
          · have hR := hR.1 c_4
            exact ih.2 t_3 li lj H locs ls hR (lv_sub hl [0, 1, 2] rfl) h
          · have hR := hR.2 c_4
            refine lv_aload_n hx hb dX11_chain_16 rfl (lv_at hl 0 rfl) ?_
            refine x_get (ci := 11) (C := RX11) (T := TX11) (N := 11) (v := .ref (ad 4)) B h hin11 0 3 rfl rfl (by decide) (by decide +kernel) rfl dX11_chain_17 ?_
            refine lv_iload_n hx hb dX11_chain_20 rfl (lv_at hl 1 rfl) ?_
            refine x_cVIF (n := 1) (As := [.int (li 1)]) (rest := []) B h (wkX6_isCritical l D cI cJ cB cZ ad k t_3 (li 1) _ hR) ⟨⟨_, rfl⟩, by decide +kernel, Nat.le_of_ble_eq_true rfl, Nat.le_of_ble_eq_true rfl⟩ gX11_chain_X6_isCritical (show ((wX cI cJ cB cZ ad t_3) : va_W)[4]? = some (_, .inr (6, _)) from rfl) rfl rfl hl.1 rfl (Nat.le_of_ble_eq_true rfl) dX11_chain_21 ⟨Nat.le_of_ble_eq_true rfl, Nat.le_of_ble_eq_true rfl⟩ (fun r_5 t_5 H locs hR h => ?_)
            refine lv_if_ne (tgt := 31) hx hb dX11_chain_24 (by decide) (fun c_6 => ?_) (fun c_6 => ?_)
            · have hR := hR.1 c_6
              refine lv_aload_n hx hb dX11_chain_31 rfl (lv_at hl 0 rfl) ?_
              refine x_get (ci := 11) (C := RX11) (T := TX11) (N := 11) (v := .ref (ad 3)) B h hin11 0 2 rfl rfl (by decide) (by decide +kernel) rfl dX11_chain_32 ?_
              refine x_get (ci := 9) (C := RX9) (T := TX9) (N := 7) (v := .ref (ad 15)) B h hin9 3 2 rfl rfl (by decide) (by decide +kernel) rfl dX11_chain_35 ?_
              refine lv_iload_n hx hb dX11_chain_38 rfl (lv_at hl 1 rfl) ?_
              obtain ⟨hb_7, hR⟩ := hR
              refine va_iald (f := (t_5.2.2.1 3)) hx hb B.2.1 h.1 15 0 rfl rfl hb_7 dX11_chain_39 ?_
              refine lv_topi (fun v_7 ev_7 => ?_)
              have hR := hR v_7 ev_7
              refine lv_aload_n hx hb dX11_chain_40 rfl (lv_at hl 0 rfl) ?_
              refine x_get (ci := 11) (C := RX11) (T := TX11) (N := 11) (v := .ref (ad 3)) B h hin11 0 2 rfl rfl (by decide) (by decide +kernel) rfl dX11_chain_41 ?_
              refine x_get (ci := 9) (C := RX9) (T := TX9) (N := 7) (v := .ref (ad 15)) B h hin9 3 2 rfl rfl (by decide) (by decide +kernel) rfl dX11_chain_44 ?_
              refine lv_iload_n hx hb dX11_chain_47 rfl (lv_at hl 2 rfl) ?_
              obtain ⟨hb_8, hR⟩ := hR
              refine va_iald (f := (t_5.2.2.1 3)) hx hb B.2.1 h.1 15 0 rfl rfl hb_8 dX11_chain_48 ?_
              refine lv_topi (fun v_8 ev_8 => ?_)
              have hR := hR v_8 ev_8
              refine lv_icmp_eq (tgt := 56) hx hb dX11_chain_49 (by decide) (fun c_9 => ?_) (fun c_9 => ?_)
              · have hR := hR.1 c_9
                refine lv_aload_n hx hb dX11_chain_56 rfl (lv_at hl 0 rfl) ?_
                refine x_get (ci := 11) (C := RX11) (T := TX11) (N := 11) (v := .ref (ad 7)) B h hin11 0 6 rfl rfl (by decide) (by decide +kernel) rfl dX11_chain_57 ?_
                refine lv_iload_n hx hb dX11_chain_60 rfl (lv_at hl 1 rfl) ?_
                refine x_cVVF (n := 1) (As := [.int (li 1)]) (rest := []) B h (wkX1_start l D cI cJ cB cZ ad k t_5 (li 1) _ hR) ⟨⟨_, rfl⟩, by decide +kernel, Nat.le_of_ble_eq_true rfl, Nat.le_of_ble_eq_true rfl⟩ gX11_chain_X1_start (show ((wX cI cJ cB cZ ad t_5) : va_W)[7]? = some (_, .inr (1, _)) from rfl) rfl rfl hl.1 rfl (Nat.le_of_ble_eq_true rfl) dX11_chain_61 ⟨Nat.le_of_ble_eq_true rfl, Nat.le_of_ble_eq_true rfl⟩ (fun t_10 H locs hR h => ?_)
                refine lv_aload_n hx hb dX11_chain_64 rfl (lv_at hl 0 rfl) ?_
                refine x_get (ci := 11) (C := RX11) (T := TX11) (N := 11) (v := .ref (ad 7)) B h hin11 0 6 rfl rfl (by decide) (by decide +kernel) rfl dX11_chain_65 ?_
                refine lv_aload_n hx hb dX11_chain_68 rfl (lv_at hl 0 rfl) ?_
                refine x_get (ci := 11) (C := RX11) (T := TX11) (N := 11) (v := .ref (ad 3)) B h hin11 0 2 rfl rfl (by decide) (by decide +kernel) rfl dX11_chain_69 ?_
                refine x_get (ci := 9) (C := RX9) (T := TX9) (N := 7) (v := .ref (ad 15)) B h hin9 3 2 rfl rfl (by decide) (by decide +kernel) rfl dX11_chain_72 ?_
                refine lv_iload_n hx hb dX11_chain_75 rfl (lv_at hl 1 rfl) ?_
                obtain ⟨hb_11, hR⟩ := hR
                refine va_iald (f := (t_10.2.2.1 3)) hx hb B.2.1 h.1 15 0 rfl rfl hb_11 dX11_chain_76 ?_
                refine lv_topi (fun v_11 ev_11 => ?_)
                have hR := hR v_11 ev_11
                refine lv_iconst (v := 1) hx hb dX11_chain_77 (by decide) ?_
                refine x_cVVF (n := 2) (As := [.int v_11, .int 1]) (rest := []) B h (wkX1_pour l D cI cJ cB cZ ad k t_10 v_11 1 _ hR) ⟨⟨_, rfl⟩, by decide +kernel, Nat.le_of_ble_eq_true rfl, Nat.le_of_ble_eq_true rfl⟩ gX11_chain_X1_pour (show ((wX cI cJ cB cZ ad t_10) : va_W)[7]? = some (_, .inr (1, _)) from rfl) rfl rfl hl.1 rfl (Nat.le_of_ble_eq_true rfl) dX11_chain_78 ⟨Nat.le_of_ble_eq_true rfl, Nat.le_of_ble_eq_true rfl⟩ (fun t_12 H locs hR h => ?_)
                refine lv_aload_n hx hb dX11_chain_81 rfl (lv_at hl 0 rfl) ?_
                refine x_get (ci := 11) (C := RX11) (T := TX11) (N := 11) (v := .ref (ad 7)) B h hin11 0 6 rfl rfl (by decide) (by decide +kernel) rfl dX11_chain_82 ?_
                refine x_get (ci := 1) (C := RX1) (T := TX1) (N := 7) (v := .ref (ad 23)) B h hin1 7 3 rfl rfl (by decide) (by decide +kernel) rfl dX11_chain_85 ?_
                refine lv_iload_n hx hb dX11_chain_88 rfl (lv_at hl 2 rfl) ?_
                obtain ⟨hb_13, hR⟩ := hR
                refine va_lald (f := (t_12.2.2.2 3)) hx hb B.2.1 h.1 23 1 rfl rfl hb_13 dX11_chain_89 ?_
                refine lv_topl (fun v_13 ev_13 => ?_)
                have hR := hR v_13 ev_13
                exact x_lret (w1 := (fun u : XT => (wX cI cJ cB cZ ad u))) t_12 B h hr hR dX11_chain_90
              · have hR := hR.2 c_9
                refine lv_ldc2 (v := (-9223372036854775808)) hx hb hown (hts (.constantLong RX11 244 (-9223372036854775808)) (by decide +kernel)) dX11_chain_52 ?_
                exact x_lret (w1 := (fun u : XT => (wX cI cJ cB cZ ad u))) t_5 B h hr hR dX11_chain_55
            · have hR := hR.2 c_6
              exact ih.2 t_5 li lj H locs ls hR (lv_sub hl [0, 1, 2] rfl) h
      · intro t li lj H locs ls hR hl h
        have hR : wbX11_chain_1 (wpX11_chain k) k t li lj Q := hR
        unfold wbX11_chain_1 at hR
        refine lv_ldc2 (v := (-9223372036854775808)) hx hb hown (hts (.constantLong RX11 244 (-9223372036854775808)) (by decide +kernel)) dX11_chain_27 ?_
        exact x_lret (w1 := (fun u : XT => (wX cI cJ cB cZ ad u))) t B h hr hR dX11_chain_30
  exact (main k).1 t _ _ s.heap [] ls hR hl h
set_option maxRecDepth 20000 in
theorem ggX11_root_X11_isThere : GoodIn wsX11_root wsX11_isThere := goodIn_r _ [11, 1, 3, 12, 13, 14, 15, 16, 17, 18, 19, 20, 10, 21, 35, 36, 37, 38, 39, 40, 41, 42, 43, 44, 45, 53, 54, 55, 56, 57, 58, 46, 47, 48, 49, 50, 51, 52] (by decide +kernel) (by decide +kernel)
set_option maxRecDepth 20000 in
theorem gX11_root_X11_isThere : GoodIn wsX11_root (wsV RX11 130 RX11 yX11_isThere wsX11_isThere) := goodIn_app (goodIn_of _ (by decide +kernel)) ggX11_root_X11_isThere
set_option maxRecDepth 20000 in
theorem ggX11_root_X11_bit : GoodIn wsX11_root wsX11_bit := goodIn_r _ [24] (by decide +kernel) (by decide +kernel)
set_option maxRecDepth 20000 in
theorem gX11_root_X11_bit : GoodIn wsX11_root (va_wsS RX11 256 yX11_bit wsX11_bit) := goodIn_app (goodIn_of _ (by decide +kernel)) ggX11_root_X11_bit
set_option maxRecDepth 20000 in
theorem ggX11_root_X11_lowest : GoodIn wsX11_root wsX11_lowest := goodIn_r _ [27, 28, 29, 30, 31, 32, 33, 34] (by decide +kernel) (by decide +kernel)
set_option maxRecDepth 20000 in
theorem gX11_root_X11_lowest : GoodIn wsX11_root (va_wsS RX11 220 yX11_lowest wsX11_lowest) := goodIn_app (goodIn_of _ (by decide +kernel)) ggX11_root_X11_lowest
def wbX11_root_0 (rec : Nat → XT → (Nat → Int32) → (Nat → Int64) → (Int32 → XT → Prop) → Prop) (k : Nat) (t : XT) (li : Nat → Int32) (lj : Nat → Int64) (Q : Int32 → XT → Prop) : Prop :=
  (wqX11_isThere k t (li 1) (fun r_1 t_1 => ((r_1 = 0) → rec 1 t_1 li lj Q) ∧ (¬ (r_1 = 0) → (vp_in (li 1) 64 ∧ (∀ v_3 : Int32, v_3 = (t_1.2.2.1 3) (li 1).toNatClampNeg → ((¬ v_3 = 0) → rec 1 t_1 li lj Q) ∧ ((v_3 = 0) → (((li 2) < 0) → rec 1 t_1 li lj Q) ∧ (¬ ((li 2) < 0) → (((li 2) ≤ 1) → rec 2 t_1 (uI (uI (uI li 3 (li 1)) 4 0) 5 0) lj Q) ∧ (¬ ((li 2) ≤ 1) → rec 1 t_1 li lj Q))))))))
def wbX11_root_1 (rec : Nat → XT → (Nat → Int32) → (Nat → Int64) → (Int32 → XT → Prop) → Prop) (k : Nat) (t : XT) (li : Nat → Int32) (lj : Nat → Int64) (Q : Int32 → XT → Prop) : Prop :=
  Q (-1) t
def wbX11_root_2 (rec : Nat → XT → (Nat → Int32) → (Nat → Int64) → (Int32 → XT → Prop) → Prop) (k : Nat) (t : XT) (li : Nat → Int32) (lj : Nat → Int64) (Q : Int32 → XT → Prop) : Prop :=
  (((60 : Int32) ≤ (li 5)) → rec 3 t li lj Q) ∧ (¬ ((60 : Int32) ≤ (li 5)) → (vp_in (li 3) 64 ∧ (∀ v_8 : Int32, v_8 = (t.2.2.1 5) (li 3).toNatClampNeg → ((v_8 = (-1)) → rec 3 t li lj Q) ∧ (¬ (v_8 = (-1)) → (vp_in (li 3) 64 ∧ (∀ v_10 : Int32, v_10 = (t.2.2.1 5) (li 3).toNatClampNeg → (vp_in v_10 64 ∧ (∀ v_11 : Int64, v_11 = (t.2.2.2 0) v_10.toNatClampNeg → (wqX11_bit k (li 3) (fun r_12 => (∀ v_13 : Int64, v_13 = (r_12 ^^^ (-1)) → (∀ v_14 : Int64, v_14 = (v_11 &&& v_13) → (wqX11_lowest k v_14 (fun r_15 => (∀ v_16 : Int32, v_16 = (li 4) + Int32.ofInt 1 → (∀ v_17 : Int32, v_17 = (li 5) + Int32.ofInt 1 → rec 2 t (uI (uI (uI li 3 r_15) 4 v_16) 5 v_17) lj Q))))))))))))))))
def wbX11_root_3 (rec : Nat → XT → (Nat → Int32) → (Nat → Int64) → (Int32 → XT → Prop) → Prop) (k : Nat) (t : XT) (li : Nat → Int32) (lj : Nat → Int64) (Q : Int32 → XT → Prop) : Prop :=
  ((¬ (li 2) = 0) → Q (li 4) t) ∧ (((li 2) = 0) → Q (li 3) t)
def wpX11_root : Nat → Nat → XT → (Nat → Int32) → (Nat → Int64) → (Int32 → XT → Prop) → Prop
  | 0, _, _, _, _, _ => False
  | k + 1, 0, t, li, lj, Q => wbX11_root_0 (wpX11_root k) k t li lj Q
  | k + 1, 1, t, li, lj, Q => wbX11_root_1 (wpX11_root k) k t li lj Q
  | k + 1, 2, t, li, lj, Q => wbX11_root_2 (wpX11_root k) k t li lj Q
  | k + 1, 3, t, li, lj, Q => wbX11_root_3 (wpX11_root k) k t li lj Q
  | _ + 1, _, _, _, _, _ => False
def wqX11_root (k : Nat) (t : XT) (a1 : Int32) (a2 : Int32) (Q : Int32 → XT → Prop) : Prop := wpX11_root k 0 t (uI (uI (fun _ => 0) 1 a1) 2 a2) (fun _ => 0) Q
set_option maxHeartbeats 8000000 in
set_option maxRecDepth 100000 in
theorem wkX11_root (l : Launch) (D : va_G) (cI cJ cB cZ : ClassId) (ad : Nat → Nat) (k : Nat) (t : XT) (a1 : Int32) (a2 : Int32) (Q : Int32 → XT → Prop) (hR : wqX11_root k t a1 a2 Q) : MetI l yX11_root wsX11_root 2 43 0 0 D (TYS cI cJ cB cZ) (wX cI cJ cB cZ ad t) [.ref (ad 0), .int a1, .int a2] (fun r u => Q r u) (fun u : XT => (wX cI cJ cB cZ ad u)) := by
  refine x_startI (ty := .int) (cc := cX11_root) (by decide) rfl (Nat.le_of_ble_eq_true rfl) ?_
  intro p e s m args below meth c A ls B hr hnm h hl
  have hx := B.1.1
  have hb := B.1.2.1
  have hml := B.1.2.2.1
  have hts := B.1.2.2.2.2
  have hown : s.vm.findClass RX11 = some m.cls := B.1.2.2.2.1
  have hin6 : ∀ w ∈ u_ws RX6 TX6 6, w ∈ wsX11_root := by decide +kernel
  have hin9 : ∀ w ∈ u_ws RX9 TX9 7, w ∈ wsX11_root := by decide +kernel
  have hin11 : ∀ w ∈ u_ws RX11 TX11 11, w ∈ wsX11_root := by decide +kernel
  have main : ∀ k : Nat, (∀ (t : XT) (li : Nat → Int32) (lj : Nat → Int64) (H : Heap) (locs : List Loc) (ls : Array Slot), wpX11_root k 0 t li lj Q → lv_has ls 8 [(0, .ref (ad 0)), (1, .int (li 1)), (2, .int (li 2))] → Hp D A s.heap (wX cI cJ cB cZ ad t) H locs → W p l e { frames := 2, cells := 0, slots := 0, locals := 43 } s m args below meth c H locs 0 0 (MQ below (va_Qi (fun r u => Q r u) (fun u t => xEnd D ((fun u : XT => (wX cI cJ cB cZ ad u)) u) A t) A) args s 0 0 A) (F0 m 0 ls [])) ∧
      (∀ (t : XT) (li : Nat → Int32) (lj : Nat → Int64) (H : Heap) (locs : List Loc) (ls : Array Slot), wpX11_root k 1 t li lj Q → lv_has ls 8 [(0, .ref (ad 0)), (1, .int (li 1)), (2, .int (li 2))] → Hp D A s.heap (wX cI cJ cB cZ ad t) H locs → W p l e { frames := 2, cells := 0, slots := 0, locals := 43 } s m args below meth c H locs 0 0 (MQ below (va_Qi (fun r u => Q r u) (fun u t => xEnd D ((fun u : XT => (wX cI cJ cB cZ ad u)) u) A t) A) args s 0 0 A) (F0 m 29 ls [])) ∧
      (∀ (t : XT) (li : Nat → Int32) (lj : Nat → Int64) (H : Heap) (locs : List Loc) (ls : Array Slot), wpX11_root k 2 t li lj Q → lv_has ls 8 [(0, .ref (ad 0)), (1, .int (li 1)), (2, .int (li 2)), (3, .int (li 3)), (4, .int (li 4)), (5, .int (li 5))] → Hp D A s.heap (wX cI cJ cB cZ ad t) H locs → W p l e { frames := 2, cells := 0, slots := 0, locals := 43 } s m args below meth c H locs 0 0 (MQ below (va_Qi (fun r u => Q r u) (fun u t => xEnd D ((fun u : XT => (wX cI cJ cB cZ ad u)) u) A t) A) args s 0 0 A) (F0 m 39 ls [])) ∧
      (∀ (t : XT) (li : Nat → Int32) (lj : Nat → Int64) (H : Heap) (locs : List Loc) (ls : Array Slot), wpX11_root k 3 t li lj Q → lv_has ls 8 [(0, .ref (ad 0)), (1, .int (li 1)), (2, .int (li 2)), (3, .int (li 3)), (4, .int (li 4)), (5, .int (li 5))] → Hp D A s.heap (wX cI cJ cB cZ ad t) H locs → W p l e { frames := 2, cells := 0, slots := 0, locals := 43 } s m args below meth c H locs 0 0 (MQ below (va_Qi (fun r u => Q r u) (fun u t => xEnd D ((fun u : XT => (wX cI cJ cB cZ ad u)) u) A t) A) args s 0 0 A) (F0 m 102 ls [])) := by
    intro k
    induction k with
    | zero => exact ⟨fun _ _ _ _ _ _ hR => False.elim hR, fun _ _ _ _ _ _ hR => False.elim hR, fun _ _ _ _ _ _ hR => False.elim hR, fun _ _ _ _ _ _ hR => False.elim hR⟩
    | succ k ih =>
      refine ⟨?_, ?_, ?_, ?_⟩
      · intro t li lj H locs ls hR hl h
        have hR : wbX11_root_0 (wpX11_root k) k t li lj Q := hR
        unfold wbX11_root_0 at hR
        refine lv_aload_n hx hb dX11_root_0 rfl (lv_at hl 0 rfl) ?_
        refine lv_iload_n hx hb dX11_root_1 rfl (lv_at hl 1 rfl) ?_
        refine x_cVIF (n := 1) (As := [.int (li 1)]) (rest := []) B h (wkX11_isThere l D cI cJ cB cZ ad k t (li 1) _ hR) ⟨⟨_, rfl⟩, by decide +kernel, Nat.le_of_ble_eq_true rfl, Nat.le_of_ble_eq_true rfl⟩ gX11_root_X11_isThere (show ((wX cI cJ cB cZ ad t) : va_W)[0]? = some (_, .inr (11, _)) from rfl) rfl rfl hl.1 rfl (Nat.le_of_ble_eq_true rfl) dX11_root_2 ⟨Nat.le_of_ble_eq_true rfl, Nat.le_of_ble_eq_true rfl⟩ (fun r_1 t_1 H locs hR h => ?_)
        refine lv_if_eq (tgt := 29) hx hb dX11_root_5 (by decide) (fun c_2 => ?_) (fun c_2 => ?_)
        · have hR := hR.1 c_2
          exact ih.2.1 t_1 li lj H locs ls hR (lv_sub hl [0, 1, 2] rfl) h
        · have hR := hR.2 c_2
          refine lv_aload_n hx hb dX11_root_8 rfl (lv_at hl 0 rfl) ?_
          refine x_get (ci := 11) (C := RX11) (T := TX11) (N := 11) (v := .ref (ad 3)) B h hin11 0 2 rfl rfl (by decide) (by decide +kernel) rfl dX11_root_9 ?_
          refine x_get (ci := 9) (C := RX9) (T := TX9) (N := 7) (v := .ref (ad 15)) B h hin9 3 2 rfl rfl (by decide) (by decide +kernel) rfl dX11_root_12 ?_
          refine lv_iload_n hx hb dX11_root_15 rfl (lv_at hl 1 rfl) ?_
          obtain ⟨hb_3, hR⟩ := hR
          refine va_iald (f := (t_1.2.2.1 3)) hx hb B.2.1 h.1 15 0 rfl rfl hb_3 dX11_root_16 ?_
          refine lv_topi (fun v_3 ev_3 => ?_)
          have hR := hR v_3 ev_3
          refine lv_if_ne (tgt := 29) hx hb dX11_root_17 (by decide) (fun c_4 => ?_) (fun c_4 => ?_)
          · have hR := hR.1 c_4
            exact ih.2.1 t_1 li lj H locs ls hR (lv_sub hl [0, 1, 2] rfl) h
          · have hR := hR.2 c_4
            refine lv_iload_n hx hb dX11_root_20 rfl (lv_at hl 2 rfl) ?_
            refine lv_if_lt (tgt := 29) hx hb dX11_root_21 (by decide) (fun c_5 => ?_) (fun c_5 => ?_)
            · have hR := hR.1 c_5
              exact ih.2.1 t_1 li lj H locs ls hR (lv_sub hl [0, 1, 2] rfl) h
            · have hR := hR.2 c_5
              refine lv_iload_n hx hb dX11_root_24 rfl (lv_at hl 2 rfl) ?_
              refine lv_iconst (v := 1) hx hb dX11_root_25 (by decide) ?_
              refine lv_icmp_le (tgt := 31) hx hb dX11_root_26 (by decide) (fun c_6 => ?_) (fun c_6 => ?_)
              · have hR := hR.1 c_6
                refine lv_iload_n hx hb dX11_root_31 rfl (lv_at hl 1 rfl) ?_
                refine lv_istore_n (lv' := [(3, .int (li 1)), (0, .ref (ad 0)), (1, .int (li 1)), (2, .int (li 2))]) hx hb dX11_root_32 rfl hl (by decide) rfl (fun ls hl => ?_)
                refine lv_iconst (v := 0) hx hb dX11_root_33 (by decide) ?_
                refine lv_istore (lv' := [(4, .int 0), (3, .int (li 1)), (0, .ref (ad 0)), (1, .int (li 1)), (2, .int (li 2))]) hx hb dX11_root_34 hl (by decide) rfl (fun ls hl => ?_)
                refine lv_iconst (v := 0) hx hb dX11_root_36 (by decide) ?_
                refine lv_istore (lv' := [(5, .int 0), (4, .int 0), (3, .int (li 1)), (0, .ref (ad 0)), (1, .int (li 1)), (2, .int (li 2))]) hx hb dX11_root_37 hl (by decide) rfl (fun ls hl => ?_)
                exact ih.2.2.1 t_1 (uI (uI (uI li 3 (li 1)) 4 0) 5 0) lj H locs ls hR (lv_sub hl [3, 4, 5, 2, 1, 0] rfl) h
              · have hR := hR.2 c_6
                exact ih.2.1 t_1 li lj H locs ls hR (lv_sub hl [0, 1, 2] rfl) h
      · intro t li lj H locs ls hR hl h
        have hR : wbX11_root_1 (wpX11_root k) k t li lj Q := hR
        unfold wbX11_root_1 at hR
        refine lv_iconst (v := (-1)) hx hb dX11_root_29 (by decide) ?_
        exact x_iret (w1 := (fun u : XT => (wX cI cJ cB cZ ad u))) t B h hr rfl hR dX11_root_30
      · intro t li lj H locs ls hR hl h
        have hR : wbX11_root_2 (wpX11_root k) k t li lj Q := hR
        unfold wbX11_root_2 at hR
        refine lv_iload hx hb dX11_root_39 (lv_at hl 5 rfl) ?_
        refine lv_bipush (v := 60) hx hb dX11_root_41 (by decide) ?_
        refine lv_icmp_ge (tgt := 102) hx hb dX11_root_43 (by decide) (fun c_7 => ?_) (fun c_7 => ?_)
        · have hR := hR.1 c_7
          exact ih.2.2.2 t li lj H locs ls hR (lv_sub hl [0, 1, 2, 3, 4, 5] rfl) h
        · have hR := hR.2 c_7
          refine lv_aload_n hx hb dX11_root_46 rfl (lv_at hl 0 rfl) ?_
          refine x_get (ci := 11) (C := RX11) (T := TX11) (N := 11) (v := .ref (ad 4)) B h hin11 0 3 rfl rfl (by decide) (by decide +kernel) rfl dX11_root_47 ?_
          refine x_get (ci := 6) (C := RX6) (T := TX6) (N := 6) (v := .ref (ad 20)) B h hin6 4 1 rfl rfl (by decide) (by decide +kernel) rfl dX11_root_50 ?_
          refine lv_iload_n hx hb dX11_root_53 rfl (lv_at hl 3 rfl) ?_
          obtain ⟨hb_8, hR⟩ := hR
          refine va_iald (f := (t.2.2.1 5)) hx hb B.2.1 h.1 20 0 rfl rfl hb_8 dX11_root_54 ?_
          refine lv_topi (fun v_8 ev_8 => ?_)
          have hR := hR v_8 ev_8
          refine lv_iconst (v := (-1)) hx hb dX11_root_55 (by decide) ?_
          refine lv_icmp_eq (tgt := 102) hx hb dX11_root_56 (by decide) (fun c_9 => ?_) (fun c_9 => ?_)
          · have hR := hR.1 c_9
            exact ih.2.2.2 t li lj H locs ls hR (lv_sub hl [0, 1, 2, 3, 4, 5] rfl) h
          · have hR := hR.2 c_9
            refine lv_aload_n hx hb dX11_root_59 rfl (lv_at hl 0 rfl) ?_
            refine x_get (ci := 11) (C := RX11) (T := TX11) (N := 11) (v := .ref (ad 3)) B h hin11 0 2 rfl rfl (by decide) (by decide +kernel) rfl dX11_root_60 ?_
            refine x_get (ci := 9) (C := RX9) (T := TX9) (N := 7) (v := .ref (ad 17)) B h hin9 3 4 rfl rfl (by decide) (by decide +kernel) rfl dX11_root_63 ?_
            refine lv_aload_n hx hb dX11_root_66 rfl (lv_at hl 0 rfl) ?_
            refine x_get (ci := 11) (C := RX11) (T := TX11) (N := 11) (v := .ref (ad 4)) B h hin11 0 3 rfl rfl (by decide) (by decide +kernel) rfl dX11_root_67 ?_
            refine x_get (ci := 6) (C := RX6) (T := TX6) (N := 6) (v := .ref (ad 20)) B h hin6 4 1 rfl rfl (by decide) (by decide +kernel) rfl dX11_root_70 ?_
            refine lv_iload_n hx hb dX11_root_73 rfl (lv_at hl 3 rfl) ?_
            obtain ⟨hb_10, hR⟩ := hR
            refine va_iald (f := (t.2.2.1 5)) hx hb B.2.1 h.1 20 0 rfl rfl hb_10 dX11_root_74 ?_
            refine lv_topi (fun v_10 ev_10 => ?_)
            have hR := hR v_10 ev_10
            obtain ⟨hb_11, hR⟩ := hR
            refine va_lald (f := (t.2.2.2 0)) hx hb B.2.1 h.1 17 1 rfl rfl hb_11 dX11_root_75 ?_
            refine lv_topl (fun v_11 ev_11 => ?_)
            have hR := hR v_11 ev_11
            refine lv_iload_n hx hb dX11_root_76 rfl (lv_at hl 3 rfl) ?_
            refine x_cSLE (n := 1) (As := [.int (li 3)]) (rest := [.long v_11]) B h (wkX11_bit l D cI cJ cB cZ ad k (li 3) _ hR) ⟨⟨_, rfl⟩, by decide +kernel, Nat.le_of_ble_eq_true rfl, Nat.le_of_ble_eq_true rfl⟩ gX11_root_X11_bit rfl hl.1 rfl (Nat.le_of_ble_eq_true rfl) dX11_root_77 ⟨Nat.le_of_ble_eq_true rfl, Nat.le_of_ble_eq_true rfl⟩ (fun r_12 _ H locs hR h => ?_)
            refine lv_ldc2 (v := (-1)) hx hb hown (hts (.constantLong RX11 242 (-1)) (by decide +kernel)) dX11_root_80 ?_
            refine lv_lxor hx hb dX11_root_83 ?_
            refine lv_topl (fun v_13 ev_13 => ?_)
            have hR := hR v_13 ev_13
            refine lv_land hx hb dX11_root_84 ?_
            refine lv_topl (fun v_14 ev_14 => ?_)
            have hR := hR v_14 ev_14
            refine lv_lstore (lv' := [(6, .long v_14), (0, .ref (ad 0)), (1, .int (li 1)), (2, .int (li 2)), (3, .int (li 3)), (4, .int (li 4)), (5, .int (li 5))]) hx hb dX11_root_85 hl (by decide) rfl (fun ls hl => ?_)
            refine lv_lload hx hb dX11_root_87 (lv_at hl 0 rfl) ?_
            refine x_cSIE (n := 1) (As := [.long v_14]) (rest := []) B h (wkX11_lowest l D cI cJ cB cZ ad k v_14 _ hR) ⟨⟨_, rfl⟩, by decide +kernel, Nat.le_of_ble_eq_true rfl, Nat.le_of_ble_eq_true rfl⟩ gX11_root_X11_lowest rfl hl.1 rfl (Nat.le_of_ble_eq_true rfl) dX11_root_89 ⟨Nat.le_of_ble_eq_true rfl, Nat.le_of_ble_eq_true rfl⟩ (fun r_15 _ H locs hR h => ?_)
            refine lv_istore_n (lv' := [(3, .int r_15), (6, .long v_14), (0, .ref (ad 0)), (1, .int (li 1)), (2, .int (li 2)), (4, .int (li 4)), (5, .int (li 5))]) hx hb dX11_root_92 rfl hl (by decide) rfl (fun ls hl => ?_)
            obtain ⟨v_16, ev_16⟩ : ∃ v : Int32, v = (li 4) + Int32.ofInt 1 := ⟨_, rfl⟩
            have hR := hR v_16 ev_16
            refine lv_iinc (v := v_16) (lv' := [(4, .int v_16), (3, .int r_15), (6, .long v_14), (0, .ref (ad 0)), (1, .int (li 1)), (2, .int (li 2)), (5, .int (li 5))]) hx hb dX11_root_93 hl (k := 5) rfl ev_16.symm (by decide) rfl (fun ls hl => ?_)
            obtain ⟨v_17, ev_17⟩ : ∃ v : Int32, v = (li 5) + Int32.ofInt 1 := ⟨_, rfl⟩
            have hR := hR v_17 ev_17
            refine lv_iinc (v := v_17) (lv' := [(5, .int v_17), (4, .int v_16), (3, .int r_15), (6, .long v_14), (0, .ref (ad 0)), (1, .int (li 1)), (2, .int (li 2))]) hx hb dX11_root_96 hl (k := 6) rfl ev_17.symm (by decide) rfl (fun ls hl => ?_)
            refine lv_goto (tgt := 39) hx hb dX11_root_99 (by decide) ?_
            exact ih.2.2.1 t (uI (uI (uI li 3 r_15) 4 v_16) 5 v_17) lj H locs ls hR (lv_sub hl [4, 5, 6, 2, 1, 0] rfl) h
      · intro t li lj H locs ls hR hl h
        have hR : wbX11_root_3 (wpX11_root k) k t li lj Q := hR
        unfold wbX11_root_3 at hR
        refine lv_iload_n hx hb dX11_root_102 rfl (lv_at hl 2 rfl) ?_
        refine lv_if_ne (tgt := 110) hx hb dX11_root_103 (by decide) (fun c_18 => ?_) (fun c_18 => ?_)
        · have hR := hR.1 c_18
          refine lv_iload hx hb dX11_root_110 (lv_at hl 4 rfl) ?_
          exact x_iret (w1 := (fun u : XT => (wX cI cJ cB cZ ad u))) t B h hr rfl hR dX11_root_112
        · have hR := hR.2 c_18
          refine lv_iload_n hx hb dX11_root_106 rfl (lv_at hl 3 rfl) ?_
          refine lv_goto (tgt := 112) hx hb dX11_root_107 (by decide) ?_
          exact x_iret (w1 := (fun u : XT => (wX cI cJ cB cZ ad u))) t B h hr rfl hR dX11_root_112
  exact (main k).1 t _ _ s.heap [] ls hR hl h
