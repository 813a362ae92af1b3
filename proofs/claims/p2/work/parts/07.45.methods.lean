set_option maxRecDepth 20000 in
theorem ggX5_makeDivide_X5_gcd : GoodIn wsX5_makeDivide wsX5_gcd := goodIn_r _ [5, 6, 7, 8, 9] (by decide +kernel) (by decide +kernel)
set_option maxRecDepth 20000 in
theorem gX5_makeDivide_X5_gcd : GoodIn wsX5_makeDivide (va_wsS RX5 70 yX5_gcd wsX5_gcd) := goodIn_app (goodIn_of _ (by decide +kernel)) ggX5_makeDivide_X5_gcd
def wbX5_makeDivide_0 (rec : Nat → XT → (Nat → Int32) → (Nat → Int64) → (XT → Prop) → Prop) (k : Nat) (t : XT) (li : Nat → Int32) (lj : Nat → Int64) (Q : XT → Prop) : Prop :=
  (vp_in (li 1) 64 ∧ (∀ v_1 : Int64, v_1 = (t.2.2.2 9) (li 1).toNatClampNeg → (vp_in (li 2) 64 ∧ (∀ v_2 : Int64, v_2 = (t.2.2.2 9) (li 2).toNatClampNeg → (wqX5_gcd k v_1 v_2 (fun r_3 => (∀ v_4 : Int32, v_4 = (lg_cmp r_3 0) → ((v_4 = 0) → Q t) ∧ (¬ (v_4 = 0) → (vp_in (li 1) 64 ∧ (∀ v_6 : Int64, v_6 = (t.2.2.2 9) (li 1).toNatClampNeg → ((¬ r_3 = 0) ∧ (∀ v_7 : Int64, v_7 = (v_6 / r_3) → (vp_in (li 2) 64 ∧ (∀ v_8 : Int64, v_8 = (t.2.2.2 9) (li 2).toNatClampNeg → (∀ v_9 : Int64, v_9 = (v_7 * v_8) → (vp_in (li 2) 64 ∧ (∀ t_10 : XT, t_10 = sB t 9 (vp_updL (t.2.2.2 9) (li 2).toNatClampNeg v_9) → (vp_in (li 1) 64 ∧ (∀ t_11 : XT, t_11 = sB t_10 9 (vp_updL (t_10.2.2.2 9) (li 1).toNatClampNeg r_3) → Q t_11)))))))))))))))))))
def wpX5_makeDivide : Nat → Nat → XT → (Nat → Int32) → (Nat → Int64) → (XT → Prop) → Prop
  | 0, _, _, _, _, _ => False
  | k + 1, 0, t, li, lj, Q => wbX5_makeDivide_0 (wpX5_makeDivide k) k t li lj Q
  | _ + 1, _, _, _, _, _ => False
def wqX5_makeDivide (k : Nat) (t : XT) (a1 : Int32) (a2 : Int32) (Q : XT → Prop) : Prop := wpX5_makeDivide k 0 t (uI (uI (fun _ => 0) 1 a1) 2 a2) (fun _ => 0) Q
set_option maxHeartbeats 8000000 in
set_option maxRecDepth 100000 in
theorem wkX5_makeDivide (l : Launch) (D : va_G) (cI cJ cB cZ : ClassId) (ad : Nat → Nat) (k : Nat) (t : XT) (a1 : Int32) (a2 : Int32) (Q : XT → Prop) (hR : wqX5_makeDivide k t a1 a2 Q) : MetV l yX5_makeDivide wsX5_makeDivide 2 54 0 0 D (TYS cI cJ cB cZ) (wX cI cJ cB cZ ad t) [.ref (ad 11), .int a1, .int a2] (fun u => Q u) (fun u : XT => (wX cI cJ cB cZ ad u)) := by
  refine x_startV (ty := .int) (cc := cX5_makeDivide) (by decide) rfl (Nat.le_of_ble_eq_true rfl) ?_
  intro p e s m args below meth c A ls B hr hnm h hl
  have hx := B.1.1
  have hb := B.1.2.1
  have hml := B.1.2.2.1
  have hts := B.1.2.2.2.2
  have hown : s.vm.findClass RX5 = some m.cls := B.1.2.2.2.1
  have hin5 : ∀ w ∈ u_ws RX5 TX5 6, w ∈ wsX5_makeDivide := by decide +kernel
  have main : ∀ k : Nat, (∀ (t : XT) (li : Nat → Int32) (lj : Nat → Int64) (H : Heap) (locs : List Loc) (ls : Array Slot), wpX5_makeDivide k 0 t li lj Q → lv_has ls 5 [(0, .ref (ad 11)), (1, .int (li 1)), (2, .int (li 2))] → Hp D A s.heap (wX cI cJ cB cZ ad t) H locs → W p l e { frames := 2, cells := 0, slots := 0, locals := 54 } s m args below meth c H locs 0 0 (MQ below (va_Qv (fun u => Q u) (fun u t => xEnd D ((fun u : XT => (wX cI cJ cB cZ ad u)) u) A t) A) args s 0 0 A) (F0 m 0 ls [])) := by
    intro k
    induction k with
    | zero => exact fun _ _ _ _ _ _ hR => False.elim hR
    | succ k ih =>
      intro t li lj H locs ls hR hl h
      have hR : wbX5_makeDivide_0 (wpX5_makeDivide k) k t li lj Q := hR
      unfold wbX5_makeDivide_0 at hR
      refine lv_aload_n hx hb dX5_makeDivide_0 rfl (lv_at hl 0 rfl) ?_
      refine x_get (ci := 5) (C := RX5) (T := TX5) (N := 6) (v := .ref (ad 32)) B h hin5 11 2 rfl rfl (by decide) (by decide +kernel) rfl dX5_makeDivide_1 ?_
      refine lv_iload_n hx hb dX5_makeDivide_4 rfl (lv_at hl 1 rfl) ?_
      obtain ⟨hb_1, hR⟩ := hR
      refine va_lald (f := (t.2.2.2 9)) hx hb B.2.1 h.1 32 1 rfl rfl hb_1 dX5_makeDivide_5 ?_
      refine lv_topl (fun v_1 ev_1 => ?_)
      have hR := hR v_1 ev_1
      refine lv_aload_n hx hb dX5_makeDivide_6 rfl (lv_at hl 0 rfl) ?_
      refine x_get (ci := 5) (C := RX5) (T := TX5) (N := 6) (v := .ref (ad 32)) B h hin5 11 2 rfl rfl (by decide) (by decide +kernel) rfl dX5_makeDivide_7 ?_
      refine lv_iload_n hx hb dX5_makeDivide_10 rfl (lv_at hl 2 rfl) ?_
      obtain ⟨hb_2, hR⟩ := hR
      refine va_lald (f := (t.2.2.2 9)) hx hb B.2.1 h.1 32 1 rfl rfl hb_2 dX5_makeDivide_11 ?_
      refine lv_topl (fun v_2 ev_2 => ?_)
      have hR := hR v_2 ev_2
      refine x_cSLE (n := 2) (As := [.long v_1, .long v_2]) (rest := []) B h (wkX5_gcd l D cI cJ cB cZ ad k v_1 v_2 _ hR) ⟨⟨_, rfl⟩, by decide +kernel, Nat.le_of_ble_eq_true rfl, Nat.le_of_ble_eq_true rfl⟩ gX5_makeDivide_X5_gcd rfl hl.1 rfl (Nat.le_of_ble_eq_true rfl) dX5_makeDivide_12 ⟨Nat.le_of_ble_eq_true rfl, Nat.le_of_ble_eq_true rfl⟩ (fun r_3 _ H locs hR h => ?_)
      refine lv_lstore_n (lv' := [(3, .long r_3), (0, .ref (ad 11)), (1, .int (li 1)), (2, .int (li 2))]) hx hb dX5_makeDivide_15 rfl hl (by decide) rfl (fun ls hl => ?_)
      refine lv_lload_n hx hb dX5_makeDivide_16 rfl (lv_at hl 0 rfl) ?_
      refine lv_lconst (v := 0) hx hb dX5_makeDivide_17 (by decide) ?_
      refine W.lcmp hx hb dX5_makeDivide_18 ?_
      refine lv_topi (fun v_4 ev_4 => ?_)
      have hR := hR v_4 ev_4
      refine lv_if_eq (tgt := 50) hx hb dX5_makeDivide_19 (by decide) (fun c_5 => ?_) (fun c_5 => ?_)
      · have hR := hR.1 c_5
        exact x_vret (w1 := (fun u : XT => (wX cI cJ cB cZ ad u))) t B h hr hR dX5_makeDivide_50
      · have hR := hR.2 c_5
        refine lv_aload_n hx hb dX5_makeDivide_22 rfl (lv_at hl 1 rfl) ?_
        refine x_get (ci := 5) (C := RX5) (T := TX5) (N := 6) (v := .ref (ad 32)) B h hin5 11 2 rfl rfl (by decide) (by decide +kernel) rfl dX5_makeDivide_23 ?_
        refine lv_iload_n hx hb dX5_makeDivide_26 rfl (lv_at hl 3 rfl) ?_
        refine lv_aload_n hx hb dX5_makeDivide_27 rfl (lv_at hl 1 rfl) ?_
        refine x_get (ci := 5) (C := RX5) (T := TX5) (N := 6) (v := .ref (ad 32)) B h hin5 11 2 rfl rfl (by decide) (by decide +kernel) rfl dX5_makeDivide_28 ?_
        refine lv_iload_n hx hb dX5_makeDivide_31 rfl (lv_at hl 2 rfl) ?_
        obtain ⟨hb_6, hR⟩ := hR
        refine va_lald (f := (t.2.2.2 9)) hx hb B.2.1 h.1 32 1 rfl rfl hb_6 dX5_makeDivide_32 ?_
        refine lv_topl (fun v_6 ev_6 => ?_)
        have hR := hR v_6 ev_6
        refine lv_lload_n hx hb dX5_makeDivide_33 rfl (lv_at hl 0 rfl) ?_
        obtain ⟨hd_7, hR⟩ := hR
        refine lv_ldiv hx hb dX5_makeDivide_34 hd_7 ?_
        refine lv_topl (fun v_7 ev_7 => ?_)
        have hR := hR v_7 ev_7
        refine lv_aload_n hx hb dX5_makeDivide_35 rfl (lv_at hl 1 rfl) ?_
        refine x_get (ci := 5) (C := RX5) (T := TX5) (N := 6) (v := .ref (ad 32)) B h hin5 11 2 rfl rfl (by decide) (by decide +kernel) rfl dX5_makeDivide_36 ?_
        refine lv_iload_n hx hb dX5_makeDivide_39 rfl (lv_at hl 3 rfl) ?_
        obtain ⟨hb_8, hR⟩ := hR
        refine va_lald (f := (t.2.2.2 9)) hx hb B.2.1 h.1 32 1 rfl rfl hb_8 dX5_makeDivide_40 ?_
        refine lv_topl (fun v_8 ev_8 => ?_)
        have hR := hR v_8 ev_8
        refine lv_lmul hx hb dX5_makeDivide_41 ?_
        refine lv_topl (fun v_9 ev_9 => ?_)
        have hR := hR v_9 ev_9
        obtain ⟨hb_10, hR⟩ := hR
        refine z_last (f := (t.2.2.2 9)) B h 32 1 rfl rfl hb_10 dX5_makeDivide_42 (fun H locs h => ?_)
        obtain ⟨t_10, et_10⟩ : ∃ v : XT, v = sB t 9 (vp_updL (t.2.2.2 9) (li 2).toNatClampNeg v_9) := ⟨_, rfl⟩
        have hR := hR t_10 et_10
        have h : Hp D A s.heap (wX cI cJ cB cZ ad t_10) H locs := by rw [et_10]; exact h
        refine lv_aload_n hx hb dX5_makeDivide_43 rfl (lv_at hl 1 rfl) ?_
        refine x_get (ci := 5) (C := RX5) (T := TX5) (N := 6) (v := .ref (ad 32)) B h hin5 11 2 rfl rfl (by decide) (by decide +kernel) rfl dX5_makeDivide_44 ?_
        refine lv_iload_n hx hb dX5_makeDivide_47 rfl (lv_at hl 2 rfl) ?_
        refine lv_lload_n hx hb dX5_makeDivide_48 rfl (lv_at hl 0 rfl) ?_
        obtain ⟨hb_11, hR⟩ := hR
        refine z_last (f := (t_10.2.2.2 9)) B h 32 1 rfl rfl hb_11 dX5_makeDivide_49 (fun H locs h => ?_)
        obtain ⟨t_11, et_11⟩ : ∃ v : XT, v = sB t_10 9 (vp_updL (t_10.2.2.2 9) (li 1).toNatClampNeg r_3) := ⟨_, rfl⟩
        have hR := hR t_11 et_11
        have h : Hp D A s.heap (wX cI cJ cB cZ ad t_11) H locs := by rw [et_11]; exact h
        exact x_vret (w1 := (fun u : XT => (wX cI cJ cB cZ ad u))) t_11 B h hr hR dX5_makeDivide_50
  exact (main k) t _ _ s.heap [] ls hR hl h
set_option maxRecDepth 20000 in
theorem ggX5_diagonalise_X5_remainder : GoodIn wsX5_diagonalise wsX5_remainder := goodIn_r _ [13, 14, 15, 16, 17, 18, 19, 60, 61, 62, 63, 64, 65] (by decide +kernel) (by decide +kernel)
set_option maxRecDepth 20000 in
theorem gX5_diagonalise_X5_remainder : GoodIn wsX5_diagonalise (wsV RX5 59 RX5 yX5_remainder wsX5_remainder) := goodIn_app (goodIn_of _ (by decide +kernel)) ggX5_diagonalise_X5_remainder
set_option maxRecDepth 20000 in
theorem ggX5_diagonalise_X5_clearCorner : GoodIn wsX5_diagonalise wsX5_clearCorner := goodIn_r _ [23, 2, 14, 7, 24, 25, 26, 12, 27, 1, 28, 29, 5, 30, 31, 32, 33, 34, 35, 36, 37, 38, 39, 40, 41, 42, 43, 44, 45, 15, 46, 47, 18, 48, 9, 10, 11, 13, 16, 17, 19, 49, 50, 51, 52, 53, 54, 55, 60, 61, 62, 63, 64, 65] (by decide +kernel) (by decide +kernel)
set_option maxRecDepth 20000 in
theorem gX5_diagonalise_X5_clearCorner : GoodIn wsX5_diagonalise (wsV RX5 63 RX5 yX5_clearCorner wsX5_clearCorner) := goodIn_app (goodIn_of _ (by decide +kernel)) ggX5_diagonalise_X5_clearCorner
set_option maxRecDepth 20000 in
theorem ggX5_diagonalise_X5_makeDivide : GoodIn wsX5_diagonalise wsX5_makeDivide := goodIn_r _ [59, 8, 53, 54, 12, 55, 28, 29, 5, 30, 60, 61, 62, 63, 64, 65] (by decide +kernel) (by decide +kernel)
set_option maxRecDepth 20000 in
theorem gX5_diagonalise_X5_makeDivide : GoodIn wsX5_diagonalise (wsV RX5 67 RX5 yX5_makeDivide wsX5_makeDivide) := goodIn_app (goodIn_of _ (by decide +kernel)) ggX5_diagonalise_X5_makeDivide
def wbX5_diagonalise_0 (rec : Nat → XT → (Nat → Int32) → (Nat → Int64) → (XT → Prop) → Prop) (k : Nat) (t : XT) (li : Nat → Int32) (lj : Nat → Int64) (Q : XT → Prop) : Prop :=
  (∀ v_1 : Int32, v_1 = (if (t.1 11) < (t.1 10) then (t.1 11) else (t.1 10)) → rec 1 t (uI (uI li 1 v_1) 2 0) lj Q)
def wbX5_diagonalise_1 (rec : Nat → XT → (Nat → Int32) → (Nat → Int64) → (XT → Prop) → Prop) (k : Nat) (t : XT) (li : Nat → Int32) (lj : Nat → Int64) (Q : XT → Prop) : Prop :=
  (∀ v_2 : Int32, v_2 = ((t.1 10) * (t.1 11)) → (((v_2 : Int32) ≤ (li 2)) → rec 2 t (uI li 2 0) lj Q) ∧ (¬ ((v_2 : Int32) ≤ (li 2)) → (vp_in (li 2) 900 ∧ (∀ v_4 : Int64, v_4 = (t.2.2.2 7) (li 2).toNatClampNeg → (wqX5_remainder k t v_4 (fun r_5 t_5 => (vp_in (li 2) 900 ∧ (∀ t_6 : XT, t_6 = sB t_5 7 (vp_updL (t_5.2.2.2 7) (li 2).toNatClampNeg r_5) → (∀ v_7 : Int32, v_7 = (li 2) + Int32.ofInt 1 → rec 1 t_6 (uI li 2 v_7) lj Q)))))))))
def wbX5_diagonalise_2 (rec : Nat → XT → (Nat → Int32) → (Nat → Int64) → (XT → Prop) → Prop) (k : Nat) (t : XT) (li : Nat → Int32) (lj : Nat → Int64) (Q : XT → Prop) : Prop :=
  ((((li 1) : Int32) ≤ (li 2)) → rec 3 t (uI li 2 0) lj Q) ∧ (¬ (((li 1) : Int32) ≤ (li 2)) → (wqX5_clearCorner k t (li 2) (fun r_9 t_9 => (vp_in (li 2) 64 ∧ (∀ t_10 : XT, t_10 = sB t_9 9 (vp_updL (t_9.2.2.2 9) (li 2).toNatClampNeg r_9) → (∀ v_11 : Int32, v_11 = (li 2) + Int32.ofInt 1 → rec 2 t_10 (uI li 2 v_11) lj Q))))))
def wbX5_diagonalise_3 (rec : Nat → XT → (Nat → Int32) → (Nat → Int64) → (XT → Prop) → Prop) (k : Nat) (t : XT) (li : Nat → Int32) (lj : Nat → Int64) (Q : XT → Prop) : Prop :=
  ((((li 1) : Int32) ≤ (li 2)) → Q t) ∧ (¬ (((li 1) : Int32) ≤ (li 2)) → (∀ v_13 : Int32, v_13 = ((li 2) + 1) → rec 4 t (uI li 3 v_13) lj Q))
def wbX5_diagonalise_4 (rec : Nat → XT → (Nat → Int32) → (Nat → Int64) → (XT → Prop) → Prop) (k : Nat) (t : XT) (li : Nat → Int32) (lj : Nat → Int64) (Q : XT → Prop) : Prop :=
  ((((li 1) : Int32) ≤ (li 3)) → (∀ v_15 : Int32, v_15 = (li 2) + Int32.ofInt 1 → rec 3 t (uI li 2 v_15) lj Q)) ∧ (¬ (((li 1) : Int32) ≤ (li 3)) → (wqX5_makeDivide k t (li 2) (li 3) (fun t_16 => (∀ v_17 : Int32, v_17 = (li 3) + Int32.ofInt 1 → rec 4 t_16 (uI li 3 v_17) lj Q))))
def wpX5_diagonalise : Nat → Nat → XT → (Nat → Int32) → (Nat → Int64) → (XT → Prop) → Prop
  | 0, _, _, _, _, _ => False
  | k + 1, 0, t, li, lj, Q => wbX5_diagonalise_0 (wpX5_diagonalise k) k t li lj Q
  | k + 1, 1, t, li, lj, Q => wbX5_diagonalise_1 (wpX5_diagonalise k) k t li lj Q
  | k + 1, 2, t, li, lj, Q => wbX5_diagonalise_2 (wpX5_diagonalise k) k t li lj Q
  | k + 1, 3, t, li, lj, Q => wbX5_diagonalise_3 (wpX5_diagonalise k) k t li lj Q
  | k + 1, 4, t, li, lj, Q => wbX5_diagonalise_4 (wpX5_diagonalise k) k t li lj Q
  | _ + 1, _, _, _, _, _ => False
def wqX5_diagonalise (k : Nat) (t : XT)  (Q : XT → Prop) : Prop := wpX5_diagonalise k 0 t (fun _ => 0) (fun _ => 0) Q
set_option maxHeartbeats 8000000 in
set_option maxRecDepth 100000 in
theorem wkX5_diagonalise (l : Launch) (D : va_G) (cI cJ cB cZ : ClassId) (ad : Nat → Nat) (k : Nat) (t : XT)  (Q : XT → Prop) (hR : wqX5_diagonalise k t  Q) : MetV l yX5_diagonalise wsX5_diagonalise 4 104 0 0 D (TYS cI cJ cB cZ) (wX cI cJ cB cZ ad t) [.ref (ad 11)] (fun u => Q u) (fun u : XT => (wX cI cJ cB cZ ad u)) := by
  refine x_startV (ty := .int) (cc := cX5_diagonalise) (by decide) rfl (Nat.le_of_ble_eq_true rfl) ?_
  intro p e s m args below meth c A ls B hr hnm h hl
  have hx := B.1.1
  have hb := B.1.2.1
  have hml := B.1.2.2.1
  have hts := B.1.2.2.2.2
  have hown : s.vm.findClass RX5 = some m.cls := B.1.2.2.2.1
  have hin5 : ∀ w ∈ u_ws RX5 TX5 6, w ∈ wsX5_diagonalise := by decide +kernel
  have main : ∀ k : Nat, (∀ (t : XT) (li : Nat → Int32) (lj : Nat → Int64) (H : Heap) (locs : List Loc) (ls : Array Slot), wpX5_diagonalise k 0 t li lj Q → lv_has ls 4 [(0, .ref (ad 11))] → Hp D A s.heap (wX cI cJ cB cZ ad t) H locs → W p l e { frames := 4, cells := 0, slots := 0, locals := 104 } s m args below meth c H locs 0 0 (MQ below (va_Qv (fun u => Q u) (fun u t => xEnd D ((fun u : XT => (wX cI cJ cB cZ ad u)) u) A t) A) args s 0 0 A) (F0 m 0 ls [])) ∧
      (∀ (t : XT) (li : Nat → Int32) (lj : Nat → Int64) (H : Heap) (locs : List Loc) (ls : Array Slot), wpX5_diagonalise k 1 t li lj Q → lv_has ls 4 [(0, .ref (ad 11)), (1, .int (li 1)), (2, .int (li 2))] → Hp D A s.heap (wX cI cJ cB cZ ad t) H locs → W p l e { frames := 4, cells := 0, slots := 0, locals := 104 } s m args below meth c H locs 0 0 (MQ below (va_Qv (fun u => Q u) (fun u t => xEnd D ((fun u : XT => (wX cI cJ cB cZ ad u)) u) A t) A) args s 0 0 A) (F0 m 14 ls [])) ∧
      (∀ (t : XT) (li : Nat → Int32) (lj : Nat → Int64) (H : Heap) (locs : List Loc) (ls : Array Slot), wpX5_diagonalise k 2 t li lj Q → lv_has ls 4 [(0, .ref (ad 11)), (1, .int (li 1)), (2, .int (li 2))] → Hp D A s.heap (wX cI cJ cB cZ ad t) H locs → W p l e { frames := 4, cells := 0, slots := 0, locals := 104 } s m args below meth c H locs 0 0 (MQ below (va_Qv (fun u => Q u) (fun u t => xEnd D ((fun u : XT => (wX cI cJ cB cZ ad u)) u) A t) A) args s 0 0 A) (F0 m 51 ls [])) ∧
      (∀ (t : XT) (li : Nat → Int32) (lj : Nat → Int64) (H : Heap) (locs : List Loc) (ls : Array Slot), wpX5_diagonalise k 3 t li lj Q → lv_has ls 4 [(0, .ref (ad 11)), (1, .int (li 1)), (2, .int (li 2))] → Hp D A s.heap (wX cI cJ cB cZ ad t) H locs → W p l e { frames := 4, cells := 0, slots := 0, locals := 104 } s m args below meth c H locs 0 0 (MQ below (va_Qv (fun u => Q u) (fun u t => xEnd D ((fun u : XT => (wX cI cJ cB cZ ad u)) u) A t) A) args s 0 0 A) (F0 m 75 ls [])) ∧
      (∀ (t : XT) (li : Nat → Int32) (lj : Nat → Int64) (H : Heap) (locs : List Loc) (ls : Array Slot), wpX5_diagonalise k 4 t li lj Q → lv_has ls 4 [(0, .ref (ad 11)), (1, .int (li 1)), (2, .int (li 2)), (3, .int (li 3))] → Hp D A s.heap (wX cI cJ cB cZ ad t) H locs → W p l e { frames := 4, cells := 0, slots := 0, locals := 104 } s m args below meth c H locs 0 0 (MQ below (va_Qv (fun u => Q u) (fun u t => xEnd D ((fun u : XT => (wX cI cJ cB cZ ad u)) u) A t) A) args s 0 0 A) (F0 m 84 ls [])) := by
    intro k
    induction k with
    | zero => exact ⟨fun _ _ _ _ _ _ hR => False.elim hR, fun _ _ _ _ _ _ hR => False.elim hR, fun _ _ _ _ _ _ hR => False.elim hR, fun _ _ _ _ _ _ hR => False.elim hR, fun _ _ _ _ _ _ hR => False.elim hR⟩
    | succ k ih =>
      refine ⟨?_, ?_, ?_, ?_, ?_⟩
      · intro t li lj H locs ls hR hl h
        have hR : wbX5_diagonalise_0 (wpX5_diagonalise k) k t li lj Q := hR
        unfold wbX5_diagonalise_0 at hR
        refine lv_aload_n hx hb dX5_diagonalise_0 rfl (lv_at hl 0 rfl) ?_
        refine x_get (ci := 5) (C := RX5) (T := TX5) (N := 6) (v := .int (t.1 10)) B h hin5 11 3 rfl rfl (by decide) (by decide +kernel) rfl dX5_diagonalise_1 ?_
        refine lv_aload_n hx hb dX5_diagonalise_4 rfl (lv_at hl 0 rfl) ?_
        refine x_get (ci := 5) (C := RX5) (T := TX5) (N := 6) (v := .int (t.1 11)) B h hin5 11 4 rfl rfl (by decide) (by decide +kernel) rfl dX5_diagonalise_5 ?_
        refine va_mmin hx hb (hml.trans hl.1.symm) hown (hts (.methodLink RX5 54 Lib.Math.min.name) (by decide +kernel)) (hts (.static Lib.Math.min.name) (by decide +kernel)) (hts (.initialized "java/lang/Math") (by decide +kernel)) (hts (.code Lib.Math.min.name Lib.Math.min.code 2 (some .int)) (by decide +kernel)) (Nat.le_of_ble_eq_true rfl) (Nat.le_of_ble_eq_true rfl) (Nat.le_of_ble_eq_true rfl) (Nat.le_of_ble_eq_true rfl) dX5_diagonalise_8 ?_
        refine lv_topi (fun v_1 ev_1 => ?_)
        have hR := hR v_1 ev_1
        refine lv_istore_n (lv' := [(1, .int v_1), (0, .ref (ad 11))]) hx hb dX5_diagonalise_11 rfl hl (by decide) rfl (fun ls hl => ?_)
        refine lv_iconst (v := 0) hx hb dX5_diagonalise_12 (by decide) ?_
        refine lv_istore_n (lv' := [(2, .int 0), (1, .int v_1), (0, .ref (ad 11))]) hx hb dX5_diagonalise_13 rfl hl (by decide) rfl (fun ls hl => ?_)
        exact ih.2.1 t (uI (uI li 1 v_1) 2 0) lj H locs ls hR (lv_sub hl [2, 1, 0] rfl) h
      · intro t li lj H locs ls hR hl h
        have hR : wbX5_diagonalise_1 (wpX5_diagonalise k) k t li lj Q := hR
        unfold wbX5_diagonalise_1 at hR
        refine lv_iload_n hx hb dX5_diagonalise_14 rfl (lv_at hl 2 rfl) ?_
        refine lv_aload_n hx hb dX5_diagonalise_15 rfl (lv_at hl 0 rfl) ?_
        refine x_get (ci := 5) (C := RX5) (T := TX5) (N := 6) (v := .int (t.1 10)) B h hin5 11 3 rfl rfl (by decide) (by decide +kernel) rfl dX5_diagonalise_16 ?_
        refine lv_aload_n hx hb dX5_diagonalise_19 rfl (lv_at hl 0 rfl) ?_
        refine x_get (ci := 5) (C := RX5) (T := TX5) (N := 6) (v := .int (t.1 11)) B h hin5 11 4 rfl rfl (by decide) (by decide +kernel) rfl dX5_diagonalise_20 ?_
        refine lv_imul hx hb dX5_diagonalise_23 ?_
        refine lv_topi (fun v_2 ev_2 => ?_)
        have hR := hR v_2 ev_2
        refine lv_icmp_ge (tgt := 49) hx hb dX5_diagonalise_24 (by decide) (fun c_3 => ?_) (fun c_3 => ?_)
        · have hR := hR.1 c_3
          refine lv_iconst (v := 0) hx hb dX5_diagonalise_49 (by decide) ?_
          refine lv_istore_n (lv' := [(2, .int 0), (0, .ref (ad 11)), (1, .int (li 1))]) hx hb dX5_diagonalise_50 rfl hl (by decide) rfl (fun ls hl => ?_)
          exact ih.2.2.1 t (uI li 2 0) lj H locs ls hR (lv_sub hl [1, 2, 0] rfl) h
        · have hR := hR.2 c_3
          refine lv_aload_n hx hb dX5_diagonalise_27 rfl (lv_at hl 0 rfl) ?_
          refine x_get (ci := 5) (C := RX5) (T := TX5) (N := 6) (v := .ref (ad 30)) B h hin5 11 0 rfl rfl (by decide) (by decide +kernel) rfl dX5_diagonalise_28 ?_
          refine lv_iload_n hx hb dX5_diagonalise_31 rfl (lv_at hl 2 rfl) ?_
          refine lv_aload_n hx hb dX5_diagonalise_32 rfl (lv_at hl 0 rfl) ?_
          refine lv_aload_n hx hb dX5_diagonalise_33 rfl (lv_at hl 0 rfl) ?_
          refine x_get (ci := 5) (C := RX5) (T := TX5) (N := 6) (v := .ref (ad 30)) B h hin5 11 0 rfl rfl (by decide) (by decide +kernel) rfl dX5_diagonalise_34 ?_
          refine lv_iload_n hx hb dX5_diagonalise_37 rfl (lv_at hl 2 rfl) ?_
          obtain ⟨hb_4, hR⟩ := hR
          refine va_lald (f := (t.2.2.2 7)) hx hb B.2.1 h.1 30 1 rfl rfl hb_4 dX5_diagonalise_38 ?_
          refine lv_topl (fun v_4 ev_4 => ?_)
          have hR := hR v_4 ev_4
          refine x_cVLF (n := 1) (As := [.long v_4]) (rest := [.int (li 2), .ref (ad 30)]) B h (wkX5_remainder l D cI cJ cB cZ ad k t v_4 _ hR) ⟨⟨_, rfl⟩, by decide +kernel, Nat.le_of_ble_eq_true rfl, Nat.le_of_ble_eq_true rfl⟩ gX5_diagonalise_X5_remainder (show ((wX cI cJ cB cZ ad t) : va_W)[11]? = some (_, .inr (5, _)) from rfl) rfl rfl hl.1 rfl (Nat.le_of_ble_eq_true rfl) dX5_diagonalise_39 ⟨Nat.le_of_ble_eq_true rfl, Nat.le_of_ble_eq_true rfl⟩ (fun r_5 t_5 H locs hR h => ?_)
          obtain ⟨hb_6, hR⟩ := hR
          refine z_last (f := (t_5.2.2.2 7)) B h 30 1 rfl rfl hb_6 dX5_diagonalise_42 (fun H locs h => ?_)
          obtain ⟨t_6, et_6⟩ : ∃ v : XT, v = sB t_5 7 (vp_updL (t_5.2.2.2 7) (li 2).toNatClampNeg r_5) := ⟨_, rfl⟩
          have hR := hR t_6 et_6
          have h : Hp D A s.heap (wX cI cJ cB cZ ad t_6) H locs := by rw [et_6]; exact h
          obtain ⟨v_7, ev_7⟩ : ∃ v : Int32, v = (li 2) + Int32.ofInt 1 := ⟨_, rfl⟩
          have hR := hR v_7 ev_7
          refine lv_iinc (v := v_7) (lv' := [(2, .int v_7), (0, .ref (ad 11)), (1, .int (li 1))]) hx hb dX5_diagonalise_43 hl (k := 2) rfl ev_7.symm (by decide) rfl (fun ls hl => ?_)
          refine lv_goto (tgt := 14) hx hb dX5_diagonalise_46 (by decide) ?_
          exact ih.2.1 t_6 (uI li 2 v_7) lj H locs ls hR (lv_sub hl [1, 2, 0] rfl) h
      · intro t li lj H locs ls hR hl h
        have hR : wbX5_diagonalise_2 (wpX5_diagonalise k) k t li lj Q := hR
        unfold wbX5_diagonalise_2 at hR
        refine lv_iload_n hx hb dX5_diagonalise_51 rfl (lv_at hl 2 rfl) ?_
        refine lv_iload_n hx hb dX5_diagonalise_52 rfl (lv_at hl 1 rfl) ?_
        refine lv_icmp_ge (tgt := 73) hx hb dX5_diagonalise_53 (by decide) (fun c_8 => ?_) (fun c_8 => ?_)
        · have hR := hR.1 c_8
          refine lv_iconst (v := 0) hx hb dX5_diagonalise_73 (by decide) ?_
          refine lv_istore_n (lv' := [(2, .int 0), (0, .ref (ad 11)), (1, .int (li 1))]) hx hb dX5_diagonalise_74 rfl hl (by decide) rfl (fun ls hl => ?_)
          exact ih.2.2.2.1 t (uI li 2 0) lj H locs ls hR (lv_sub hl [1, 2, 0] rfl) h
        · have hR := hR.2 c_8
          refine lv_aload_n hx hb dX5_diagonalise_56 rfl (lv_at hl 0 rfl) ?_
          refine x_get (ci := 5) (C := RX5) (T := TX5) (N := 6) (v := .ref (ad 32)) B h hin5 11 2 rfl rfl (by decide) (by decide +kernel) rfl dX5_diagonalise_57 ?_
          refine lv_iload_n hx hb dX5_diagonalise_60 rfl (lv_at hl 2 rfl) ?_
          refine lv_aload_n hx hb dX5_diagonalise_61 rfl (lv_at hl 0 rfl) ?_
          refine lv_iload_n hx hb dX5_diagonalise_62 rfl (lv_at hl 2 rfl) ?_
          refine x_cVLF (n := 1) (As := [.int (li 2)]) (rest := [.int (li 2), .ref (ad 32)]) B h (wkX5_clearCorner l D cI cJ cB cZ ad k t (li 2) _ hR) ⟨⟨_, rfl⟩, by decide +kernel, Nat.le_of_ble_eq_true rfl, Nat.le_of_ble_eq_true rfl⟩ gX5_diagonalise_X5_clearCorner (show ((wX cI cJ cB cZ ad t) : va_W)[11]? = some (_, .inr (5, _)) from rfl) rfl rfl hl.1 rfl (Nat.le_of_ble_eq_true rfl) dX5_diagonalise_63 ⟨Nat.le_of_ble_eq_true rfl, Nat.le_of_ble_eq_true rfl⟩ (fun r_9 t_9 H locs hR h => ?_)
          obtain ⟨hb_10, hR⟩ := hR
          refine z_last (f := (t_9.2.2.2 9)) B h 32 1 rfl rfl hb_10 dX5_diagonalise_66 (fun H locs h => ?_)
          obtain ⟨t_10, et_10⟩ : ∃ v : XT, v = sB t_9 9 (vp_updL (t_9.2.2.2 9) (li 2).toNatClampNeg r_9) := ⟨_, rfl⟩
          have hR := hR t_10 et_10
          have h : Hp D A s.heap (wX cI cJ cB cZ ad t_10) H locs := by rw [et_10]; exact h
          obtain ⟨v_11, ev_11⟩ : ∃ v : Int32, v = (li 2) + Int32.ofInt 1 := ⟨_, rfl⟩
          have hR := hR v_11 ev_11
          refine lv_iinc (v := v_11) (lv' := [(2, .int v_11), (0, .ref (ad 11)), (1, .int (li 1))]) hx hb dX5_diagonalise_67 hl (k := 2) rfl ev_11.symm (by decide) rfl (fun ls hl => ?_)
          refine lv_goto (tgt := 51) hx hb dX5_diagonalise_70 (by decide) ?_
          exact ih.2.2.1 t_10 (uI li 2 v_11) lj H locs ls hR (lv_sub hl [1, 2, 0] rfl) h
      · intro t li lj H locs ls hR hl h
        have hR : wbX5_diagonalise_3 (wpX5_diagonalise k) k t li lj Q := hR
        unfold wbX5_diagonalise_3 at hR
        refine lv_iload_n hx hb dX5_diagonalise_75 rfl (lv_at hl 2 rfl) ?_
        refine lv_iload_n hx hb dX5_diagonalise_76 rfl (lv_at hl 1 rfl) ?_
        refine lv_icmp_ge (tgt := 107) hx hb dX5_diagonalise_77 (by decide) (fun c_12 => ?_) (fun c_12 => ?_)
        · have hR := hR.1 c_12
          exact x_vret (w1 := (fun u : XT => (wX cI cJ cB cZ ad u))) t B h hr hR dX5_diagonalise_107
        · have hR := hR.2 c_12
          refine lv_iload_n hx hb dX5_diagonalise_80 rfl (lv_at hl 2 rfl) ?_
          refine lv_iconst (v := 1) hx hb dX5_diagonalise_81 (by decide) ?_
          refine lv_iadd hx hb dX5_diagonalise_82 ?_
          refine lv_topi (fun v_13 ev_13 => ?_)
          have hR := hR v_13 ev_13
          refine lv_istore_n (lv' := [(3, .int v_13), (0, .ref (ad 11)), (1, .int (li 1)), (2, .int (li 2))]) hx hb dX5_diagonalise_83 rfl hl (by decide) rfl (fun ls hl => ?_)
          exact ih.2.2.2.2 t (uI li 3 v_13) lj H locs ls hR (lv_sub hl [1, 2, 3, 0] rfl) h
      · intro t li lj H locs ls hR hl h
        have hR : wbX5_diagonalise_4 (wpX5_diagonalise k) k t li lj Q := hR
        unfold wbX5_diagonalise_4 at hR
        refine lv_iload_n hx hb dX5_diagonalise_84 rfl (lv_at hl 3 rfl) ?_
        refine lv_iload_n hx hb dX5_diagonalise_85 rfl (lv_at hl 1 rfl) ?_
        refine lv_icmp_ge (tgt := 101) hx hb dX5_diagonalise_86 (by decide) (fun c_14 => ?_) (fun c_14 => ?_)
        · have hR := hR.1 c_14
          obtain ⟨v_15, ev_15⟩ : ∃ v : Int32, v = (li 2) + Int32.ofInt 1 := ⟨_, rfl⟩
          have hR := hR v_15 ev_15
          refine lv_iinc (v := v_15) (lv' := [(2, .int v_15), (0, .ref (ad 11)), (1, .int (li 1)), (3, .int (li 3))]) hx hb dX5_diagonalise_101 hl (k := 2) rfl ev_15.symm (by decide) rfl (fun ls hl => ?_)
          refine lv_goto (tgt := 75) hx hb dX5_diagonalise_104 (by decide) ?_
          exact ih.2.2.2.1 t (uI li 2 v_15) lj H locs ls hR (lv_sub hl [1, 2, 0] rfl) h
        · have hR := hR.2 c_14
          refine lv_aload_n hx hb dX5_diagonalise_89 rfl (lv_at hl 0 rfl) ?_
          refine lv_iload_n hx hb dX5_diagonalise_90 rfl (lv_at hl 2 rfl) ?_
          refine lv_iload_n hx hb dX5_diagonalise_91 rfl (lv_at hl 3 rfl) ?_
          refine x_cVVF (n := 2) (As := [.int (li 2), .int (li 3)]) (rest := []) B h (wkX5_makeDivide l D cI cJ cB cZ ad k t (li 2) (li 3) _ hR) ⟨⟨_, rfl⟩, by decide +kernel, Nat.le_of_ble_eq_true rfl, Nat.le_of_ble_eq_true rfl⟩ gX5_diagonalise_X5_makeDivide (show ((wX cI cJ cB cZ ad t) : va_W)[11]? = some (_, .inr (5, _)) from rfl) rfl rfl hl.1 rfl (Nat.le_of_ble_eq_true rfl) dX5_diagonalise_92 ⟨Nat.le_of_ble_eq_true rfl, Nat.le_of_ble_eq_true rfl⟩ (fun t_16 H locs hR h => ?_)
          obtain ⟨v_17, ev_17⟩ : ∃ v : Int32, v = (li 3) + Int32.ofInt 1 := ⟨_, rfl⟩
          have hR := hR v_17 ev_17
          refine lv_iinc (v := v_17) (lv' := [(3, .int v_17), (0, .ref (ad 11)), (1, .int (li 1)), (2, .int (li 2))]) hx hb dX5_diagonalise_95 hl (k := 3) rfl ev_17.symm (by decide) rfl (fun ls hl => ?_)
          refine lv_goto (tgt := 84) hx hb dX5_diagonalise_98 (by decide) ?_
          exact ih.2.2.2.2 t_16 (uI li 3 v_17) lj H locs ls hR (lv_sub hl [1, 2, 3, 0] rfl) h
  exact (main k).1 t _ _ s.heap [] ls hR hl h
set_option maxRecDepth 20000 in
theorem ggX0_torsionsOf_X0_rankOf : GoodIn wsX0_torsionsOf wsX0_rankOf := goodIn_r _ [9, 10, 11, 1, 12, 13, 14, 8, 15, 16, 17, 18, 19, 20, 21, 22, 23, 24, 25, 26, 27, 28, 29, 30, 31, 32, 33, 34, 35, 36, 37, 38, 39, 40, 41, 42, 43, 44, 45, 46, 47, 48, 49, 50, 51, 52, 53, 54, 55, 56, 57, 58, 59, 60, 61, 62, 63, 64, 65, 66, 67, 68, 69, 70, 71, 72, 73, 74, 75, 76, 77, 78, 79, 80, 81, 82, 83, 84, 85, 86, 87, 88, 89, 90, 91, 92, 93, 94, 95, 96, 97, 98, 99, 100, 101, 102, 103, 104, 105, 106, 107, 108, 109, 110, 111, 112, 113, 114, 115, 116, 117, 118, 119, 120, 121, 122, 123, 124, 125, 126, 127, 128, 129, 130, 131, 132, 133, 134, 135, 136, 137, 138, 139, 140, 141, 142, 143, 144, 145, 146, 147, 148, 149, 150, 151, 152, 153, 154, 155, 210, 211, 212, 213, 220, 221, 222, 223, 224, 225, 226, 214, 215, 216, 217, 218, 219, 227, 228, 229, 230, 231, 232, 233, 234, 235, 236, 237, 238, 239, 240, 241, 242, 243, 244, 245] (by decide +kernel) (by decide +kernel)
set_option maxRecDepth 20000 in
theorem gX0_torsionsOf_X0_rankOf : GoodIn wsX0_torsionsOf (wsV RX0 41 RX0 yX0_rankOf wsX0_rankOf) := goodIn_app (goodIn_of _ (by decide +kernel)) ggX0_torsionsOf_X0_rankOf
set_option maxRecDepth 20000 in
theorem ggX0_torsionsOf_X5_diagonalise : GoodIn wsX0_torsionsOf wsX5_diagonalise := goodIn_r _ [159, 31, 32, 160, 161, 162, 163, 129, 164, 165, 166, 167, 29, 168, 139, 169, 170, 171, 172, 173, 174, 175, 176, 177, 178, 179, 180, 181, 182, 183, 184, 144, 145, 146, 147, 185, 186, 187, 188, 189, 190, 191, 192, 193, 194, 195, 196, 197, 198, 199, 200, 201, 202, 203, 204, 205, 206, 207, 208, 209, 214, 215, 216, 217, 218, 219] (by decide +kernel) (by decide +kernel)
set_option maxRecDepth 20000 in
theorem gX0_torsionsOf_X5_diagonalise : GoodIn wsX0_torsionsOf (wsV RX0 49 RX5 yX5_diagonalise wsX5_diagonalise) := goodIn_app (goodIn_of _ (by decide +kernel)) ggX0_torsionsOf_X5_diagonalise
def wbX0_torsionsOf_0 (rec : Nat → XT → (Nat → Int32) → (Nat → Int64) → (Int32 → XT → Prop) → Prop) (k : Nat) (t : XT) (li : Nat → Int32) (lj : Nat → Int64) (Q : Int32 → XT → Prop) : Prop :=
  (∀ v_1 : Int32, v_1 = ((li 3) + 1) → (wqX0_rankOf k t (lj 1) v_1 (li 4) (fun r_2 t_2 => ((r_2 = 0) → rec 1 t_2 (uI li 5 r_2) lj Q) ∧ (¬ (r_2 = 0) → (∀ v_4 : Int32, v_4 = (lg_cmp (t_2.2.1 7) 1) → ((¬ v_4 = 0) → (wqX5_diagonalise k t_2  (fun t_6 => rec 2 t_6 (uI (uI (uI li 5 r_2) 6 0) 7 0) lj Q))) ∧ ((v_4 = 0) → rec 1 t_2 (uI li 5 r_2) lj Q))))))
def wbX0_torsionsOf_1 (rec : Nat → XT → (Nat → Int32) → (Nat → Int64) → (Int32 → XT → Prop) → Prop) (k : Nat) (t : XT) (li : Nat → Int32) (lj : Nat → Int64) (Q : Int32 → XT → Prop) : Prop :=
  Q 0 t
def wbX0_torsionsOf_2 (rec : Nat → XT → (Nat → Int32) → (Nat → Int64) → (Int32 → XT → Prop) → Prop) (k : Nat) (t : XT) (li : Nat → Int32) (lj : Nat → Int64) (Q : Int32 → XT → Prop) : Prop :=
  ((((li 5) : Int32) ≤ (li 7)) → rec 4 t li lj Q) ∧ (¬ (((li 5) : Int32) ≤ (li 7)) → (((64 : Int32) ≤ (li 7)) → rec 4 t li lj Q) ∧ (¬ ((64 : Int32) ≤ (li 7)) → (vp_in (li 7) 64 ∧ (∀ v_9 : Int64, v_9 = (t.2.2.2 9) (li 7).toNatClampNeg → (∀ v_10 : Int32, v_10 = (lg_cmp v_9 1) → ((v_10 ≤ 0) → rec 3 t li lj Q) ∧ (¬ (v_10 ≤ 0) → (vp_in (li 7) 64 ∧ (∀ v_12 : Int64, v_12 = (t.2.2.2 9) (li 7).toNatClampNeg → (vp_in (li 6) 64 ∧ (∀ t_13 : XT, t_13 = sB t 5 (vp_updL (t.2.2.2 5) (li 6).toNatClampNeg v_12) → (∀ v_14 : Int32, v_14 = (li 6) + Int32.ofInt 1 → rec 3 t_13 (uI li 6 v_14) lj Q)))))))))))
def wbX0_torsionsOf_3 (rec : Nat → XT → (Nat → Int32) → (Nat → Int64) → (Int32 → XT → Prop) → Prop) (k : Nat) (t : XT) (li : Nat → Int32) (lj : Nat → Int64) (Q : Int32 → XT → Prop) : Prop :=
  (∀ v_15 : Int32, v_15 = (li 7) + Int32.ofInt 1 → rec 2 t (uI li 7 v_15) lj Q)
def wbX0_torsionsOf_4 (rec : Nat → XT → (Nat → Int32) → (Nat → Int64) → (Int32 → XT → Prop) → Prop) (k : Nat) (t : XT) (li : Nat → Int32) (lj : Nat → Int64) (Q : Int32 → XT → Prop) : Prop :=
  Q (li 6) t
def wpX0_torsionsOf : Nat → Nat → XT → (Nat → Int32) → (Nat → Int64) → (Int32 → XT → Prop) → Prop
  | 0, _, _, _, _, _ => False
  | k + 1, 0, t, li, lj, Q => wbX0_torsionsOf_0 (wpX0_torsionsOf k) k t li lj Q
  | k + 1, 1, t, li, lj, Q => wbX0_torsionsOf_1 (wpX0_torsionsOf k) k t li lj Q
  | k + 1, 2, t, li, lj, Q => wbX0_torsionsOf_2 (wpX0_torsionsOf k) k t li lj Q
  | k + 1, 3, t, li, lj, Q => wbX0_torsionsOf_3 (wpX0_torsionsOf k) k t li lj Q
  | k + 1, 4, t, li, lj, Q => wbX0_torsionsOf_4 (wpX0_torsionsOf k) k t li lj Q
  | _ + 1, _, _, _, _, _ => False
def wqX0_torsionsOf (k : Nat) (t : XT) (a1 : Int64) (a2 : Int32) (a3 : Int32) (Q : Int32 → XT → Prop) : Prop := wpX0_torsionsOf k 0 t (uI (uI (fun _ => 0) 3 a2) 4 a3) (uI (fun _ => 0) 1 a1) Q
set_option maxHeartbeats 8000000 in
set_option maxRecDepth 100000 in
theorem wkX0_torsionsOf (l : Launch) (D : va_G) (cI cJ cB cZ : ClassId) (ad : Nat → Nat) (k : Nat) (t : XT) (a1 : Int64) (a2 : Int32) (a3 : Int32) (Q : Int32 → XT → Prop) (hR : wqX0_torsionsOf k t a1 a2 a3 Q) : MetI l yX0_torsionsOf wsX0_torsionsOf 6 147 0 0 D (TYS cI cJ cB cZ) (wX cI cJ cB cZ ad t) [.ref (ad 8), .long a1, .int a2, .int a3] (fun r u => Q r u) (fun u : XT => (wX cI cJ cB cZ ad u)) := by
  refine x_startI (ty := .int) (cc := cX0_torsionsOf) (by decide) rfl (Nat.le_of_ble_eq_true rfl) ?_
  intro p e s m args below meth c A ls B hr hnm h hl
  have hx := B.1.1
  have hb := B.1.2.1
  have hml := B.1.2.2.1
  have hts := B.1.2.2.2.2
  have hown : s.vm.findClass RX0 = some m.cls := B.1.2.2.2.1
  have hin0 : ∀ w ∈ u_ws RX0 TX0 4, w ∈ wsX0_torsionsOf := by decide +kernel
  have hin5 : ∀ w ∈ u_ws RX5 TX5 6, w ∈ wsX0_torsionsOf := by decide +kernel
  have main : ∀ k : Nat, (∀ (t : XT) (li : Nat → Int32) (lj : Nat → Int64) (H : Heap) (locs : List Loc) (ls : Array Slot), wpX0_torsionsOf k 0 t li lj Q → lv_has ls 8 [(0, .ref (ad 8)), (1, .long (lj 1)), (3, .int (li 3)), (4, .int (li 4))] → Hp D A s.heap (wX cI cJ cB cZ ad t) H locs → W p l e { frames := 6, cells := 0, slots := 0, locals := 147 } s m args below meth c H locs 0 0 (MQ below (va_Qi (fun r u => Q r u) (fun u t => xEnd D ((fun u : XT => (wX cI cJ cB cZ ad u)) u) A t) A) args s 0 0 A) (F0 m 0 ls [])) ∧
      (∀ (t : XT) (li : Nat → Int32) (lj : Nat → Int64) (H : Heap) (locs : List Loc) (ls : Array Slot), wpX0_torsionsOf k 1 t li lj Q → lv_has ls 8 [(0, .ref (ad 8)), (1, .long (lj 1)), (3, .int (li 3)), (4, .int (li 4)), (5, .int (li 5))] → Hp D A s.heap (wX cI cJ cB cZ ad t) H locs → W p l e { frames := 6, cells := 0, slots := 0, locals := 147 } s m args below meth c H locs 0 0 (MQ below (va_Qi (fun r u => Q r u) (fun u t => xEnd D ((fun u : XT => (wX cI cJ cB cZ ad u)) u) A t) A) args s 0 0 A) (F0 m 29 ls [])) ∧
      (∀ (t : XT) (li : Nat → Int32) (lj : Nat → Int64) (H : Heap) (locs : List Loc) (ls : Array Slot), wpX0_torsionsOf k 2 t li lj Q → lv_has ls 8 [(0, .ref (ad 8)), (1, .long (lj 1)), (3, .int (li 3)), (4, .int (li 4)), (5, .int (li 5)), (6, .int (li 6)), (7, .int (li 7))] → Hp D A s.heap (wX cI cJ cB cZ ad t) H locs → W p l e { frames := 6, cells := 0, slots := 0, locals := 147 } s m args below meth c H locs 0 0 (MQ below (va_Qi (fun r u => Q r u) (fun u t => xEnd D ((fun u : XT => (wX cI cJ cB cZ ad u)) u) A t) A) args s 0 0 A) (F0 m 44 ls [])) ∧
      (∀ (t : XT) (li : Nat → Int32) (lj : Nat → Int64) (H : Heap) (locs : List Loc) (ls : Array Slot), wpX0_torsionsOf k 3 t li lj Q → lv_has ls 8 [(0, .ref (ad 8)), (1, .long (lj 1)), (3, .int (li 3)), (4, .int (li 4)), (5, .int (li 5)), (6, .int (li 6)), (7, .int (li 7))] → Hp D A s.heap (wX cI cJ cB cZ ad t) H locs → W p l e { frames := 6, cells := 0, slots := 0, locals := 147 } s m args below meth c H locs 0 0 (MQ below (va_Qi (fun r u => Q r u) (fun u t => xEnd D ((fun u : XT => (wX cI cJ cB cZ ad u)) u) A t) A) args s 0 0 A) (F0 m 93 ls [])) ∧
      (∀ (t : XT) (li : Nat → Int32) (lj : Nat → Int64) (H : Heap) (locs : List Loc) (ls : Array Slot), wpX0_torsionsOf k 4 t li lj Q → lv_has ls 8 [(0, .ref (ad 8)), (1, .long (lj 1)), (3, .int (li 3)), (4, .int (li 4)), (5, .int (li 5)), (6, .int (li 6)), (7, .int (li 7))] → Hp D A s.heap (wX cI cJ cB cZ ad t) H locs → W p l e { frames := 6, cells := 0, slots := 0, locals := 147 } s m args below meth c H locs 0 0 (MQ below (va_Qi (fun r u => Q r u) (fun u t => xEnd D ((fun u : XT => (wX cI cJ cB cZ ad u)) u) A t) A) args s 0 0 A) (F0 m 99 ls [])) := by
    intro k
    induction k with
    | zero => exact ⟨fun _ _ _ _ _ _ hR => False.elim hR, fun _ _ _ _ _ _ hR => False.elim hR, fun _ _ _ _ _ _ hR => False.elim hR, fun _ _ _ _ _ _ hR => False.elim hR, fun _ _ _ _ _ _ hR => False.elim hR⟩
    | succ k ih =>
      refine ⟨?_, ?_, ?_, ?_, ?_⟩
      · intro t li lj H locs ls hR hl h
        have hR : wbX0_torsionsOf_0 (wpX0_torsionsOf k) k t li lj Q := hR
        unfold wbX0_torsionsOf_0 at hR
        refine lv_aload_n hx hb dX0_torsionsOf_0 rfl (lv_at hl 0 rfl) ?_
        refine lv_lload_n hx hb dX0_torsionsOf_1 rfl (lv_at hl 1 rfl) ?_
        refine lv_iload_n hx hb dX0_torsionsOf_2 rfl (lv_at hl 2 rfl) ?_
        refine lv_iconst (v := 1) hx hb dX0_torsionsOf_3 (by decide) ?_
        refine lv_iadd hx hb dX0_torsionsOf_4 ?_
        refine lv_topi (fun v_1 ev_1 => ?_)
        have hR := hR v_1 ev_1
        refine lv_iload hx hb dX0_torsionsOf_5 (lv_at hl 3 rfl) ?_
        refine x_cVIF (n := 3) (As := [.long (lj 1), .int v_1, .int (li 4)]) (rest := []) B h (wkX0_rankOf l D cI cJ cB cZ ad k t (lj 1) v_1 (li 4) _ hR) ⟨⟨_, rfl⟩, by decide +kernel, Nat.le_of_ble_eq_true rfl, Nat.le_of_ble_eq_true rfl⟩ gX0_torsionsOf_X0_rankOf (show ((wX cI cJ cB cZ ad t) : va_W)[8]? = some (_, .inr (0, _)) from rfl) rfl rfl hl.1 rfl (Nat.le_of_ble_eq_true rfl) dX0_torsionsOf_7 ⟨Nat.le_of_ble_eq_true rfl, Nat.le_of_ble_eq_true rfl⟩ (fun r_2 t_2 H locs hR h => ?_)
        refine lv_istore (lv' := [(5, .int r_2), (0, .ref (ad 8)), (1, .long (lj 1)), (3, .int (li 3)), (4, .int (li 4))]) hx hb dX0_torsionsOf_10 hl (by decide) rfl (fun ls hl => ?_)
        refine lv_iload hx hb dX0_torsionsOf_12 (lv_at hl 0 rfl) ?_
        refine lv_if_eq (tgt := 29) hx hb dX0_torsionsOf_14 (by decide) (fun c_3 => ?_) (fun c_3 => ?_)
        · have hR := hR.1 c_3
          exact ih.2.1 t_2 (uI li 5 r_2) lj H locs ls hR (lv_sub hl [1, 2, 3, 4, 0] rfl) h
        · have hR := hR.2 c_3
          refine lv_aload_n hx hb dX0_torsionsOf_17 rfl (lv_at hl 1 rfl) ?_
          refine x_get (ci := 0) (C := RX0) (T := TX0) (N := 4) (v := .ref (ad 11)) B h hin0 8 2 rfl rfl (by decide) (by decide +kernel) rfl dX0_torsionsOf_18 ?_
          refine x_get (ci := 5) (C := RX5) (T := TX5) (N := 6) (v := .long (t_2.2.1 7)) B h hin5 11 5 rfl rfl (by decide) (by decide +kernel) rfl dX0_torsionsOf_21 ?_
          refine lv_lconst (v := 1) hx hb dX0_torsionsOf_24 (by decide) ?_
          refine W.lcmp hx hb dX0_torsionsOf_25 ?_
          refine lv_topi (fun v_4 ev_4 => ?_)
          have hR := hR v_4 ev_4
          refine lv_if_ne (tgt := 31) hx hb dX0_torsionsOf_26 (by decide) (fun c_5 => ?_) (fun c_5 => ?_)
          · have hR := hR.1 c_5
            refine lv_aload_n hx hb dX0_torsionsOf_31 rfl (lv_at hl 1 rfl) ?_
            refine x_get (ci := 0) (C := RX0) (T := TX0) (N := 4) (v := .ref (ad 11)) B h hin0 8 2 rfl rfl (by decide) (by decide +kernel) rfl dX0_torsionsOf_32 ?_
            refine x_cVVF (n := 0) (As := []) (rest := []) B h (wkX5_diagonalise l D cI cJ cB cZ ad k t_2  _ hR) ⟨⟨_, rfl⟩, by decide +kernel, Nat.le_of_ble_eq_true rfl, Nat.le_of_ble_eq_true rfl⟩ gX0_torsionsOf_X5_diagonalise (show ((wX cI cJ cB cZ ad t_2) : va_W)[11]? = some (_, .inr (5, _)) from rfl) rfl rfl hl.1 rfl (Nat.le_of_ble_eq_true rfl) dX0_torsionsOf_35 ⟨Nat.le_of_ble_eq_true rfl, Nat.le_of_ble_eq_true rfl⟩ (fun t_6 H locs hR h => ?_)
            refine lv_iconst (v := 0) hx hb dX0_torsionsOf_38 (by decide) ?_
            refine lv_istore (lv' := [(6, .int 0), (5, .int r_2), (0, .ref (ad 8)), (1, .long (lj 1)), (3, .int (li 3)), (4, .int (li 4))]) hx hb dX0_torsionsOf_39 hl (by decide) rfl (fun ls hl => ?_)
            refine lv_iconst (v := 0) hx hb dX0_torsionsOf_41 (by decide) ?_
            refine lv_istore (lv' := [(7, .int 0), (6, .int 0), (5, .int r_2), (0, .ref (ad 8)), (1, .long (lj 1)), (3, .int (li 3)), (4, .int (li 4))]) hx hb dX0_torsionsOf_42 hl (by decide) rfl (fun ls hl => ?_)
            exact ih.2.2.1 t_6 (uI (uI (uI li 5 r_2) 6 0) 7 0) lj H locs ls hR (lv_sub hl [3, 4, 5, 6, 2, 1, 0] rfl) h
          · have hR := hR.2 c_5
            exact ih.2.1 t_2 (uI li 5 r_2) lj H locs ls hR (lv_sub hl [1, 2, 3, 4, 0] rfl) h
      · intro t li lj H locs ls hR hl h
        have hR : wbX0_torsionsOf_1 (wpX0_torsionsOf k) k t li lj Q := hR
        unfold wbX0_torsionsOf_1 at hR
        refine lv_iconst (v := 0) hx hb dX0_torsionsOf_29 (by decide) ?_
        exact x_iret (w1 := (fun u : XT => (wX cI cJ cB cZ ad u))) t B h hr rfl hR dX0_torsionsOf_30
      · intro t li lj H locs ls hR hl h
        have hR : wbX0_torsionsOf_2 (wpX0_torsionsOf k) k t li lj Q := hR
        unfold wbX0_torsionsOf_2 at hR
        refine lv_iload hx hb dX0_torsionsOf_44 (lv_at hl 6 rfl) ?_
        refine lv_iload hx hb dX0_torsionsOf_46 (lv_at hl 4 rfl) ?_
        refine lv_icmp_ge (tgt := 99) hx hb dX0_torsionsOf_48 (by decide) (fun c_7 => ?_) (fun c_7 => ?_)
        · have hR := hR.1 c_7
          exact ih.2.2.2.2 t li lj H locs ls hR (lv_sub hl [0, 1, 2, 3, 4, 5, 6] rfl) h
        · have hR := hR.2 c_7
          refine lv_iload hx hb dX0_torsionsOf_51 (lv_at hl 6 rfl) ?_
          refine lv_bipush (v := 64) hx hb dX0_torsionsOf_53 (by decide) ?_
          refine lv_icmp_ge (tgt := 99) hx hb dX0_torsionsOf_55 (by decide) (fun c_8 => ?_) (fun c_8 => ?_)
          · have hR := hR.1 c_8
            exact ih.2.2.2.2 t li lj H locs ls hR (lv_sub hl [0, 1, 2, 3, 4, 5, 6] rfl) h
          · have hR := hR.2 c_8
            refine lv_aload_n hx hb dX0_torsionsOf_58 rfl (lv_at hl 0 rfl) ?_
            refine x_get (ci := 0) (C := RX0) (T := TX0) (N := 4) (v := .ref (ad 11)) B h hin0 8 2 rfl rfl (by decide) (by decide +kernel) rfl dX0_torsionsOf_59 ?_
            refine x_get (ci := 5) (C := RX5) (T := TX5) (N := 6) (v := .ref (ad 32)) B h hin5 11 2 rfl rfl (by decide) (by decide +kernel) rfl dX0_torsionsOf_62 ?_
            refine lv_iload hx hb dX0_torsionsOf_65 (lv_at hl 6 rfl) ?_
            obtain ⟨hb_9, hR⟩ := hR
            refine va_lald (f := (t.2.2.2 9)) hx hb B.2.1 h.1 32 1 rfl rfl hb_9 dX0_torsionsOf_67 ?_
            refine lv_topl (fun v_9 ev_9 => ?_)
            have hR := hR v_9 ev_9
            refine lv_lconst (v := 1) hx hb dX0_torsionsOf_68 (by decide) ?_
            refine W.lcmp hx hb dX0_torsionsOf_69 ?_
            refine lv_topi (fun v_10 ev_10 => ?_)
            have hR := hR v_10 ev_10
            refine lv_if_le (tgt := 93) hx hb dX0_torsionsOf_70 (by decide) (fun c_11 => ?_) (fun c_11 => ?_)
            · have hR := hR.1 c_11
              exact ih.2.2.2.1 t li lj H locs ls hR (lv_sub hl [0, 1, 2, 3, 4, 5, 6] rfl) h
            · have hR := hR.2 c_11
              refine lv_aload_n hx hb dX0_torsionsOf_73 rfl (lv_at hl 0 rfl) ?_
              refine x_get (ci := 0) (C := RX0) (T := TX0) (N := 4) (v := .ref (ad 26)) B h hin0 8 3 rfl rfl (by decide) (by decide +kernel) rfl dX0_torsionsOf_74 ?_
              refine lv_iload hx hb dX0_torsionsOf_77 (lv_at hl 5 rfl) ?_
              refine lv_aload_n hx hb dX0_torsionsOf_79 rfl (lv_at hl 0 rfl) ?_
              refine x_get (ci := 0) (C := RX0) (T := TX0) (N := 4) (v := .ref (ad 11)) B h hin0 8 2 rfl rfl (by decide) (by decide +kernel) rfl dX0_torsionsOf_80 ?_
              refine x_get (ci := 5) (C := RX5) (T := TX5) (N := 6) (v := .ref (ad 32)) B h hin5 11 2 rfl rfl (by decide) (by decide +kernel) rfl dX0_torsionsOf_83 ?_
              refine lv_iload hx hb dX0_torsionsOf_86 (lv_at hl 6 rfl) ?_
              obtain ⟨hb_12, hR⟩ := hR
              refine va_lald (f := (t.2.2.2 9)) hx hb B.2.1 h.1 32 1 rfl rfl hb_12 dX0_torsionsOf_88 ?_
              refine lv_topl (fun v_12 ev_12 => ?_)
              have hR := hR v_12 ev_12
              obtain ⟨hb_13, hR⟩ := hR
              refine z_last (f := (t.2.2.2 5)) B h 26 1 rfl rfl hb_13 dX0_torsionsOf_89 (fun H locs h => ?_)
              obtain ⟨t_13, et_13⟩ : ∃ v : XT, v = sB t 5 (vp_updL (t.2.2.2 5) (li 6).toNatClampNeg v_12) := ⟨_, rfl⟩
              have hR := hR t_13 et_13
              have h : Hp D A s.heap (wX cI cJ cB cZ ad t_13) H locs := by rw [et_13]; exact h
              obtain ⟨v_14, ev_14⟩ : ∃ v : Int32, v = (li 6) + Int32.ofInt 1 := ⟨_, rfl⟩
              have hR := hR v_14 ev_14
              refine lv_iinc (v := v_14) (lv' := [(6, .int v_14), (0, .ref (ad 8)), (1, .long (lj 1)), (3, .int (li 3)), (4, .int (li 4)), (5, .int (li 5)), (7, .int (li 7))]) hx hb dX0_torsionsOf_90 hl (k := 5) rfl ev_14.symm (by decide) rfl (fun ls hl => ?_)
              exact ih.2.2.2.1 t_13 (uI li 6 v_14) lj H locs ls hR (lv_sub hl [1, 2, 3, 4, 5, 0, 6] rfl) h
      · intro t li lj H locs ls hR hl h
        have hR : wbX0_torsionsOf_3 (wpX0_torsionsOf k) k t li lj Q := hR
        unfold wbX0_torsionsOf_3 at hR
        obtain ⟨v_15, ev_15⟩ : ∃ v : Int32, v = (li 7) + Int32.ofInt 1 := ⟨_, rfl⟩
        have hR := hR v_15 ev_15
        refine lv_iinc (v := v_15) (lv' := [(7, .int v_15), (0, .ref (ad 8)), (1, .long (lj 1)), (3, .int (li 3)), (4, .int (li 4)), (5, .int (li 5)), (6, .int (li 6))]) hx hb dX0_torsionsOf_93 hl (k := 6) rfl ev_15.symm (by decide) rfl (fun ls hl => ?_)
        refine lv_goto (tgt := 44) hx hb dX0_torsionsOf_96 (by decide) ?_
        exact ih.2.2.1 t (uI li 7 v_15) lj H locs ls hR (lv_sub hl [1, 2, 3, 4, 5, 6, 0] rfl) h
      · intro t li lj H locs ls hR hl h
        have hR : wbX0_torsionsOf_4 (wpX0_torsionsOf k) k t li lj Q := hR
        unfold wbX0_torsionsOf_4 at hR
        refine lv_iload hx hb dX0_torsionsOf_99 (lv_at hl 5 rfl) ?_
        exact x_iret (w1 := (fun u : XT => (wX cI cJ cB cZ ad u))) t B h hr rfl hR dX0_torsionsOf_101
  exact (main k).1 t _ _ s.heap [] ls hR hl h
set_option maxRecDepth 20000 in
theorem ggX11_torsion_X11_isDim : GoodIn wsX11_torsion wsX11_isDim := goodIn_r _ [8] (by decide +kernel) (by decide +kernel)
set_option maxRecDepth 20000 in
theorem gX11_torsion_X11_isDim : GoodIn wsX11_torsion (va_wsS RX11 229 yX11_isDim wsX11_isDim) := goodIn_app (goodIn_of _ (by decide +kernel)) ggX11_torsion_X11_isDim
set_option maxRecDepth 20000 in
theorem ggX11_torsion_X11_basis : GoodIn wsX11_torsion wsX11_basis := goodIn_r _ [12, 13, 14, 15, 16, 17, 18, 19, 20, 21, 22, 23, 234, 235, 236, 237, 238, 239, 240, 241, 242, 243, 244, 249, 250, 251, 252, 253, 254] (by decide +kernel) (by decide +kernel)
set_option maxRecDepth 20000 in
theorem gX11_torsion_X11_basis : GoodIn wsX11_torsion (wsV RX11 266 RX11 yX11_basis wsX11_basis) := goodIn_app (goodIn_of _ (by decide +kernel)) ggX11_torsion_X11_basis
set_option maxRecDepth 20000 in
theorem ggX11_torsion_X0_torsionsOf : GoodIn wsX11_torsion wsX0_torsionsOf := goodIn_r _ [28, 29, 30, 31, 32, 33, 34, 35, 27, 36, 37, 38, 39, 40, 41, 42, 43, 44, 45, 46, 47, 48, 49, 50, 51, 52, 53, 54, 55, 56, 57, 58, 59, 60, 7, 61, 62, 63, 64, 65, 66, 67, 68, 69, 70, 71, 72, 73, 74, 75, 76, 77, 78, 79, 80, 81, 82, 83, 84, 85, 86, 87, 88, 89, 90, 91, 92, 93, 94, 18, 95, 96, 97, 98, 99, 100, 101, 102, 103, 104, 105, 106, 107, 108, 109, 110, 111, 112, 113, 114, 115, 116, 117, 118, 119, 120, 23, 121, 122, 123, 124, 125, 126, 127, 128, 129, 130, 131, 132, 133, 134, 135, 136, 137, 138, 139, 140, 141, 142, 143, 144, 145, 146, 147, 148, 149, 150, 151, 152, 153, 154, 155, 156, 157, 158, 159, 160, 161, 162, 163, 164, 165, 166, 167, 168, 169, 170, 171, 172, 173, 174, 175, 176, 177, 178, 179, 180, 181, 182, 183, 184, 185, 186, 187, 188, 189, 190, 191, 192, 193, 194, 195, 196, 197, 198, 199, 200, 201, 202, 203, 204, 205, 206, 207, 208, 209, 210, 211, 212, 213, 214, 215, 216, 217, 218, 219, 220, 221, 222, 223, 224, 225, 226, 227, 228, 229, 230, 231, 232, 233, 245, 246, 247, 248, 255, 256, 257, 258, 259, 260, 261, 262, 263, 264, 265, 266, 267, 268, 269, 270, 271, 272, 273, 274, 275, 276, 277, 278, 279, 280, 249, 250, 251, 252, 253, 254] (by decide +kernel) (by decide +kernel)
set_option maxRecDepth 20000 in
theorem gX11_torsion_X0_torsionsOf : GoodIn wsX11_torsion (wsV RX11 273 RX0 yX0_torsionsOf wsX0_torsionsOf) := goodIn_app (goodIn_of _ (by decide +kernel)) ggX11_torsion_X0_torsionsOf
def wbX11_torsion_0 (rec : Nat → XT → (Nat → Int32) → (Nat → Int64) → (Int64 → XT → Prop) → Prop) (k : Nat) (t : XT) (li : Nat → Int32) (lj : Nat → Int64) (Q : Int64 → XT → Prop) : Prop :=
  (wqX11_isDim k (li 1) (fun r_1 => ((r_1 = 0) → rec 1 t li lj Q) ∧ (¬ (r_1 = 0) → (((li 3) < 0) → rec 1 t li lj Q) ∧ (¬ ((li 3) < 0) → (((1 : Int32) < (li 3)) → rec 1 t li lj Q) ∧ (¬ ((1 : Int32) < (li 3)) → ((((-1) : Int32) ≤ (li 2)) → (wqX11_basis k t (li 3) (fun r_6 t_6 => ((¬ (li 3) = 1) → rec 2 t_6 (uI (uI li 103 0) 102 (li 1)) (uI lj 101 r_6) Q) ∧ (((li 3) = 1) → rec 2 t_6 (uI (uI li 103 1) 102 (li 1)) (uI lj 101 r_6) Q)))) ∧ (¬ (((-1) : Int32) ≤ (li 2)) → rec 1 t li lj Q))))))
def wbX11_torsion_1 (rec : Nat → XT → (Nat → Int32) → (Nat → Int64) → (Int64 → XT → Prop) → Prop) (k : Nat) (t : XT) (li : Nat → Int32) (lj : Nat → Int64) (Q : Int64 → XT → Prop) : Prop :=
  Q (-1) t
def wbX11_torsion_2 (rec : Nat → XT → (Nat → Int32) → (Nat → Int64) → (Int64 → XT → Prop) → Prop) (k : Nat) (t : XT) (li : Nat → Int32) (lj : Nat → Int64) (Q : Int64 → XT → Prop) : Prop :=
  (wqX0_torsionsOf k t (lj 101) (li 102) (li 103) (fun r_8 t_8 => ((¬ (li 2) = (-1)) → (((r_8 : Int32) ≤ (li 2)) → Q (-2) t_8) ∧ (¬ ((r_8 : Int32) ≤ (li 2)) → (vp_in (li 2) 64 ∧ (∀ v_11 : Int64, v_11 = (t_8.2.2.2 5) (li 2).toNatClampNeg → Q v_11 t_8)))) ∧ (((li 2) = (-1)) → (∀ v_12 : Int64, v_12 = r_8.toInt64 → Q v_12 t_8))))
def wpX11_torsion : Nat → Nat → XT → (Nat → Int32) → (Nat → Int64) → (Int64 → XT → Prop) → Prop
  | 0, _, _, _, _, _ => False
  | k + 1, 0, t, li, lj, Q => wbX11_torsion_0 (wpX11_torsion k) k t li lj Q
  | k + 1, 1, t, li, lj, Q => wbX11_torsion_1 (wpX11_torsion k) k t li lj Q
  | k + 1, 2, t, li, lj, Q => wbX11_torsion_2 (wpX11_torsion k) k t li lj Q
  | _ + 1, _, _, _, _, _ => False
def wqX11_torsion (k : Nat) (t : XT) (a1 : Int32) (a2 : Int32) (a3 : Int32) (Q : Int64 → XT → Prop) : Prop := wpX11_torsion k 0 t (uI (uI (uI (fun _ => 0) 1 a1) 2 a2) 3 a3) (fun _ => 0) Q
set_option maxHeartbeats 8000000 in
set_option maxRecDepth 100000 in
theorem wkX11_torsion (l : Launch) (D : va_G) (cI cJ cB cZ : ClassId) (ad : Nat → Nat) (k : Nat) (t : XT) (a1 : Int32) (a2 : Int32) (a3 : Int32) (Q : Int64 → XT → Prop) (hR : wqX11_torsion k t a1 a2 a3 Q) : MetL l yX11_torsion wsX11_torsion 7 174 0 0 D (TYS cI cJ cB cZ) (wX cI cJ cB cZ ad t) [.ref (ad 0), .int a1, .int a2, .int a3] (fun r u => Q r u) (fun u : XT => (wX cI cJ cB cZ ad u)) := by
  refine x_startL (ty := .long) (cc := cX11_torsion) (by decide) rfl (Nat.le_of_ble_eq_true rfl) ?_
  intro p e s m args below meth c A ls B hr hnm h hl
  have hx := B.1.1
  have hb := B.1.2.1
  have hml := B.1.2.2.1
  have hts := B.1.2.2.2.2
  have hown : s.vm.findClass RX11 = some m.cls := B.1.2.2.2.1
  have hin0 : ∀ w ∈ u_ws RX0 TX0 4, w ∈ wsX11_torsion := by decide +kernel
  have hin11 : ∀ w ∈ u_ws RX11 TX11 11, w ∈ wsX11_torsion := by decide +kernel
  have main : ∀ k : Nat, (∀ (t : XT) (li : Nat → Int32) (lj : Nat → Int64) (H : Heap) (locs : List Loc) (ls : Array Slot), wpX11_torsion k 0 t li lj Q → lv_has ls 5 [(0, .ref (ad 0)), (1, .int (li 1)), (2, .int (li 2)), (3, .int (li 3))] → Hp D A s.heap (wX cI cJ cB cZ ad t) H locs → W p l e { frames := 7, cells := 0, slots := 0, locals := 174 } s m args below meth c H locs 0 0 (MQ below (va_Ql (fun r u => Q r u) (fun u t => xEnd D ((fun u : XT => (wX cI cJ cB cZ ad u)) u) A t) A) args s 0 0 A) (F0 m 0 ls [])) ∧
      (∀ (t : XT) (li : Nat → Int32) (lj : Nat → Int64) (H : Heap) (locs : List Loc) (ls : Array Slot), wpX11_torsion k 1 t li lj Q → lv_has ls 5 [(0, .ref (ad 0)), (1, .int (li 1)), (2, .int (li 2)), (3, .int (li 3))] → Hp D A s.heap (wX cI cJ cB cZ ad t) H locs → W p l e { frames := 7, cells := 0, slots := 0, locals := 174 } s m args below meth c H locs 0 0 (MQ below (va_Ql (fun r u => Q r u) (fun u t => xEnd D ((fun u : XT => (wX cI cJ cB cZ ad u)) u) A t) A) args s 0 0 A) (F0 m 21 ls [])) ∧
      (∀ (t : XT) (li : Nat → Int32) (lj : Nat → Int64) (H : Heap) (locs : List Loc) (ls : Array Slot), wpX11_torsion k 2 t li lj Q → lv_has ls 5 [(0, .ref (ad 0)), (1, .int (li 1)), (2, .int (li 2)), (3, .int (li 3))] → Hp D A s.heap (wX cI cJ cB cZ ad t) H locs → W p l e { frames := 7, cells := 0, slots := 0, locals := 174 } s m args below meth c H locs 0 0 (MQ below (va_Ql (fun r u => Q r u) (fun u t => xEnd D ((fun u : XT => (wX cI cJ cB cZ ad u)) u) A t) A) args s 0 0 A) (F0 m 45 ls [.int (li 103), .int (li 102), .long (lj 101), .ref (ad 8)])) := by
    intro k
    induction k with
    | zero => exact ⟨fun _ _ _ _ _ _ hR => False.elim hR, fun _ _ _ _ _ _ hR => False.elim hR, fun _ _ _ _ _ _ hR => False.elim hR⟩
    | succ k ih =>
      refine ⟨?_, ?_, ?_⟩
      · intro t li lj H locs ls hR hl h
        have hR : wbX11_torsion_0 (wpX11_torsion k) k t li lj Q := hR
        unfold wbX11_torsion_0 at hR
        refine lv_iload_n hx hb dX11_torsion_0 rfl (lv_at hl 1 rfl) ?_
        refine x_cSIE (n := 1) (As := [.int (li 1)]) (rest := []) B h (wkX11_isDim l D cI cJ cB cZ ad k (li 1) _ hR) ⟨⟨_, rfl⟩, by decide +kernel, Nat.le_of_ble_eq_true rfl, Nat.le_of_ble_eq_true rfl⟩ gX11_torsion_X11_isDim rfl hl.1 rfl (Nat.le_of_ble_eq_true rfl) dX11_torsion_1 ⟨Nat.le_of_ble_eq_true rfl, Nat.le_of_ble_eq_true rfl⟩ (fun r_1 _ H locs hR h => ?_)
        refine lv_if_eq (tgt := 21) hx hb dX11_torsion_4 (by decide) (fun c_2 => ?_) (fun c_2 => ?_)
        · have hR := hR.1 c_2
          exact ih.2.1 t li lj H locs ls hR (lv_sub hl [0, 1, 2, 3] rfl) h
        · have hR := hR.2 c_2
          refine lv_iload_n hx hb dX11_torsion_7 rfl (lv_at hl 3 rfl) ?_
          refine lv_if_lt (tgt := 21) hx hb dX11_torsion_8 (by decide) (fun c_3 => ?_) (fun c_3 => ?_)
          · have hR := hR.1 c_3
            exact ih.2.1 t li lj H locs ls hR (lv_sub hl [0, 1, 2, 3] rfl) h
          · have hR := hR.2 c_3
            refine lv_iload_n hx hb dX11_torsion_11 rfl (lv_at hl 3 rfl) ?_
            refine lv_iconst (v := 1) hx hb dX11_torsion_12 (by decide) ?_
            refine lv_icmp_gt (tgt := 21) hx hb dX11_torsion_13 (by decide) (fun c_4 => ?_) (fun c_4 => ?_)
            · have hR := hR.1 c_4
              exact ih.2.1 t li lj H locs ls hR (lv_sub hl [0, 1, 2, 3] rfl) h
            · have hR := hR.2 c_4
              refine lv_iload_n hx hb dX11_torsion_16 rfl (lv_at hl 2 rfl) ?_
              refine lv_iconst (v := (-1)) hx hb dX11_torsion_17 (by decide) ?_
              refine lv_icmp_ge (tgt := 25) hx hb dX11_torsion_18 (by decide) (fun c_5 => ?_) (fun c_5 => ?_)
              · have hR := hR.1 c_5
                refine lv_aload_n hx hb dX11_torsion_25 rfl (lv_at hl 0 rfl) ?_
                refine x_get (ci := 11) (C := RX11) (T := TX11) (N := 11) (v := .ref (ad 8)) B h hin11 0 7 rfl rfl (by decide) (by decide +kernel) rfl dX11_torsion_26 ?_
                refine lv_aload_n hx hb dX11_torsion_29 rfl (lv_at hl 0 rfl) ?_
                refine lv_iload_n hx hb dX11_torsion_30 rfl (lv_at hl 3 rfl) ?_
                refine x_cVLF (n := 1) (As := [.int (li 3)]) (rest := [.ref (ad 8)]) B h (wkX11_basis l D cI cJ cB cZ ad k t (li 3) _ hR) ⟨⟨_, rfl⟩, by decide +kernel, Nat.le_of_ble_eq_true rfl, Nat.le_of_ble_eq_true rfl⟩ gX11_torsion_X11_basis (show ((wX cI cJ cB cZ ad t) : va_W)[0]? = some (_, .inr (11, _)) from rfl) rfl rfl hl.1 rfl (Nat.le_of_ble_eq_true rfl) dX11_torsion_31 ⟨Nat.le_of_ble_eq_true rfl, Nat.le_of_ble_eq_true rfl⟩ (fun r_6 t_6 H locs hR h => ?_)
                refine lv_iload_n hx hb dX11_torsion_34 rfl (lv_at hl 1 rfl) ?_
                refine lv_iload_n hx hb dX11_torsion_35 rfl (lv_at hl 3 rfl) ?_
                refine lv_iconst (v := 1) hx hb dX11_torsion_36 (by decide) ?_
                refine lv_icmp_ne (tgt := 44) hx hb dX11_torsion_37 (by decide) (fun c_7 => ?_) (fun c_7 => ?_)
                · have hR := hR.1 c_7
                  refine lv_iconst (v := 0) hx hb dX11_torsion_44 (by decide) ?_
                  exact ih.2.2 t_6 (uI (uI li 103 0) 102 (li 1)) (uI lj 101 r_6) H locs ls hR (lv_sub hl [0, 1, 2, 3] rfl) h
                · have hR := hR.2 c_7
                  refine lv_iconst (v := 1) hx hb dX11_torsion_40 (by decide) ?_
                  refine lv_goto (tgt := 45) hx hb dX11_torsion_41 (by decide) ?_
                  exact ih.2.2 t_6 (uI (uI li 103 1) 102 (li 1)) (uI lj 101 r_6) H locs ls hR (lv_sub hl [0, 1, 2, 3] rfl) h
              · have hR := hR.2 c_5
                exact ih.2.1 t li lj H locs ls hR (lv_sub hl [0, 1, 2, 3] rfl) h
      · intro t li lj H locs ls hR hl h
        have hR : wbX11_torsion_1 (wpX11_torsion k) k t li lj Q := hR
        unfold wbX11_torsion_1 at hR
        refine lv_ldc2 (v := (-1)) hx hb hown (hts (.constantLong RX11 242 (-1)) (by decide +kernel)) dX11_torsion_21 ?_
        exact x_lret (w1 := (fun u : XT => (wX cI cJ cB cZ ad u))) t B h hr hR dX11_torsion_24
      · intro t li lj H locs ls hR hl h
        have hR : wbX11_torsion_2 (wpX11_torsion k) k t li lj Q := hR
        unfold wbX11_torsion_2 at hR
        refine x_cVIF (n := 3) (As := [.long (lj 101), .int (li 102), .int (li 103)]) (rest := []) B h (wkX0_torsionsOf l D cI cJ cB cZ ad k t (lj 101) (li 102) (li 103) _ hR) ⟨⟨_, rfl⟩, by decide +kernel, Nat.le_of_ble_eq_true rfl, Nat.le_of_ble_eq_true rfl⟩ gX11_torsion_X0_torsionsOf (show ((wX cI cJ cB cZ ad t) : va_W)[8]? = some (_, .inr (0, _)) from rfl) rfl rfl hl.1 rfl (Nat.le_of_ble_eq_true rfl) dX11_torsion_45 ⟨Nat.le_of_ble_eq_true rfl, Nat.le_of_ble_eq_true rfl⟩ (fun r_8 t_8 H locs hR h => ?_)
        refine lv_istore (lv' := [(4, .int r_8), (0, .ref (ad 0)), (1, .int (li 1)), (2, .int (li 2)), (3, .int (li 3))]) hx hb dX11_torsion_48 hl (by decide) rfl (fun ls hl => ?_)
        refine lv_iload_n hx hb dX11_torsion_50 rfl (lv_at hl 3 rfl) ?_
        refine lv_iconst (v := (-1)) hx hb dX11_torsion_51 (by decide) ?_
        refine lv_icmp_ne (tgt := 59) hx hb dX11_torsion_52 (by decide) (fun c_9 => ?_) (fun c_9 => ?_)
        · have hR := hR.1 c_9
          refine lv_iload_n hx hb dX11_torsion_59 rfl (lv_at hl 3 rfl) ?_
          refine lv_iload hx hb dX11_torsion_60 (lv_at hl 0 rfl) ?_
          refine lv_icmp_ge (tgt := 77) hx hb dX11_torsion_62 (by decide) (fun c_10 => ?_) (fun c_10 => ?_)
          · have hR := hR.1 c_10
            refine lv_ldc2 (v := (-2)) hx hb hown (hts (.constantLong RX11 279 (-2)) (by decide +kernel)) dX11_torsion_77 ?_
            exact x_lret (w1 := (fun u : XT => (wX cI cJ cB cZ ad u))) t_8 B h hr hR dX11_torsion_80
          · have hR := hR.2 c_10
            refine lv_aload_n hx hb dX11_torsion_65 rfl (lv_at hl 1 rfl) ?_
            refine x_get (ci := 11) (C := RX11) (T := TX11) (N := 11) (v := .ref (ad 8)) B h hin11 0 7 rfl rfl (by decide) (by decide +kernel) rfl dX11_torsion_66 ?_
            refine x_get (ci := 0) (C := RX0) (T := TX0) (N := 4) (v := .ref (ad 26)) B h hin0 8 3 rfl rfl (by decide) (by decide +kernel) rfl dX11_torsion_69 ?_
            refine lv_iload_n hx hb dX11_torsion_72 rfl (lv_at hl 3 rfl) ?_
            obtain ⟨hb_11, hR⟩ := hR
            refine va_lald (f := (t_8.2.2.2 5)) hx hb B.2.1 h.1 26 1 rfl rfl hb_11 dX11_torsion_73 ?_
            refine lv_topl (fun v_11 ev_11 => ?_)
            have hR := hR v_11 ev_11
            refine lv_goto (tgt := 80) hx hb dX11_torsion_74 (by decide) ?_
            exact x_lret (w1 := (fun u : XT => (wX cI cJ cB cZ ad u))) t_8 B h hr hR dX11_torsion_80
        · have hR := hR.2 c_9
          refine lv_iload hx hb dX11_torsion_55 (lv_at hl 0 rfl) ?_
          obtain ⟨v_12, ev_12⟩ : ∃ v : Int64, v = r_8.toInt64 := ⟨_, rfl⟩
          have hR := hR v_12 ev_12
          refine lv_i2l (v := v_12) hx hb dX11_torsion_57 ev_12.symm ?_
          exact x_lret (w1 := (fun u : XT => (wX cI cJ cB cZ ad u))) t_8 B h hr hR dX11_torsion_58
  exact (main k).1 t _ _ s.heap [] ls hR hl h
set_option maxRecDepth 20000 in
theorem ggX11_slack_X11_isDim : GoodIn wsX11_slack wsX11_isDim := goodIn_r _ [10] (by decide +kernel) (by decide +kernel)
set_option maxRecDepth 20000 in
theorem gX11_slack_X11_isDim : GoodIn wsX11_slack (va_wsS RX11 229 yX11_isDim wsX11_isDim) := goodIn_app (goodIn_of _ (by decide +kernel)) ggX11_slack_X11_isDim
set_option maxRecDepth 20000 in
theorem ggX11_slack_X6_unpaired : GoodIn wsX11_slack wsX6_unpaired := goodIn_r _ [15, 16, 17, 18, 19, 191, 192, 193, 194, 195, 196] (by decide +kernel) (by decide +kernel)
set_option maxRecDepth 20000 in
theorem gX11_slack_X6_unpaired : GoodIn wsX11_slack (wsV RX11 232 RX6 yX6_unpaired wsX6_unpaired) := goodIn_app (goodIn_of _ (by decide +kernel)) ggX11_slack_X6_unpaired
set_option maxRecDepth 20000 in
theorem ggX11_slack_J13_bitCount_95d88 : GoodIn wsX11_slack wsJ13_bitCount_95d88 := goodIn_r _ [23, 24, 25, 26] (by decide +kernel) (by decide +kernel)
set_option maxRecDepth 20000 in
theorem gX11_slack_J13_bitCount_95d88 : GoodIn wsX11_slack (va_wsS RX11 151 yJ13_bitCount_95d88 wsJ13_bitCount_95d88) := goodIn_app (goodIn_of _ (by decide +kernel)) ggX11_slack_J13_bitCount_95d88
set_option maxRecDepth 20000 in
theorem ggX11_slack_X0_bettiOf : GoodIn wsX11_slack wsX0_bettiOf := goodIn_r _ [31, 32, 33, 34, 21, 22, 23, 24, 25, 26, 35, 36, 37, 30, 38, 39, 40, 41, 42, 43, 44, 45, 46, 47, 48, 49, 50, 51, 52, 53, 54, 9, 55, 56, 57, 58, 59, 60, 61, 62, 63, 64, 65, 66, 67, 68, 69, 70, 71, 72, 73, 74, 75, 76, 77, 78, 79, 80, 81, 82, 83, 84, 85, 86, 87, 88, 14, 89, 90, 91, 92, 93, 94, 95, 96, 97, 98, 99, 100, 101, 102, 103, 104, 105, 106, 107, 108, 109, 110, 111, 112, 113, 114, 19, 115, 116, 20, 117, 118, 119, 120, 121, 122, 123, 124, 125, 126, 127, 128, 129, 130, 131, 132, 133, 134, 135, 136, 137, 138, 139, 140, 141, 142, 143, 144, 145, 146, 147, 148, 149, 150, 151, 152, 153, 154, 155, 156, 157, 158, 159, 160, 161, 162, 163, 164, 165, 166, 167, 168, 169, 170, 171, 172, 197, 198, 199, 200, 184, 185, 186, 187, 188, 189, 190, 201, 202, 203, 204, 205, 206, 207, 208, 209, 210, 211, 212, 213, 214, 215, 216, 217, 218, 219, 191, 192, 193, 194, 195, 196] (by decide +kernel) (by decide +kernel)
set_option maxRecDepth 20000 in
theorem gX11_slack_X0_bettiOf : GoodIn wsX11_slack (wsV RX11 269 RX0 yX0_bettiOf wsX0_bettiOf) := goodIn_app (goodIn_of _ (by decide +kernel)) ggX11_slack_X0_bettiOf
def wbX11_slack_0 (rec : Nat → XT → (Nat → Int32) → (Nat → Int64) → (Int32 → XT → Prop) → Prop) (k : Nat) (t : XT) (li : Nat → Int32) (lj : Nat → Int64) (Q : Int32 → XT → Prop) : Prop :=
  (wqX11_isDim k (li 1) (fun r_1 => ((¬ r_1 = 0) → rec 1 t (uI (uI li 2 0) 3 0) lj Q) ∧ ((r_1 = 0) → Q (-2147483648) t)))
def wbX11_slack_1 (rec : Nat → XT → (Nat → Int32) → (Nat → Int64) → (Int32 → XT → Prop) → Prop) (k : Nat) (t : XT) (li : Nat → Int32) (lj : Nat → Int64) (Q : Int32 → XT → Prop) : Prop :=
  ((((li 1) : Int32) < (li 3)) → Q (li 2) t) ∧ (¬ (((li 1) : Int32) < (li 3)) → (wqX6_unpaired k t  (fun r_4 t_4 => (vp_in (li 3) 5 ∧ (∀ v_5 : Int64, v_5 = (t_4.2.2.2 2) (li 3).toNatClampNeg → (∀ v_6 : Int64, v_6 = (r_4 &&& v_5) → (wqJ13_bitCount_95d88 k v_6 (fun r_7 => (wqX0_bettiOf k t_4 (t_4.2.1 0) (li 3) 0 (fun r_8 t_8 => (∀ v_9 : Int32, v_9 = (r_7 - r_8) → (∀ v_10 : Int32, v_10 = (v_9 - (li 2)) → (∀ v_11 : Int32, v_11 = (li 3) + Int32.ofInt 1 → rec 1 t_8 (uI (uI li 2 v_10) 3 v_11) lj Q)))))))))))))
def wpX11_slack : Nat → Nat → XT → (Nat → Int32) → (Nat → Int64) → (Int32 → XT → Prop) → Prop
  | 0, _, _, _, _, _ => False
  | k + 1, 0, t, li, lj, Q => wbX11_slack_0 (wpX11_slack k) k t li lj Q
  | k + 1, 1, t, li, lj, Q => wbX11_slack_1 (wpX11_slack k) k t li lj Q
  | _ + 1, _, _, _, _, _ => False
def wqX11_slack (k : Nat) (t : XT) (a1 : Int32) (Q : Int32 → XT → Prop) : Prop := wpX11_slack k 0 t (uI (fun _ => 0) 1 a1) (fun _ => 0) Q
set_option maxHeartbeats 8000000 in
set_option maxRecDepth 100000 in
theorem wkX11_slack (l : Launch) (D : va_G) (cI cJ cB cZ : ClassId) (ad : Nat → Nat) (k : Nat) (t : XT) (a1 : Int32) (Q : Int32 → XT → Prop) (hR : wqX11_slack k t a1 Q) : MetI l yX11_slack wsX11_slack 7 172 0 0 D (TYS cI cJ cB cZ) (wX cI cJ cB cZ ad t) [.ref (ad 0), .int a1] (fun r u => Q r u) (fun u : XT => (wX cI cJ cB cZ ad u)) := by
  refine x_startI (ty := .int) (cc := cX11_slack) (by decide) rfl (Nat.le_of_ble_eq_true rfl) ?_
  intro p e s m args below meth c A ls B hr hnm h hl
  have hx := B.1.1
  have hb := B.1.2.1
  have hml := B.1.2.2.1
  have hts := B.1.2.2.2.2
  have hown : s.vm.findClass RX11 = some m.cls := B.1.2.2.2.1
  have hin6 : ∀ w ∈ u_ws RX6 TX6 6, w ∈ wsX11_slack := by decide +kernel
  have hin9 : ∀ w ∈ u_ws RX9 TX9 7, w ∈ wsX11_slack := by decide +kernel
  have hin11 : ∀ w ∈ u_ws RX11 TX11 11, w ∈ wsX11_slack := by decide +kernel
  have main : ∀ k : Nat, (∀ (t : XT) (li : Nat → Int32) (lj : Nat → Int64) (H : Heap) (locs : List Loc) (ls : Array Slot), wpX11_slack k 0 t li lj Q → lv_has ls 5 [(0, .ref (ad 0)), (1, .int (li 1))] → Hp D A s.heap (wX cI cJ cB cZ ad t) H locs → W p l e { frames := 7, cells := 0, slots := 0, locals := 172 } s m args below meth c H locs 0 0 (MQ below (va_Qi (fun r u => Q r u) (fun u t => xEnd D ((fun u : XT => (wX cI cJ cB cZ ad u)) u) A t) A) args s 0 0 A) (F0 m 0 ls [])) ∧
      (∀ (t : XT) (li : Nat → Int32) (lj : Nat → Int64) (H : Heap) (locs : List Loc) (ls : Array Slot), wpX11_slack k 1 t li lj Q → lv_has ls 5 [(0, .ref (ad 0)), (1, .int (li 1)), (2, .int (li 2)), (3, .int (li 3))] → Hp D A s.heap (wX cI cJ cB cZ ad t) H locs → W p l e { frames := 7, cells := 0, slots := 0, locals := 172 } s m args below meth c H locs 0 0 (MQ below (va_Qi (fun r u => Q r u) (fun u t => xEnd D ((fun u : XT => (wX cI cJ cB cZ ad u)) u) A t) A) args s 0 0 A) (F0 m 14 ls [])) := by
    intro k
    induction k with
    | zero => exact ⟨fun _ _ _ _ _ _ hR => False.elim hR, fun _ _ _ _ _ _ hR => False.elim hR⟩
    | succ k ih =>
      refine ⟨?_, ?_⟩
      · intro t li lj H locs ls hR hl h
        have hR : wbX11_slack_0 (wpX11_slack k) k t li lj Q := hR
        unfold wbX11_slack_0 at hR
        refine lv_iload_n hx hb dX11_slack_0 rfl (lv_at hl 1 rfl) ?_
        refine x_cSIE (n := 1) (As := [.int (li 1)]) (rest := []) B h (wkX11_isDim l D cI cJ cB cZ ad k (li 1) _ hR) ⟨⟨_, rfl⟩, by decide +kernel, Nat.le_of_ble_eq_true rfl, Nat.le_of_ble_eq_true rfl⟩ gX11_slack_X11_isDim rfl hl.1 rfl (Nat.le_of_ble_eq_true rfl) dX11_slack_1 ⟨Nat.le_of_ble_eq_true rfl, Nat.le_of_ble_eq_true rfl⟩ (fun r_1 _ H locs hR h => ?_)
        refine lv_if_ne (tgt := 10) hx hb dX11_slack_4 (by decide) (fun c_2 => ?_) (fun c_2 => ?_)
        · have hR := hR.1 c_2
          refine lv_iconst (v := 0) hx hb dX11_slack_10 (by decide) ?_
          refine lv_istore_n (lv' := [(2, .int 0), (0, .ref (ad 0)), (1, .int (li 1))]) hx hb dX11_slack_11 rfl hl (by decide) rfl (fun ls hl => ?_)
          refine lv_iconst (v := 0) hx hb dX11_slack_12 (by decide) ?_
          refine lv_istore_n (lv' := [(3, .int 0), (2, .int 0), (0, .ref (ad 0)), (1, .int (li 1))]) hx hb dX11_slack_13 rfl hl (by decide) rfl (fun ls hl => ?_)
          exact ih.2 t (uI (uI li 2 0) 3 0) lj H locs ls hR (lv_sub hl [2, 3, 1, 0] rfl) h
        · have hR := hR.2 c_2
          refine lv_ldc (v := (-2147483648)) hx hb hown (hts (.constant RX11 160 (-2147483648)) (by decide +kernel)) dX11_slack_7 ?_
          exact x_iret (w1 := (fun u : XT => (wX cI cJ cB cZ ad u))) t B h hr rfl hR dX11_slack_9
      · intro t li lj H locs ls hR hl h
        have hR : wbX11_slack_1 (wpX11_slack k) k t li lj Q := hR
        unfold wbX11_slack_1 at hR
        refine lv_iload_n hx hb dX11_slack_14 rfl (lv_at hl 3 rfl) ?_
        refine lv_iload_n hx hb dX11_slack_15 rfl (lv_at hl 1 rfl) ?_
        refine lv_icmp_gt (tgt := 69) hx hb dX11_slack_16 (by decide) (fun c_3 => ?_) (fun c_3 => ?_)
        · have hR := hR.1 c_3
          refine lv_iload_n hx hb dX11_slack_69 rfl (lv_at hl 2 rfl) ?_
          exact x_iret (w1 := (fun u : XT => (wX cI cJ cB cZ ad u))) t B h hr rfl hR dX11_slack_70
        · have hR := hR.2 c_3
          refine lv_aload_n hx hb dX11_slack_19 rfl (lv_at hl 0 rfl) ?_
          refine x_get (ci := 11) (C := RX11) (T := TX11) (N := 11) (v := .ref (ad 4)) B h hin11 0 3 rfl rfl (by decide) (by decide +kernel) rfl dX11_slack_20 ?_
          refine x_cVLF (n := 0) (As := []) (rest := []) B h (wkX6_unpaired l D cI cJ cB cZ ad k t  _ hR) ⟨⟨_, rfl⟩, by decide +kernel, Nat.le_of_ble_eq_true rfl, Nat.le_of_ble_eq_true rfl⟩ gX11_slack_X6_unpaired (show ((wX cI cJ cB cZ ad t) : va_W)[4]? = some (_, .inr (6, _)) from rfl) rfl rfl hl.1 rfl (Nat.le_of_ble_eq_true rfl) dX11_slack_23 ⟨Nat.le_of_ble_eq_true rfl, Nat.le_of_ble_eq_true rfl⟩ (fun r_4 t_4 H locs hR h => ?_)
          refine lv_aload_n hx hb dX11_slack_26 rfl (lv_at hl 0 rfl) ?_
          refine x_get (ci := 11) (C := RX11) (T := TX11) (N := 11) (v := .ref (ad 3)) B h hin11 0 2 rfl rfl (by decide) (by decide +kernel) rfl dX11_slack_27 ?_
          refine x_get (ci := 9) (C := RX9) (T := TX9) (N := 7) (v := .ref (ad 19)) B h hin9 3 6 rfl rfl (by decide) (by decide +kernel) rfl dX11_slack_30 ?_
          refine lv_iload_n hx hb dX11_slack_33 rfl (lv_at hl 3 rfl) ?_
          obtain ⟨hb_5, hR⟩ := hR
          refine va_lald (f := (t_4.2.2.2 2)) hx hb B.2.1 h.1 19 1 rfl rfl hb_5 dX11_slack_34 ?_
          refine lv_topl (fun v_5 ev_5 => ?_)
          have hR := hR v_5 ev_5
          refine lv_land hx hb dX11_slack_35 ?_
          refine lv_topl (fun v_6 ev_6 => ?_)
          have hR := hR v_6 ev_6
          refine x_cSIE (n := 1) (As := [.long v_6]) (rest := []) B h (wkJ13_bitCount_95d88 l D cI cJ cB cZ ad k v_6 _ hR) ⟨⟨_, rfl⟩, by decide +kernel, Nat.le_of_ble_eq_true rfl, Nat.le_of_ble_eq_true rfl⟩ gX11_slack_J13_bitCount_95d88 rfl hl.1 rfl (Nat.le_of_ble_eq_true rfl) dX11_slack_36 ⟨Nat.le_of_ble_eq_true rfl, Nat.le_of_ble_eq_true rfl⟩ (fun r_7 _ H locs hR h => ?_)
          refine lv_istore (lv' := [(4, .int r_7), (0, .ref (ad 0)), (1, .int (li 1)), (2, .int (li 2)), (3, .int (li 3))]) hx hb dX11_slack_39 hl (by decide) rfl (fun ls hl => ?_)
          refine lv_iload hx hb dX11_slack_41 (lv_at hl 0 rfl) ?_
          refine lv_aload_n hx hb dX11_slack_43 rfl (lv_at hl 1 rfl) ?_
          refine x_get (ci := 11) (C := RX11) (T := TX11) (N := 11) (v := .ref (ad 8)) B h hin11 0 7 rfl rfl (by decide) (by decide +kernel) rfl dX11_slack_44 ?_
          refine lv_aload_n hx hb dX11_slack_47 rfl (lv_at hl 1 rfl) ?_
          refine x_get (ci := 11) (C := RX11) (T := TX11) (N := 11) (v := .ref (ad 4)) B h hin11 0 3 rfl rfl (by decide) (by decide +kernel) rfl dX11_slack_48 ?_
          refine x_get (ci := 6) (C := RX6) (T := TX6) (N := 6) (v := .long (t_4.2.1 0)) B h hin6 4 2 rfl rfl (by decide) (by decide +kernel) rfl dX11_slack_51 ?_
          refine lv_iload_n hx hb dX11_slack_54 rfl (lv_at hl 4 rfl) ?_
          refine lv_iconst (v := 0) hx hb dX11_slack_55 (by decide) ?_
          refine x_cVIF (n := 3) (As := [.long (t_4.2.1 0), .int (li 3), .int 0]) (rest := [.int r_7]) B h (wkX0_bettiOf l D cI cJ cB cZ ad k t_4 (t_4.2.1 0) (li 3) 0 _ hR) ⟨⟨_, rfl⟩, by decide +kernel, Nat.le_of_ble_eq_true rfl, Nat.le_of_ble_eq_true rfl⟩ gX11_slack_X0_bettiOf (show ((wX cI cJ cB cZ ad t_4) : va_W)[8]? = some (_, .inr (0, _)) from rfl) rfl rfl hl.1 rfl (Nat.le_of_ble_eq_true rfl) dX11_slack_56 ⟨Nat.le_of_ble_eq_true rfl, Nat.le_of_ble_eq_true rfl⟩ (fun r_8 t_8 H locs hR h => ?_)
          refine lv_isub hx hb dX11_slack_59 ?_
          refine lv_topi (fun v_9 ev_9 => ?_)
          have hR := hR v_9 ev_9
          refine lv_iload_n hx hb dX11_slack_60 rfl (lv_at hl 3 rfl) ?_
          refine lv_isub hx hb dX11_slack_61 ?_
          refine lv_topi (fun v_10 ev_10 => ?_)
          have hR := hR v_10 ev_10
          refine lv_istore_n (lv' := [(2, .int v_10), (4, .int r_7), (0, .ref (ad 0)), (1, .int (li 1)), (3, .int (li 3))]) hx hb dX11_slack_62 rfl hl (by decide) rfl (fun ls hl => ?_)
          obtain ⟨v_11, ev_11⟩ : ∃ v : Int32, v = (li 3) + Int32.ofInt 1 := ⟨_, rfl⟩
          have hR := hR v_11 ev_11
          refine lv_iinc (v := v_11) (lv' := [(3, .int v_11), (2, .int v_10), (4, .int r_7), (0, .ref (ad 0)), (1, .int (li 1))]) hx hb dX11_slack_63 hl (k := 4) rfl ev_11.symm (by decide) rfl (fun ls hl => ?_)
          refine lv_goto (tgt := 14) hx hb dX11_slack_66 (by decide) ?_
          exact ih.2 t_8 (uI (uI li 2 v_10) 3 v_11) lj H locs ls hR (lv_sub hl [3, 4, 1, 0] rfl) h
  exact (main k).1 t _ _ s.heap [] ls hR hl h
