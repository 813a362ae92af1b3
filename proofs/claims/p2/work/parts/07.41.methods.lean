def wbX5_put_0 (rec : Nat → XT → (Nat → Int32) → (Nat → Int64) → (XT → Prop) → Prop) (k : Nat) (t : XT) (li : Nat → Int32) (lj : Nat → Int64) (Q : XT → Prop) : Prop :=
  (((li 1) < 0) → Q t) ∧ (¬ ((li 1) < 0) → ((((t.1 10) : Int32) ≤ (li 1)) → Q t) ∧ (¬ (((t.1 10) : Int32) ≤ (li 1)) → (((li 2) < 0) → Q t) ∧ (¬ ((li 2) < 0) → ((((t.1 11) : Int32) ≤ (li 2)) → Q t) ∧ (¬ (((t.1 11) : Int32) ≤ (li 2)) → (∀ v_5 : Int32, v_5 = ((li 1) * (t.1 11)) → (∀ v_6 : Int32, v_6 = (v_5 + (li 2)) → (vp_in v_6 900 ∧ (∀ t_7 : XT, t_7 = sB t 7 (vp_updL (t.2.2.2 7) v_6.toNatClampNeg (lj 3)) → Q t_7))))))))
def wpX5_put : Nat → Nat → XT → (Nat → Int32) → (Nat → Int64) → (XT → Prop) → Prop
  | 0, _, _, _, _, _ => False
  | k + 1, 0, t, li, lj, Q => wbX5_put_0 (wpX5_put k) k t li lj Q
  | _ + 1, _, _, _, _, _ => False
def wqX5_put (k : Nat) (t : XT) (a1 : Int32) (a2 : Int32) (a3 : Int64) (Q : XT → Prop) : Prop := wpX5_put k 0 t (uI (uI (fun _ => 0) 1 a1) 2 a2) (uI (fun _ => 0) 3 a3) Q
set_option maxHeartbeats 8000000 in
set_option maxRecDepth 100000 in
theorem wkX5_put (l : Launch) (D : va_G) (cI cJ cB cZ : ClassId) (ad : Nat → Nat) (k : Nat) (t : XT) (a1 : Int32) (a2 : Int32) (a3 : Int64) (Q : XT → Prop) (hR : wqX5_put k t a1 a2 a3 Q) : MetV l yX5_put wsX5_put 0 0 0 0 D (TYS cI cJ cB cZ) (wX cI cJ cB cZ ad t) [.ref (ad 11), .int a1, .int a2, .long a3] (fun u => Q u) (fun u : XT => (wX cI cJ cB cZ ad u)) := by
  refine x_startV (ty := .int) (cc := cX5_put) (by decide) rfl (Nat.le_of_ble_eq_true rfl) ?_
  intro p e s m args below meth c A ls B hr hnm h hl
  have hx := B.1.1
  have hb := B.1.2.1
  have hml := B.1.2.2.1
  have hts := B.1.2.2.2.2
  have hown : s.vm.findClass RX5 = some m.cls := B.1.2.2.2.1
  have hin5 : ∀ w ∈ u_ws RX5 TX5 6, w ∈ wsX5_put := by decide +kernel
  have main : ∀ k : Nat, (∀ (t : XT) (li : Nat → Int32) (lj : Nat → Int64) (H : Heap) (locs : List Loc) (ls : Array Slot), wpX5_put k 0 t li lj Q → lv_has ls 5 [(0, .ref (ad 11)), (1, .int (li 1)), (2, .int (li 2)), (3, .long (lj 3))] → Hp D A s.heap (wX cI cJ cB cZ ad t) H locs → W p l e { frames := 0, cells := 0, slots := 0, locals := 0 } s m args below meth c H locs 0 0 (MQ below (va_Qv (fun u => Q u) (fun u t => xEnd D ((fun u : XT => (wX cI cJ cB cZ ad u)) u) A t) A) args s 0 0 A) (F0 m 0 ls [])) := by
    intro k
    induction k with
    | zero => exact fun _ _ _ _ _ _ hR => False.elim hR
    | succ k ih =>
      intro t li lj H locs ls hR hl h
      have hR : wbX5_put_0 (wpX5_put k) k t li lj Q := hR
      unfold wbX5_put_0 at hR
      refine lv_iload_n hx hb dX5_put_0 rfl (lv_at hl 1 rfl) ?_
      refine lv_if_lt (tgt := 38) hx hb dX5_put_1 (by decide) (fun c_1 => ?_) (fun c_1 => ?_)
      · have hR := hR.1 c_1
        exact x_vret (w1 := (fun u : XT => (wX cI cJ cB cZ ad u))) t B h hr hR dX5_put_38
      · have hR := hR.2 c_1
        refine lv_iload_n hx hb dX5_put_4 rfl (lv_at hl 1 rfl) ?_
        refine lv_aload_n hx hb dX5_put_5 rfl (lv_at hl 0 rfl) ?_
        refine x_get (ci := 5) (C := RX5) (T := TX5) (N := 6) (v := .int (t.1 10)) B h hin5 11 3 rfl rfl (by decide) (by decide +kernel) rfl dX5_put_6 ?_
        refine lv_icmp_ge (tgt := 38) hx hb dX5_put_9 (by decide) (fun c_2 => ?_) (fun c_2 => ?_)
        · have hR := hR.1 c_2
          exact x_vret (w1 := (fun u : XT => (wX cI cJ cB cZ ad u))) t B h hr hR dX5_put_38
        · have hR := hR.2 c_2
          refine lv_iload_n hx hb dX5_put_12 rfl (lv_at hl 2 rfl) ?_
          refine lv_if_lt (tgt := 38) hx hb dX5_put_13 (by decide) (fun c_3 => ?_) (fun c_3 => ?_)
          · have hR := hR.1 c_3
            exact x_vret (w1 := (fun u : XT => (wX cI cJ cB cZ ad u))) t B h hr hR dX5_put_38
          · have hR := hR.2 c_3
            refine lv_iload_n hx hb dX5_put_16 rfl (lv_at hl 2 rfl) ?_
            refine lv_aload_n hx hb dX5_put_17 rfl (lv_at hl 0 rfl) ?_
            refine x_get (ci := 5) (C := RX5) (T := TX5) (N := 6) (v := .int (t.1 11)) B h hin5 11 4 rfl rfl (by decide) (by decide +kernel) rfl dX5_put_18 ?_
            refine lv_icmp_ge (tgt := 38) hx hb dX5_put_21 (by decide) (fun c_4 => ?_) (fun c_4 => ?_)
            · have hR := hR.1 c_4
              exact x_vret (w1 := (fun u : XT => (wX cI cJ cB cZ ad u))) t B h hr hR dX5_put_38
            · have hR := hR.2 c_4
              refine lv_aload_n hx hb dX5_put_24 rfl (lv_at hl 0 rfl) ?_
              refine x_get (ci := 5) (C := RX5) (T := TX5) (N := 6) (v := .ref (ad 30)) B h hin5 11 0 rfl rfl (by decide) (by decide +kernel) rfl dX5_put_25 ?_
              refine lv_iload_n hx hb dX5_put_28 rfl (lv_at hl 1 rfl) ?_
              refine lv_aload_n hx hb dX5_put_29 rfl (lv_at hl 0 rfl) ?_
              refine x_get (ci := 5) (C := RX5) (T := TX5) (N := 6) (v := .int (t.1 11)) B h hin5 11 4 rfl rfl (by decide) (by decide +kernel) rfl dX5_put_30 ?_
              refine lv_imul hx hb dX5_put_33 ?_
              refine lv_topi (fun v_5 ev_5 => ?_)
              have hR := hR v_5 ev_5
              refine lv_iload_n hx hb dX5_put_34 rfl (lv_at hl 2 rfl) ?_
              refine lv_iadd hx hb dX5_put_35 ?_
              refine lv_topi (fun v_6 ev_6 => ?_)
              have hR := hR v_6 ev_6
              refine lv_lload_n hx hb dX5_put_36 rfl (lv_at hl 3 rfl) ?_
              obtain ⟨hb_7, hR⟩ := hR
              refine z_last (f := (t.2.2.2 7)) B h 30 1 rfl rfl hb_7 dX5_put_37 (fun H locs h => ?_)
              obtain ⟨t_7, et_7⟩ : ∃ v : XT, v = sB t 7 (vp_updL (t.2.2.2 7) v_6.toNatClampNeg (lj 3)) := ⟨_, rfl⟩
              have hR := hR t_7 et_7
              have h : Hp D A s.heap (wX cI cJ cB cZ ad t_7) H locs := by rw [et_7]; exact h
              exact x_vret (w1 := (fun u : XT => (wX cI cJ cB cZ ad u))) t_7 B h hr hR dX5_put_38
  exact (main k) t _ _ s.heap [] ls hR hl h
set_option maxRecDepth 20000 in
theorem ggX0_fillRow_X11_isIn : GoodIn wsX0_fillRow wsX11_isIn := goodIn_r _ [8] (by decide +kernel) (by decide +kernel)
set_option maxRecDepth 20000 in
theorem gX0_fillRow_X11_isIn_n71 : GoodIn wsX0_fillRow (wsX11_isIn) := ggX0_fillRow_X11_isIn
set_option maxRecDepth 20000 in
theorem ggX0_fillRow_X9_signOf : GoodIn wsX0_fillRow wsX9_signOf := goodIn_r _ [13, 14, 15, 6, 7, 8, 16, 17, 18, 19, 20, 21, 22, 35, 36, 37, 38, 39, 40, 41] (by decide +kernel) (by decide +kernel)
set_option maxRecDepth 20000 in
theorem gX0_fillRow_X9_signOf : GoodIn wsX0_fillRow (wsV RX0 96 RX9 yX9_signOf wsX9_signOf) := goodIn_app (goodIn_of _ (by decide +kernel)) ggX0_fillRow_X9_signOf
set_option maxRecDepth 20000 in
theorem ggX0_fillRow_X5_put : GoodIn wsX0_fillRow wsX5_put := goodIn_r _ [27, 28, 29, 30, 49, 50, 51, 52, 53, 54] (by decide +kernel) (by decide +kernel)
set_option maxRecDepth 20000 in
theorem gX0_fillRow_X5_put : GoodIn wsX0_fillRow (wsV RX0 100 RX5 yX5_put wsX5_put) := goodIn_app (goodIn_of _ (by decide +kernel)) ggX0_fillRow_X5_put
def wbX0_fillRow_0 (rec : Nat → XT → (Nat → Int32) → (Nat → Int64) → (XT → Prop) → Prop) (k : Nat) (t : XT) (li : Nat → Int32) (lj : Nat → Int64) (Q : XT → Prop) : Prop :=
  rec 1 t (uI (uI li 6 0) 7 0) lj Q
def wbX0_fillRow_1 (rec : Nat → XT → (Nat → Int32) → (Nat → Int64) → (XT → Prop) → Prop) (k : Nat) (t : XT) (li : Nat → Int32) (lj : Nat → Int64) (Q : XT → Prop) : Prop :=
  ((((t.1 4) : Int32) ≤ (li 7)) → Q t) ∧ (¬ (((t.1 4) : Int32) ≤ (li 7)) → (wqX11_isIn k (lj 3) (li 7) (fun r_2 => ((r_2 = 0) → rec 3 t li lj Q) ∧ (¬ (r_2 = 0) → (((li 5) = 0) → (wqX9_signOf k t (li 7) (li 2) (fun r_5 t_5 => (∀ v_6 : Int64, v_6 = r_5.toInt64 → rec 2 t_5 (uI (uI li 102 (li 6)) 101 (li 1)) (uI lj 103 v_6) Q)))) ∧ (¬ ((li 5) = 0) → (vp_in (li 7) 64 ∧ (∀ v_7 : Int64, v_7 = (t.2.2.2 3) (li 7).toNatClampNeg → rec 2 t (uI (uI li 102 (li 6)) 101 (li 1)) (uI lj 103 v_7) Q)))))))
def wbX0_fillRow_2 (rec : Nat → XT → (Nat → Int32) → (Nat → Int64) → (XT → Prop) → Prop) (k : Nat) (t : XT) (li : Nat → Int32) (lj : Nat → Int64) (Q : XT → Prop) : Prop :=
  (wqX5_put k t (li 101) (li 102) (lj 103) (fun t_8 => (∀ v_9 : Int32, v_9 = (li 6) + Int32.ofInt 1 → rec 3 t_8 (uI li 6 v_9) lj Q)))
def wbX0_fillRow_3 (rec : Nat → XT → (Nat → Int32) → (Nat → Int64) → (XT → Prop) → Prop) (k : Nat) (t : XT) (li : Nat → Int32) (lj : Nat → Int64) (Q : XT → Prop) : Prop :=
  (∀ v_10 : Int32, v_10 = (li 7) + Int32.ofInt 1 → rec 1 t (uI li 7 v_10) lj Q)
def wpX0_fillRow : Nat → Nat → XT → (Nat → Int32) → (Nat → Int64) → (XT → Prop) → Prop
  | 0, _, _, _, _, _ => False
  | k + 1, 0, t, li, lj, Q => wbX0_fillRow_0 (wpX0_fillRow k) k t li lj Q
  | k + 1, 1, t, li, lj, Q => wbX0_fillRow_1 (wpX0_fillRow k) k t li lj Q
  | k + 1, 2, t, li, lj, Q => wbX0_fillRow_2 (wpX0_fillRow k) k t li lj Q
  | k + 1, 3, t, li, lj, Q => wbX0_fillRow_3 (wpX0_fillRow k) k t li lj Q
  | _ + 1, _, _, _, _, _ => False
def wqX0_fillRow (k : Nat) (t : XT) (a1 : Int32) (a2 : Int32) (a3 : Int64) (a4 : Int32) (Q : XT → Prop) : Prop := wpX0_fillRow k 0 t (uI (uI (uI (fun _ => 0) 1 a1) 2 a2) 5 a4) (uI (fun _ => 0) 3 a3) Q
set_option maxHeartbeats 8000000 in
set_option maxRecDepth 100000 in
theorem wkX0_fillRow (l : Launch) (D : va_G) (cI cJ cB cZ : ClassId) (ad : Nat → Nat) (k : Nat) (t : XT) (a1 : Int32) (a2 : Int32) (a3 : Int64) (a4 : Int32) (Q : XT → Prop) (hR : wqX0_fillRow k t a1 a2 a3 a4 Q) : MetV l yX0_fillRow wsX0_fillRow 2 46 0 0 D (TYS cI cJ cB cZ) (wX cI cJ cB cZ ad t) [.ref (ad 8), .int a1, .int a2, .long a3, .int a4] (fun u => Q u) (fun u : XT => (wX cI cJ cB cZ ad u)) := by
  refine x_startV (ty := .int) (cc := cX0_fillRow) (by decide) rfl (Nat.le_of_ble_eq_true rfl) ?_
  intro p e s m args below meth c A ls B hr hnm h hl
  have hx := B.1.1
  have hb := B.1.2.1
  have hml := B.1.2.2.1
  have hts := B.1.2.2.2.2
  have hown : s.vm.findClass RX0 = some m.cls := B.1.2.2.2.1
  have hin0 : ∀ w ∈ u_ws RX0 TX0 4, w ∈ wsX0_fillRow := by decide +kernel
  have hin1 : ∀ w ∈ u_ws RX1 TX1 7, w ∈ wsX0_fillRow := by decide +kernel
  have hin9 : ∀ w ∈ u_ws RX9 TX9 7, w ∈ wsX0_fillRow := by decide +kernel
  have main : ∀ k : Nat, (∀ (t : XT) (li : Nat → Int32) (lj : Nat → Int64) (H : Heap) (locs : List Loc) (ls : Array Slot), wpX0_fillRow k 0 t li lj Q → lv_has ls 8 [(0, .ref (ad 8)), (1, .int (li 1)), (2, .int (li 2)), (3, .long (lj 3)), (5, .int (li 5))] → Hp D A s.heap (wX cI cJ cB cZ ad t) H locs → W p l e { frames := 2, cells := 0, slots := 0, locals := 46 } s m args below meth c H locs 0 0 (MQ below (va_Qv (fun u => Q u) (fun u t => xEnd D ((fun u : XT => (wX cI cJ cB cZ ad u)) u) A t) A) args s 0 0 A) (F0 m 0 ls [])) ∧
      (∀ (t : XT) (li : Nat → Int32) (lj : Nat → Int64) (H : Heap) (locs : List Loc) (ls : Array Slot), wpX0_fillRow k 1 t li lj Q → lv_has ls 8 [(0, .ref (ad 8)), (1, .int (li 1)), (2, .int (li 2)), (3, .long (lj 3)), (5, .int (li 5)), (6, .int (li 6)), (7, .int (li 7))] → Hp D A s.heap (wX cI cJ cB cZ ad t) H locs → W p l e { frames := 2, cells := 0, slots := 0, locals := 46 } s m args below meth c H locs 0 0 (MQ below (va_Qv (fun u => Q u) (fun u t => xEnd D ((fun u : XT => (wX cI cJ cB cZ ad u)) u) A t) A) args s 0 0 A) (F0 m 6 ls [])) ∧
      (∀ (t : XT) (li : Nat → Int32) (lj : Nat → Int64) (H : Heap) (locs : List Loc) (ls : Array Slot), wpX0_fillRow k 2 t li lj Q → lv_has ls 8 [(0, .ref (ad 8)), (1, .int (li 1)), (2, .int (li 2)), (3, .long (lj 3)), (5, .int (li 5)), (6, .int (li 6)), (7, .int (li 7))] → Hp D A s.heap (wX cI cJ cB cZ ad t) H locs → W p l e { frames := 2, cells := 0, slots := 0, locals := 46 } s m args below meth c H locs 0 0 (MQ below (va_Qv (fun u => Q u) (fun u t => xEnd D ((fun u : XT => (wX cI cJ cB cZ ad u)) u) A t) A) args s 0 0 A) (F0 m 63 ls [.long (lj 103), .int (li 102), .int (li 101), .ref (ad 11)])) ∧
      (∀ (t : XT) (li : Nat → Int32) (lj : Nat → Int64) (H : Heap) (locs : List Loc) (ls : Array Slot), wpX0_fillRow k 3 t li lj Q → lv_has ls 8 [(0, .ref (ad 8)), (1, .int (li 1)), (2, .int (li 2)), (3, .long (lj 3)), (5, .int (li 5)), (6, .int (li 6)), (7, .int (li 7))] → Hp D A s.heap (wX cI cJ cB cZ ad t) H locs → W p l e { frames := 2, cells := 0, slots := 0, locals := 46 } s m args below meth c H locs 0 0 (MQ below (va_Qv (fun u => Q u) (fun u t => xEnd D ((fun u : XT => (wX cI cJ cB cZ ad u)) u) A t) A) args s 0 0 A) (F0 m 69 ls [])) := by
    intro k
    induction k with
    | zero => exact ⟨fun _ _ _ _ _ _ hR => False.elim hR, fun _ _ _ _ _ _ hR => False.elim hR, fun _ _ _ _ _ _ hR => False.elim hR, fun _ _ _ _ _ _ hR => False.elim hR⟩
    | succ k ih =>
      refine ⟨?_, ?_, ?_, ?_⟩
      · intro t li lj H locs ls hR hl h
        have hR : wbX0_fillRow_0 (wpX0_fillRow k) k t li lj Q := hR
        unfold wbX0_fillRow_0 at hR
        refine lv_iconst (v := 0) hx hb dX0_fillRow_0 (by decide) ?_
        refine lv_istore (lv' := [(6, .int 0), (0, .ref (ad 8)), (1, .int (li 1)), (2, .int (li 2)), (3, .long (lj 3)), (5, .int (li 5))]) hx hb dX0_fillRow_1 hl (by decide) rfl (fun ls hl => ?_)
        refine lv_iconst (v := 0) hx hb dX0_fillRow_3 (by decide) ?_
        refine lv_istore (lv' := [(7, .int 0), (6, .int 0), (0, .ref (ad 8)), (1, .int (li 1)), (2, .int (li 2)), (3, .long (lj 3)), (5, .int (li 5))]) hx hb dX0_fillRow_4 hl (by decide) rfl (fun ls hl => ?_)
        exact ih.2.1 t (uI (uI li 6 0) 7 0) lj H locs ls hR (lv_sub hl [2, 3, 4, 5, 6, 1, 0] rfl) h
      · intro t li lj H locs ls hR hl h
        have hR : wbX0_fillRow_1 (wpX0_fillRow k) k t li lj Q := hR
        unfold wbX0_fillRow_1 at hR
        refine lv_iload hx hb dX0_fillRow_6 (lv_at hl 6 rfl) ?_
        refine lv_aload_n hx hb dX0_fillRow_8 rfl (lv_at hl 0 rfl) ?_
        refine x_get (ci := 0) (C := RX0) (T := TX0) (N := 4) (v := .ref (ad 3)) B h hin0 8 0 rfl rfl (by decide) (by decide +kernel) rfl dX0_fillRow_9 ?_
        refine x_get (ci := 9) (C := RX9) (T := TX9) (N := 7) (v := .int (t.1 4)) B h hin9 3 0 rfl rfl (by decide) (by decide +kernel) rfl dX0_fillRow_12 ?_
        refine lv_icmp_ge (tgt := 75) hx hb dX0_fillRow_15 (by decide) (fun c_1 => ?_) (fun c_1 => ?_)
        · have hR := hR.1 c_1
          exact x_vret (w1 := (fun u : XT => (wX cI cJ cB cZ ad u))) t B h hr hR dX0_fillRow_75
        · have hR := hR.2 c_1
          refine lv_lload_n hx hb dX0_fillRow_18 rfl (lv_at hl 3 rfl) ?_
          refine lv_iload hx hb dX0_fillRow_19 (lv_at hl 6 rfl) ?_
          refine x_cNIE (n := 2) (As := [.long (lj 3), .int (li 7)]) (rest := []) B h (wkX11_isIn l D cI cJ cB cZ ad k (lj 3) (li 7) _ hR) ⟨⟨_, rfl⟩, by decide +kernel, Nat.le_of_ble_eq_true rfl, Nat.le_of_ble_eq_true rfl⟩ gX0_fillRow_X11_isIn_n71 (by decide +kernel) (by decide +kernel) (host := "MorseDesk") (by decide +kernel) rfl hl.1 rfl (Nat.le_of_ble_eq_true rfl) dX0_fillRow_21 ⟨Nat.le_of_ble_eq_true rfl, Nat.le_of_ble_eq_true rfl⟩ (fun r_2 _ H locs hR h => ?_)
          refine lv_if_eq (tgt := 69) hx hb dX0_fillRow_24 (by decide) (fun c_3 => ?_) (fun c_3 => ?_)
          · have hR := hR.1 c_3
            exact ih.2.2.2 t li lj H locs ls hR (lv_sub hl [0, 1, 2, 3, 4, 5, 6] rfl) h
          · have hR := hR.2 c_3
            refine lv_aload_n hx hb dX0_fillRow_27 rfl (lv_at hl 0 rfl) ?_
            refine x_get (ci := 0) (C := RX0) (T := TX0) (N := 4) (v := .ref (ad 11)) B h hin0 8 2 rfl rfl (by decide) (by decide +kernel) rfl dX0_fillRow_28 ?_
            refine lv_iload_n hx hb dX0_fillRow_31 rfl (lv_at hl 1 rfl) ?_
            refine lv_iload hx hb dX0_fillRow_32 (lv_at hl 5 rfl) ?_
            refine lv_iload hx hb dX0_fillRow_34 (lv_at hl 4 rfl) ?_
            refine lv_if_eq (tgt := 52) hx hb dX0_fillRow_36 (by decide) (fun c_4 => ?_) (fun c_4 => ?_)
            · have hR := hR.1 c_4
              refine lv_aload_n hx hb dX0_fillRow_52 rfl (lv_at hl 0 rfl) ?_
              refine x_get (ci := 0) (C := RX0) (T := TX0) (N := 4) (v := .ref (ad 3)) B h hin0 8 0 rfl rfl (by decide) (by decide +kernel) rfl dX0_fillRow_53 ?_
              refine lv_iload hx hb dX0_fillRow_56 (lv_at hl 6 rfl) ?_
              refine lv_iload_n hx hb dX0_fillRow_58 rfl (lv_at hl 2 rfl) ?_
              refine x_cVIF (n := 2) (As := [.int (li 7), .int (li 2)]) (rest := [.int (li 6), .int (li 1), .ref (ad 11)]) B h (wkX9_signOf l D cI cJ cB cZ ad k t (li 7) (li 2) _ hR) ⟨⟨_, rfl⟩, by decide +kernel, Nat.le_of_ble_eq_true rfl, Nat.le_of_ble_eq_true rfl⟩ gX0_fillRow_X9_signOf (show ((wX cI cJ cB cZ ad t) : va_W)[3]? = some (_, .inr (9, _)) from rfl) rfl rfl hl.1 rfl (Nat.le_of_ble_eq_true rfl) dX0_fillRow_59 ⟨Nat.le_of_ble_eq_true rfl, Nat.le_of_ble_eq_true rfl⟩ (fun r_5 t_5 H locs hR h => ?_)
              obtain ⟨v_6, ev_6⟩ : ∃ v : Int64, v = r_5.toInt64 := ⟨_, rfl⟩
              have hR := hR v_6 ev_6
              refine lv_i2l (v := v_6) hx hb dX0_fillRow_62 ev_6.symm ?_
              exact ih.2.2.1 t_5 (uI (uI li 102 (li 6)) 101 (li 1)) (uI lj 103 v_6) H locs ls hR (lv_sub hl [0, 1, 2, 3, 4, 5, 6] rfl) h
            · have hR := hR.2 c_4
              refine lv_aload_n hx hb dX0_fillRow_39 rfl (lv_at hl 0 rfl) ?_
              refine x_get (ci := 0) (C := RX0) (T := TX0) (N := 4) (v := .ref (ad 7)) B h hin0 8 1 rfl rfl (by decide) (by decide +kernel) rfl dX0_fillRow_40 ?_
              refine x_get (ci := 1) (C := RX1) (T := TX1) (N := 7) (v := .ref (ad 23)) B h hin1 7 3 rfl rfl (by decide) (by decide +kernel) rfl dX0_fillRow_43 ?_
              refine lv_iload hx hb dX0_fillRow_46 (lv_at hl 6 rfl) ?_
              obtain ⟨hb_7, hR⟩ := hR
              refine va_lald (f := (t.2.2.2 3)) hx hb B.2.1 h.1 23 1 rfl rfl hb_7 dX0_fillRow_48 ?_
              refine lv_topl (fun v_7 ev_7 => ?_)
              have hR := hR v_7 ev_7
              refine lv_goto (tgt := 63) hx hb dX0_fillRow_49 (by decide) ?_
              exact ih.2.2.1 t (uI (uI li 102 (li 6)) 101 (li 1)) (uI lj 103 v_7) H locs ls hR (lv_sub hl [0, 1, 2, 3, 4, 5, 6] rfl) h
      · intro t li lj H locs ls hR hl h
        have hR : wbX0_fillRow_2 (wpX0_fillRow k) k t li lj Q := hR
        unfold wbX0_fillRow_2 at hR
        refine x_cVVF (n := 3) (As := [.int (li 101), .int (li 102), .long (lj 103)]) (rest := []) B h (wkX5_put l D cI cJ cB cZ ad k t (li 101) (li 102) (lj 103) _ hR) ⟨⟨_, rfl⟩, by decide +kernel, Nat.le_of_ble_eq_true rfl, Nat.le_of_ble_eq_true rfl⟩ gX0_fillRow_X5_put (show ((wX cI cJ cB cZ ad t) : va_W)[11]? = some (_, .inr (5, _)) from rfl) rfl rfl hl.1 rfl (Nat.le_of_ble_eq_true rfl) dX0_fillRow_63 ⟨Nat.le_of_ble_eq_true rfl, Nat.le_of_ble_eq_true rfl⟩ (fun t_8 H locs hR h => ?_)
        obtain ⟨v_9, ev_9⟩ : ∃ v : Int32, v = (li 6) + Int32.ofInt 1 := ⟨_, rfl⟩
        have hR := hR v_9 ev_9
        refine lv_iinc (v := v_9) (lv' := [(6, .int v_9), (0, .ref (ad 8)), (1, .int (li 1)), (2, .int (li 2)), (3, .long (lj 3)), (5, .int (li 5)), (7, .int (li 7))]) hx hb dX0_fillRow_66 hl (k := 5) rfl ev_9.symm (by decide) rfl (fun ls hl => ?_)
        exact ih.2.2.2 t_8 (uI li 6 v_9) lj H locs ls hR (lv_sub hl [1, 2, 3, 4, 5, 0, 6] rfl) h
      · intro t li lj H locs ls hR hl h
        have hR : wbX0_fillRow_3 (wpX0_fillRow k) k t li lj Q := hR
        unfold wbX0_fillRow_3 at hR
        obtain ⟨v_10, ev_10⟩ : ∃ v : Int32, v = (li 7) + Int32.ofInt 1 := ⟨_, rfl⟩
        have hR := hR v_10 ev_10
        refine lv_iinc (v := v_10) (lv' := [(7, .int v_10), (0, .ref (ad 8)), (1, .int (li 1)), (2, .int (li 2)), (3, .long (lj 3)), (5, .int (li 5)), (6, .int (li 6))]) hx hb dX0_fillRow_69 hl (k := 6) rfl ev_10.symm (by decide) rfl (fun ls hl => ?_)
        refine lv_goto (tgt := 6) hx hb dX0_fillRow_72 (by decide) ?_
        exact ih.2.1 t (uI li 7 v_10) lj H locs ls hR (lv_sub hl [1, 2, 3, 4, 5, 6, 0] rfl) h
  exact (main k).1 t _ _ s.heap [] ls hR hl h
set_option maxRecDepth 20000 in
theorem ggX0_fill_J13_bitCount_95d88 : GoodIn wsX0_fill wsJ13_bitCount_95d88 := goodIn_r _ [9, 10, 11, 12] (by decide +kernel) (by decide +kernel)
set_option maxRecDepth 20000 in
theorem gX0_fill_J13_bitCount_95d88 : GoodIn wsX0_fill (va_wsS RX0 35 yJ13_bitCount_95d88 wsJ13_bitCount_95d88) := goodIn_app (goodIn_of _ (by decide +kernel)) ggX0_fill_J13_bitCount_95d88
set_option maxRecDepth 20000 in
theorem ggX0_fill_X5_resize : GoodIn wsX0_fill wsX5_resize := goodIn_r _ [17, 18, 19, 129, 130, 131, 132, 133, 134] (by decide +kernel) (by decide +kernel)
set_option maxRecDepth 20000 in
theorem gX0_fill_X5_resize : GoodIn wsX0_fill (wsV RX0 63 RX5 yX5_resize wsX5_resize) := goodIn_app (goodIn_of _ (by decide +kernel)) ggX0_fill_X5_resize
set_option maxRecDepth 20000 in
theorem ggX0_fill_X11_isIn : GoodIn wsX0_fill wsX11_isIn := goodIn_r _ [22] (by decide +kernel) (by decide +kernel)
set_option maxRecDepth 20000 in
theorem gX0_fill_X11_isIn_n71 : GoodIn wsX0_fill (wsX11_isIn) := ggX0_fill_X11_isIn
set_option maxRecDepth 20000 in
theorem ggX0_fill_X1_start : GoodIn wsX0_fill wsX1_start := goodIn_r _ [27, 28, 29, 30, 31, 32, 33, 34, 35, 36, 37, 38, 39, 40, 41, 42, 43, 44, 45, 46, 47, 48, 49, 50, 51, 52, 20, 21, 22, 53, 54, 55, 56, 57, 58, 59, 60, 61, 62, 63, 64, 65, 135, 136, 137, 138, 139, 140, 141, 142, 143, 144, 145, 146, 147, 148, 149, 150, 151, 152, 153, 122, 123, 124, 125, 126, 127, 128] (by decide +kernel) (by decide +kernel)
set_option maxRecDepth 20000 in
theorem gX0_fill_X1_start : GoodIn wsX0_fill (wsV RX0 75 RX1 yX1_start wsX1_start) := goodIn_app (goodIn_of _ (by decide +kernel)) ggX0_fill_X1_start
set_option maxRecDepth 20000 in
theorem ggX0_fill_X1_pour : GoodIn wsX0_fill wsX1_pour := goodIn_r _ [69, 28, 70, 71, 29, 72, 73, 74, 75, 76, 26, 77, 78, 79, 80, 81, 56, 82, 58, 59, 60, 83, 84, 21, 85, 86, 7, 8, 9, 10, 11, 12, 87, 88, 89, 90, 91, 92, 93, 20, 22, 94, 95, 96, 97, 98, 99, 100, 101, 102, 103, 104, 105, 135, 136, 137, 138, 139, 140, 141, 142, 143, 144, 145, 146, 147, 122, 123, 124, 125, 126, 127, 128, 148, 149, 150, 151, 152, 153] (by decide +kernel) (by decide +kernel)
set_option maxRecDepth 20000 in
theorem gX0_fill_X1_pour : GoodIn wsX0_fill (wsV RX0 85 RX1 yX1_pour wsX1_pour) := goodIn_app (goodIn_of _ (by decide +kernel)) ggX0_fill_X1_pour
set_option maxRecDepth 20000 in
theorem ggX0_fill_X0_fillRow : GoodIn wsX0_fill wsX0_fillRow := goodIn_r _ [110, 2, 3, 1, 4, 111, 20, 21, 22, 112, 88, 89, 90, 91, 92, 93, 94, 95, 96, 97, 98, 99, 100, 113, 114, 115, 16, 116, 18, 19, 117, 118, 119, 120, 121, 122, 123, 124, 125, 126, 127, 128, 135, 136, 137, 138, 139, 140, 141, 129, 130, 131, 132, 133, 134] (by decide +kernel) (by decide +kernel)
set_option maxRecDepth 20000 in
theorem gX0_fill_X0_fillRow : GoodIn wsX0_fill (wsV RX0 89 RX0 yX0_fillRow wsX0_fillRow) := goodIn_app (goodIn_of _ (by decide +kernel)) ggX0_fill_X0_fillRow
def wbX0_fill_0 (rec : Nat → XT → (Nat → Int32) → (Nat → Int64) → (XT → Prop) → Prop) (k : Nat) (t : XT) (li : Nat → Int32) (lj : Nat → Int64) (Q : XT → Prop) : Prop :=
  (wqJ13_bitCount_95d88 k (lj 1) (fun r_1 => (wqJ13_bitCount_95d88 k (lj 3) (fun r_2 => (wqX5_resize k t r_1 r_2 (fun t_3 => rec 1 t_3 (uI (uI li 6 0) 7 0) lj Q))))))
def wbX0_fill_1 (rec : Nat → XT → (Nat → Int32) → (Nat → Int64) → (XT → Prop) → Prop) (k : Nat) (t : XT) (li : Nat → Int32) (lj : Nat → Int64) (Q : XT → Prop) : Prop :=
  ((((t.1 4) : Int32) ≤ (li 7)) → Q t) ∧ (¬ (((t.1 4) : Int32) ≤ (li 7)) → (wqX11_isIn k (lj 1) (li 7) (fun r_5 => ((r_5 = 0) → rec 3 t li lj Q) ∧ (¬ (r_5 = 0) → (((li 5) = 0) → rec 2 t li lj Q) ∧ (¬ ((li 5) = 0) → (wqX1_start k t (li 7) (fun t_8 => (vp_in (li 7) 64 ∧ (∀ v_9 : Int32, v_9 = (t_8.2.2.1 3) (li 7).toNatClampNeg → (wqX1_pour k t_8 v_9 1 (fun t_10 => rec 2 t_10 li lj Q)))))))))))
def wbX0_fill_2 (rec : Nat → XT → (Nat → Int32) → (Nat → Int64) → (XT → Prop) → Prop) (k : Nat) (t : XT) (li : Nat → Int32) (lj : Nat → Int64) (Q : XT → Prop) : Prop :=
  (wqX0_fillRow k t (li 6) (li 7) (lj 3) (li 5) (fun t_11 => (∀ v_12 : Int32, v_12 = (li 6) + Int32.ofInt 1 → rec 3 t_11 (uI li 6 v_12) lj Q)))
def wbX0_fill_3 (rec : Nat → XT → (Nat → Int32) → (Nat → Int64) → (XT → Prop) → Prop) (k : Nat) (t : XT) (li : Nat → Int32) (lj : Nat → Int64) (Q : XT → Prop) : Prop :=
  (∀ v_13 : Int32, v_13 = (li 7) + Int32.ofInt 1 → rec 1 t (uI li 7 v_13) lj Q)
def wpX0_fill : Nat → Nat → XT → (Nat → Int32) → (Nat → Int64) → (XT → Prop) → Prop
  | 0, _, _, _, _, _ => False
  | k + 1, 0, t, li, lj, Q => wbX0_fill_0 (wpX0_fill k) k t li lj Q
  | k + 1, 1, t, li, lj, Q => wbX0_fill_1 (wpX0_fill k) k t li lj Q
  | k + 1, 2, t, li, lj, Q => wbX0_fill_2 (wpX0_fill k) k t li lj Q
  | k + 1, 3, t, li, lj, Q => wbX0_fill_3 (wpX0_fill k) k t li lj Q
  | _ + 1, _, _, _, _, _ => False
def wqX0_fill (k : Nat) (t : XT) (a1 : Int64) (a2 : Int64) (a3 : Int32) (Q : XT → Prop) : Prop := wpX0_fill k 0 t (uI (fun _ => 0) 5 a3) (uI (uI (fun _ => 0) 1 a1) 3 a2) Q
set_option maxHeartbeats 8000000 in
set_option maxRecDepth 100000 in
theorem wkX0_fill (l : Launch) (D : va_G) (cI cJ cB cZ : ClassId) (ad : Nat → Nat) (k : Nat) (t : XT) (a1 : Int64) (a2 : Int64) (a3 : Int32) (Q : XT → Prop) (hR : wqX0_fill k t a1 a2 a3 Q) : MetV l yX0_fill wsX0_fill 4 96 0 0 D (TYS cI cJ cB cZ) (wX cI cJ cB cZ ad t) [.ref (ad 8), .long a1, .long a2, .int a3] (fun u => Q u) (fun u : XT => (wX cI cJ cB cZ ad u)) := by
  refine x_startV (ty := .int) (cc := cX0_fill) (by decide) rfl (Nat.le_of_ble_eq_true rfl) ?_
  intro p e s m args below meth c A ls B hr hnm h hl
  have hx := B.1.1
  have hb := B.1.2.1
  have hml := B.1.2.2.1
  have hts := B.1.2.2.2.2
  have hown : s.vm.findClass RX0 = some m.cls := B.1.2.2.2.1
  have hin0 : ∀ w ∈ u_ws RX0 TX0 4, w ∈ wsX0_fill := by decide +kernel
  have hin9 : ∀ w ∈ u_ws RX9 TX9 7, w ∈ wsX0_fill := by decide +kernel
  have main : ∀ k : Nat, (∀ (t : XT) (li : Nat → Int32) (lj : Nat → Int64) (H : Heap) (locs : List Loc) (ls : Array Slot), wpX0_fill k 0 t li lj Q → lv_has ls 8 [(0, .ref (ad 8)), (1, .long (lj 1)), (3, .long (lj 3)), (5, .int (li 5))] → Hp D A s.heap (wX cI cJ cB cZ ad t) H locs → W p l e { frames := 4, cells := 0, slots := 0, locals := 96 } s m args below meth c H locs 0 0 (MQ below (va_Qv (fun u => Q u) (fun u t => xEnd D ((fun u : XT => (wX cI cJ cB cZ ad u)) u) A t) A) args s 0 0 A) (F0 m 0 ls [])) ∧
      (∀ (t : XT) (li : Nat → Int32) (lj : Nat → Int64) (H : Heap) (locs : List Loc) (ls : Array Slot), wpX0_fill k 1 t li lj Q → lv_has ls 8 [(0, .ref (ad 8)), (1, .long (lj 1)), (3, .long (lj 3)), (5, .int (li 5)), (6, .int (li 6)), (7, .int (li 7))] → Hp D A s.heap (wX cI cJ cB cZ ad t) H locs → W p l e { frames := 4, cells := 0, slots := 0, locals := 96 } s m args below meth c H locs 0 0 (MQ below (va_Qv (fun u => Q u) (fun u t => xEnd D ((fun u : XT => (wX cI cJ cB cZ ad u)) u) A t) A) args s 0 0 A) (F0 m 21 ls [])) ∧
      (∀ (t : XT) (li : Nat → Int32) (lj : Nat → Int64) (H : Heap) (locs : List Loc) (ls : Array Slot), wpX0_fill k 2 t li lj Q → lv_has ls 8 [(0, .ref (ad 8)), (1, .long (lj 1)), (3, .long (lj 3)), (5, .int (li 5)), (6, .int (li 6)), (7, .int (li 7))] → Hp D A s.heap (wX cI cJ cB cZ ad t) H locs → W p l e { frames := 4, cells := 0, slots := 0, locals := 96 } s m args below meth c H locs 0 0 (MQ below (va_Qv (fun u => Q u) (fun u t => xEnd D ((fun u : XT => (wX cI cJ cB cZ ad u)) u) A t) A) args s 0 0 A) (F0 m 74 ls [])) ∧
      (∀ (t : XT) (li : Nat → Int32) (lj : Nat → Int64) (H : Heap) (locs : List Loc) (ls : Array Slot), wpX0_fill k 3 t li lj Q → lv_has ls 8 [(0, .ref (ad 8)), (1, .long (lj 1)), (3, .long (lj 3)), (5, .int (li 5)), (6, .int (li 6)), (7, .int (li 7))] → Hp D A s.heap (wX cI cJ cB cZ ad t) H locs → W p l e { frames := 4, cells := 0, slots := 0, locals := 96 } s m args below meth c H locs 0 0 (MQ below (va_Qv (fun u => Q u) (fun u t => xEnd D ((fun u : XT => (wX cI cJ cB cZ ad u)) u) A t) A) args s 0 0 A) (F0 m 88 ls [])) := by
    intro k
    induction k with
    | zero => exact ⟨fun _ _ _ _ _ _ hR => False.elim hR, fun _ _ _ _ _ _ hR => False.elim hR, fun _ _ _ _ _ _ hR => False.elim hR, fun _ _ _ _ _ _ hR => False.elim hR⟩
    | succ k ih =>
      refine ⟨?_, ?_, ?_, ?_⟩
      · intro t li lj H locs ls hR hl h
        have hR : wbX0_fill_0 (wpX0_fill k) k t li lj Q := hR
        unfold wbX0_fill_0 at hR
        refine lv_aload_n hx hb dX0_fill_0 rfl (lv_at hl 0 rfl) ?_
        refine x_get (ci := 0) (C := RX0) (T := TX0) (N := 4) (v := .ref (ad 11)) B h hin0 8 2 rfl rfl (by decide) (by decide +kernel) rfl dX0_fill_1 ?_
        refine lv_lload_n hx hb dX0_fill_4 rfl (lv_at hl 1 rfl) ?_
        refine x_cSIE (n := 1) (As := [.long (lj 1)]) (rest := [.ref (ad 11)]) B h (wkJ13_bitCount_95d88 l D cI cJ cB cZ ad k (lj 1) _ hR) ⟨⟨_, rfl⟩, by decide +kernel, Nat.le_of_ble_eq_true rfl, Nat.le_of_ble_eq_true rfl⟩ gX0_fill_J13_bitCount_95d88 rfl hl.1 rfl (Nat.le_of_ble_eq_true rfl) dX0_fill_5 ⟨Nat.le_of_ble_eq_true rfl, Nat.le_of_ble_eq_true rfl⟩ (fun r_1 _ H locs hR h => ?_)
        refine lv_lload_n hx hb dX0_fill_8 rfl (lv_at hl 2 rfl) ?_
        refine x_cSIE (n := 1) (As := [.long (lj 3)]) (rest := [.int r_1, .ref (ad 11)]) B h (wkJ13_bitCount_95d88 l D cI cJ cB cZ ad k (lj 3) _ hR) ⟨⟨_, rfl⟩, by decide +kernel, Nat.le_of_ble_eq_true rfl, Nat.le_of_ble_eq_true rfl⟩ gX0_fill_J13_bitCount_95d88 rfl hl.1 rfl (Nat.le_of_ble_eq_true rfl) dX0_fill_9 ⟨Nat.le_of_ble_eq_true rfl, Nat.le_of_ble_eq_true rfl⟩ (fun r_2 _ H locs hR h => ?_)
        refine x_cVVF (n := 2) (As := [.int r_1, .int r_2]) (rest := []) B h (wkX5_resize l D cI cJ cB cZ ad k t r_1 r_2 _ hR) ⟨⟨_, rfl⟩, by decide +kernel, Nat.le_of_ble_eq_true rfl, Nat.le_of_ble_eq_true rfl⟩ gX0_fill_X5_resize (show ((wX cI cJ cB cZ ad t) : va_W)[11]? = some (_, .inr (5, _)) from rfl) rfl rfl hl.1 rfl (Nat.le_of_ble_eq_true rfl) dX0_fill_12 ⟨Nat.le_of_ble_eq_true rfl, Nat.le_of_ble_eq_true rfl⟩ (fun t_3 H locs hR h => ?_)
        refine lv_iconst (v := 0) hx hb dX0_fill_15 (by decide) ?_
        refine lv_istore (lv' := [(6, .int 0), (0, .ref (ad 8)), (1, .long (lj 1)), (3, .long (lj 3)), (5, .int (li 5))]) hx hb dX0_fill_16 hl (by decide) rfl (fun ls hl => ?_)
        refine lv_iconst (v := 0) hx hb dX0_fill_18 (by decide) ?_
        refine lv_istore (lv' := [(7, .int 0), (6, .int 0), (0, .ref (ad 8)), (1, .long (lj 1)), (3, .long (lj 3)), (5, .int (li 5))]) hx hb dX0_fill_19 hl (by decide) rfl (fun ls hl => ?_)
        exact ih.2.1 t_3 (uI (uI li 6 0) 7 0) lj H locs ls hR (lv_sub hl [2, 3, 4, 5, 1, 0] rfl) h
      · intro t li lj H locs ls hR hl h
        have hR : wbX0_fill_1 (wpX0_fill k) k t li lj Q := hR
        unfold wbX0_fill_1 at hR
        refine lv_iload hx hb dX0_fill_21 (lv_at hl 5 rfl) ?_
        refine lv_aload_n hx hb dX0_fill_23 rfl (lv_at hl 0 rfl) ?_
        refine x_get (ci := 0) (C := RX0) (T := TX0) (N := 4) (v := .ref (ad 3)) B h hin0 8 0 rfl rfl (by decide) (by decide +kernel) rfl dX0_fill_24 ?_
        refine x_get (ci := 9) (C := RX9) (T := TX9) (N := 7) (v := .int (t.1 4)) B h hin9 3 0 rfl rfl (by decide) (by decide +kernel) rfl dX0_fill_27 ?_
        refine lv_icmp_ge (tgt := 94) hx hb dX0_fill_30 (by decide) (fun c_4 => ?_) (fun c_4 => ?_)
        · have hR := hR.1 c_4
          exact x_vret (w1 := (fun u : XT => (wX cI cJ cB cZ ad u))) t B h hr hR dX0_fill_94
        · have hR := hR.2 c_4
          refine lv_lload_n hx hb dX0_fill_33 rfl (lv_at hl 1 rfl) ?_
          refine lv_iload hx hb dX0_fill_34 (lv_at hl 5 rfl) ?_
          refine x_cNIE (n := 2) (As := [.long (lj 1), .int (li 7)]) (rest := []) B h (wkX11_isIn l D cI cJ cB cZ ad k (lj 1) (li 7) _ hR) ⟨⟨_, rfl⟩, by decide +kernel, Nat.le_of_ble_eq_true rfl, Nat.le_of_ble_eq_true rfl⟩ gX0_fill_X11_isIn_n71 (by decide +kernel) (by decide +kernel) (host := "MorseDesk") (by decide +kernel) rfl hl.1 rfl (Nat.le_of_ble_eq_true rfl) dX0_fill_36 ⟨Nat.le_of_ble_eq_true rfl, Nat.le_of_ble_eq_true rfl⟩ (fun r_5 _ H locs hR h => ?_)
          refine lv_if_eq (tgt := 88) hx hb dX0_fill_39 (by decide) (fun c_6 => ?_) (fun c_6 => ?_)
          · have hR := hR.1 c_6
            exact ih.2.2.2 t li lj H locs ls hR (lv_sub hl [0, 1, 2, 3, 4, 5] rfl) h
          · have hR := hR.2 c_6
            refine lv_iload hx hb dX0_fill_42 (lv_at hl 3 rfl) ?_
            refine lv_if_eq (tgt := 74) hx hb dX0_fill_44 (by decide) (fun c_7 => ?_) (fun c_7 => ?_)
            · have hR := hR.1 c_7
              exact ih.2.2.1 t li lj H locs ls hR (lv_sub hl [0, 1, 2, 3, 4, 5] rfl) h
            · have hR := hR.2 c_7
              refine lv_aload_n hx hb dX0_fill_47 rfl (lv_at hl 0 rfl) ?_
              refine x_get (ci := 0) (C := RX0) (T := TX0) (N := 4) (v := .ref (ad 7)) B h hin0 8 1 rfl rfl (by decide) (by decide +kernel) rfl dX0_fill_48 ?_
              refine lv_iload hx hb dX0_fill_51 (lv_at hl 5 rfl) ?_
              refine x_cVVF (n := 1) (As := [.int (li 7)]) (rest := []) B h (wkX1_start l D cI cJ cB cZ ad k t (li 7) _ hR) ⟨⟨_, rfl⟩, by decide +kernel, Nat.le_of_ble_eq_true rfl, Nat.le_of_ble_eq_true rfl⟩ gX0_fill_X1_start (show ((wX cI cJ cB cZ ad t) : va_W)[7]? = some (_, .inr (1, _)) from rfl) rfl rfl hl.1 rfl (Nat.le_of_ble_eq_true rfl) dX0_fill_53 ⟨Nat.le_of_ble_eq_true rfl, Nat.le_of_ble_eq_true rfl⟩ (fun t_8 H locs hR h => ?_)
              refine lv_aload_n hx hb dX0_fill_56 rfl (lv_at hl 0 rfl) ?_
              refine x_get (ci := 0) (C := RX0) (T := TX0) (N := 4) (v := .ref (ad 7)) B h hin0 8 1 rfl rfl (by decide) (by decide +kernel) rfl dX0_fill_57 ?_
              refine lv_aload_n hx hb dX0_fill_60 rfl (lv_at hl 0 rfl) ?_
              refine x_get (ci := 0) (C := RX0) (T := TX0) (N := 4) (v := .ref (ad 3)) B h hin0 8 0 rfl rfl (by decide) (by decide +kernel) rfl dX0_fill_61 ?_
              refine x_get (ci := 9) (C := RX9) (T := TX9) (N := 7) (v := .ref (ad 15)) B h hin9 3 2 rfl rfl (by decide) (by decide +kernel) rfl dX0_fill_64 ?_
              refine lv_iload hx hb dX0_fill_67 (lv_at hl 5 rfl) ?_
              obtain ⟨hb_9, hR⟩ := hR
              refine va_iald (f := (t_8.2.2.1 3)) hx hb B.2.1 h.1 15 0 rfl rfl hb_9 dX0_fill_69 ?_
              refine lv_topi (fun v_9 ev_9 => ?_)
              have hR := hR v_9 ev_9
              refine lv_iconst (v := 1) hx hb dX0_fill_70 (by decide) ?_
              refine x_cVVF (n := 2) (As := [.int v_9, .int 1]) (rest := []) B h (wkX1_pour l D cI cJ cB cZ ad k t_8 v_9 1 _ hR) ⟨⟨_, rfl⟩, by decide +kernel, Nat.le_of_ble_eq_true rfl, Nat.le_of_ble_eq_true rfl⟩ gX0_fill_X1_pour (show ((wX cI cJ cB cZ ad t_8) : va_W)[7]? = some (_, .inr (1, _)) from rfl) rfl rfl hl.1 rfl (Nat.le_of_ble_eq_true rfl) dX0_fill_71 ⟨Nat.le_of_ble_eq_true rfl, Nat.le_of_ble_eq_true rfl⟩ (fun t_10 H locs hR h => ?_)
              exact ih.2.2.1 t_10 li lj H locs ls hR (lv_sub hl [0, 1, 2, 3, 4, 5] rfl) h
      · intro t li lj H locs ls hR hl h
        have hR : wbX0_fill_2 (wpX0_fill k) k t li lj Q := hR
        unfold wbX0_fill_2 at hR
        refine lv_aload_n hx hb dX0_fill_74 rfl (lv_at hl 0 rfl) ?_
        refine lv_iload hx hb dX0_fill_75 (lv_at hl 4 rfl) ?_
        refine lv_iload hx hb dX0_fill_77 (lv_at hl 5 rfl) ?_
        refine lv_lload_n hx hb dX0_fill_79 rfl (lv_at hl 2 rfl) ?_
        refine lv_iload hx hb dX0_fill_80 (lv_at hl 3 rfl) ?_
        refine x_cVVF (n := 4) (As := [.int (li 6), .int (li 7), .long (lj 3), .int (li 5)]) (rest := []) B h (wkX0_fillRow l D cI cJ cB cZ ad k t (li 6) (li 7) (lj 3) (li 5) _ hR) ⟨⟨_, rfl⟩, by decide +kernel, Nat.le_of_ble_eq_true rfl, Nat.le_of_ble_eq_true rfl⟩ gX0_fill_X0_fillRow (show ((wX cI cJ cB cZ ad t) : va_W)[8]? = some (_, .inr (0, _)) from rfl) rfl rfl hl.1 rfl (Nat.le_of_ble_eq_true rfl) dX0_fill_82 ⟨Nat.le_of_ble_eq_true rfl, Nat.le_of_ble_eq_true rfl⟩ (fun t_11 H locs hR h => ?_)
        obtain ⟨v_12, ev_12⟩ : ∃ v : Int32, v = (li 6) + Int32.ofInt 1 := ⟨_, rfl⟩
        have hR := hR v_12 ev_12
        refine lv_iinc (v := v_12) (lv' := [(6, .int v_12), (0, .ref (ad 8)), (1, .long (lj 1)), (3, .long (lj 3)), (5, .int (li 5)), (7, .int (li 7))]) hx hb dX0_fill_85 hl (k := 4) rfl ev_12.symm (by decide) rfl (fun ls hl => ?_)
        exact ih.2.2.2 t_11 (uI li 6 v_12) lj H locs ls hR (lv_sub hl [1, 2, 3, 4, 0, 5] rfl) h
      · intro t li lj H locs ls hR hl h
        have hR : wbX0_fill_3 (wpX0_fill k) k t li lj Q := hR
        unfold wbX0_fill_3 at hR
        obtain ⟨v_13, ev_13⟩ : ∃ v : Int32, v = (li 7) + Int32.ofInt 1 := ⟨_, rfl⟩
        have hR := hR v_13 ev_13
        refine lv_iinc (v := v_13) (lv' := [(7, .int v_13), (0, .ref (ad 8)), (1, .long (lj 1)), (3, .long (lj 3)), (5, .int (li 5)), (6, .int (li 6))]) hx hb dX0_fill_88 hl (k := 5) rfl ev_13.symm (by decide) rfl (fun ls hl => ?_)
        refine lv_goto (tgt := 21) hx hb dX0_fill_91 (by decide) ?_
        exact ih.2.1 t (uI li 7 v_13) lj H locs ls hR (lv_sub hl [1, 2, 3, 4, 5, 0] rfl) h
  exact (main k).1 t _ _ s.heap [] ls hR hl h
def wbX5_firstRow_0 (rec : Nat → XT → (Nat → Int32) → (Nat → Int64) → (Int32 → XT → Prop) → Prop) (k : Nat) (t : XT) (li : Nat → Int32) (lj : Nat → Int64) (Q : Int32 → XT → Prop) : Prop :=
  rec 1 t (uI li 3 (li 1)) lj Q
def wbX5_firstRow_1 (rec : Nat → XT → (Nat → Int32) → (Nat → Int64) → (Int32 → XT → Prop) → Prop) (k : Nat) (t : XT) (li : Nat → Int32) (lj : Nat → Int64) (Q : Int32 → XT → Prop) : Prop :=
  ((((t.1 10) : Int32) ≤ (li 3)) → Q (-1) t) ∧ (¬ (((t.1 10) : Int32) ≤ (li 3)) → (∀ v_2 : Int32, v_2 = ((li 3) * (t.1 11)) → (∀ v_3 : Int32, v_3 = (v_2 + (li 2)) → (vp_in v_3 900 ∧ (∀ v_4 : Int64, v_4 = (t.2.2.2 8) v_3.toNatClampNeg → (∀ v_5 : Int32, v_5 = (lg_cmp v_4 0) → ((v_5 = 0) → (∀ v_7 : Int32, v_7 = (li 3) + Int32.ofInt 1 → rec 1 t (uI li 3 v_7) lj Q)) ∧ (¬ (v_5 = 0) → Q (li 3) t)))))))
def wpX5_firstRow : Nat → Nat → XT → (Nat → Int32) → (Nat → Int64) → (Int32 → XT → Prop) → Prop
  | 0, _, _, _, _, _ => False
  | k + 1, 0, t, li, lj, Q => wbX5_firstRow_0 (wpX5_firstRow k) k t li lj Q
  | k + 1, 1, t, li, lj, Q => wbX5_firstRow_1 (wpX5_firstRow k) k t li lj Q
  | _ + 1, _, _, _, _, _ => False
def wqX5_firstRow (k : Nat) (t : XT) (a1 : Int32) (a2 : Int32) (Q : Int32 → XT → Prop) : Prop := wpX5_firstRow k 0 t (uI (uI (fun _ => 0) 1 a1) 2 a2) (fun _ => 0) Q
set_option maxHeartbeats 8000000 in
set_option maxRecDepth 100000 in
theorem wkX5_firstRow (l : Launch) (D : va_G) (cI cJ cB cZ : ClassId) (ad : Nat → Nat) (k : Nat) (t : XT) (a1 : Int32) (a2 : Int32) (Q : Int32 → XT → Prop) (hR : wqX5_firstRow k t a1 a2 Q) : MetI l yX5_firstRow wsX5_firstRow 0 0 0 0 D (TYS cI cJ cB cZ) (wX cI cJ cB cZ ad t) [.ref (ad 11), .int a1, .int a2] (fun r u => Q r u) (fun u : XT => (wX cI cJ cB cZ ad u)) := by
  refine x_startI (ty := .int) (cc := cX5_firstRow) (by decide) rfl (Nat.le_of_ble_eq_true rfl) ?_
  intro p e s m args below meth c A ls B hr hnm h hl
  have hx := B.1.1
  have hb := B.1.2.1
  have hml := B.1.2.2.1
  have hts := B.1.2.2.2.2
  have hown : s.vm.findClass RX5 = some m.cls := B.1.2.2.2.1
  have hin5 : ∀ w ∈ u_ws RX5 TX5 6, w ∈ wsX5_firstRow := by decide +kernel
  have main : ∀ k : Nat, (∀ (t : XT) (li : Nat → Int32) (lj : Nat → Int64) (H : Heap) (locs : List Loc) (ls : Array Slot), wpX5_firstRow k 0 t li lj Q → lv_has ls 4 [(0, .ref (ad 11)), (1, .int (li 1)), (2, .int (li 2))] → Hp D A s.heap (wX cI cJ cB cZ ad t) H locs → W p l e { frames := 0, cells := 0, slots := 0, locals := 0 } s m args below meth c H locs 0 0 (MQ below (va_Qi (fun r u => Q r u) (fun u t => xEnd D ((fun u : XT => (wX cI cJ cB cZ ad u)) u) A t) A) args s 0 0 A) (F0 m 0 ls [])) ∧
      (∀ (t : XT) (li : Nat → Int32) (lj : Nat → Int64) (H : Heap) (locs : List Loc) (ls : Array Slot), wpX5_firstRow k 1 t li lj Q → lv_has ls 4 [(0, .ref (ad 11)), (1, .int (li 1)), (2, .int (li 2)), (3, .int (li 3))] → Hp D A s.heap (wX cI cJ cB cZ ad t) H locs → W p l e { frames := 0, cells := 0, slots := 0, locals := 0 } s m args below meth c H locs 0 0 (MQ below (va_Qi (fun r u => Q r u) (fun u t => xEnd D ((fun u : XT => (wX cI cJ cB cZ ad u)) u) A t) A) args s 0 0 A) (F0 m 2 ls [])) := by
    intro k
    induction k with
    | zero => exact ⟨fun _ _ _ _ _ _ hR => False.elim hR, fun _ _ _ _ _ _ hR => False.elim hR⟩
    | succ k ih =>
      refine ⟨?_, ?_⟩
      · intro t li lj H locs ls hR hl h
        have hR : wbX5_firstRow_0 (wpX5_firstRow k) k t li lj Q := hR
        unfold wbX5_firstRow_0 at hR
        refine lv_iload_n hx hb dX5_firstRow_0 rfl (lv_at hl 1 rfl) ?_
        refine lv_istore_n (lv' := [(3, .int (li 1)), (0, .ref (ad 11)), (1, .int (li 1)), (2, .int (li 2))]) hx hb dX5_firstRow_1 rfl hl (by decide) rfl (fun ls hl => ?_)
        exact ih.2 t (uI li 3 (li 1)) lj H locs ls hR (lv_sub hl [1, 2, 3, 0] rfl) h
      · intro t li lj H locs ls hR hl h
        have hR : wbX5_firstRow_1 (wpX5_firstRow k) k t li lj Q := hR
        unfold wbX5_firstRow_1 at hR
        refine lv_iload_n hx hb dX5_firstRow_2 rfl (lv_at hl 3 rfl) ?_
        refine lv_aload_n hx hb dX5_firstRow_3 rfl (lv_at hl 0 rfl) ?_
        refine x_get (ci := 5) (C := RX5) (T := TX5) (N := 6) (v := .int (t.1 10)) B h hin5 11 3 rfl rfl (by decide) (by decide +kernel) rfl dX5_firstRow_4 ?_
        refine lv_icmp_ge (tgt := 36) hx hb dX5_firstRow_7 (by decide) (fun c_1 => ?_) (fun c_1 => ?_)
        · have hR := hR.1 c_1
          refine lv_iconst (v := (-1)) hx hb dX5_firstRow_36 (by decide) ?_
          exact x_iret (w1 := (fun u : XT => (wX cI cJ cB cZ ad u))) t B h hr rfl hR dX5_firstRow_37
        · have hR := hR.2 c_1
          refine lv_aload_n hx hb dX5_firstRow_10 rfl (lv_at hl 0 rfl) ?_
          refine x_get (ci := 5) (C := RX5) (T := TX5) (N := 6) (v := .ref (ad 31)) B h hin5 11 1 rfl rfl (by decide) (by decide +kernel) rfl dX5_firstRow_11 ?_
          refine lv_iload_n hx hb dX5_firstRow_14 rfl (lv_at hl 3 rfl) ?_
          refine lv_aload_n hx hb dX5_firstRow_15 rfl (lv_at hl 0 rfl) ?_
          refine x_get (ci := 5) (C := RX5) (T := TX5) (N := 6) (v := .int (t.1 11)) B h hin5 11 4 rfl rfl (by decide) (by decide +kernel) rfl dX5_firstRow_16 ?_
          refine lv_imul hx hb dX5_firstRow_19 ?_
          refine lv_topi (fun v_2 ev_2 => ?_)
          have hR := hR v_2 ev_2
          refine lv_iload_n hx hb dX5_firstRow_20 rfl (lv_at hl 2 rfl) ?_
          refine lv_iadd hx hb dX5_firstRow_21 ?_
          refine lv_topi (fun v_3 ev_3 => ?_)
          have hR := hR v_3 ev_3
          obtain ⟨hb_4, hR⟩ := hR
          refine va_lald (f := (t.2.2.2 8)) hx hb B.2.1 h.1 31 1 rfl rfl hb_4 dX5_firstRow_22 ?_
          refine lv_topl (fun v_4 ev_4 => ?_)
          have hR := hR v_4 ev_4
          refine lv_lconst (v := 0) hx hb dX5_firstRow_23 (by decide) ?_
          refine W.lcmp hx hb dX5_firstRow_24 ?_
          refine lv_topi (fun v_5 ev_5 => ?_)
          have hR := hR v_5 ev_5
          refine lv_if_eq (tgt := 30) hx hb dX5_firstRow_25 (by decide) (fun c_6 => ?_) (fun c_6 => ?_)
          · have hR := hR.1 c_6
            obtain ⟨v_7, ev_7⟩ : ∃ v : Int32, v = (li 3) + Int32.ofInt 1 := ⟨_, rfl⟩
            have hR := hR v_7 ev_7
            refine lv_iinc (v := v_7) (lv' := [(3, .int v_7), (0, .ref (ad 11)), (1, .int (li 1)), (2, .int (li 2))]) hx hb dX5_firstRow_30 hl (k := 3) rfl ev_7.symm (by decide) rfl (fun ls hl => ?_)
            refine lv_goto (tgt := 2) hx hb dX5_firstRow_33 (by decide) ?_
            exact ih.2 t (uI li 3 v_7) lj H locs ls hR (lv_sub hl [1, 2, 3, 0] rfl) h
          · have hR := hR.2 c_6
            refine lv_iload_n hx hb dX5_firstRow_28 rfl (lv_at hl 3 rfl) ?_
            exact x_iret (w1 := (fun u : XT => (wX cI cJ cB cZ ad u))) t B h hr rfl hR dX5_firstRow_29
  exact (main k).1 t _ _ s.heap [] ls hR hl h
def wbX5_swapRows_c31_0 (rec : Nat → XT → (Nat → Int32) → (Nat → Int64) → (XT → Prop) → Prop) (k : Nat) (t : XT) (li : Nat → Int32) (lj : Nat → Int64) (Q : XT → Prop) : Prop :=
  rec 1 t (uI li 4 0) lj Q
def wbX5_swapRows_c31_1 (rec : Nat → XT → (Nat → Int32) → (Nat → Int64) → (XT → Prop) → Prop) (k : Nat) (t : XT) (li : Nat → Int32) (lj : Nat → Int64) (Q : XT → Prop) : Prop :=
  ((((t.1 11) : Int32) ≤ (li 4)) → Q t) ∧ (¬ (((t.1 11) : Int32) ≤ (li 4)) → (((li 2) = (li 3)) → Q t) ∧ (¬ ((li 2) = (li 3)) → (∀ v_3 : Int32, v_3 = ((li 2) * (t.1 11)) → (∀ v_4 : Int32, v_4 = (v_3 + (li 4)) → (vp_in v_4 900 ∧ (∀ v_5 : Int64, v_5 = (t.2.2.2 8) v_4.toNatClampNeg → (∀ v_6 : Int32, v_6 = ((li 2) * (t.1 11)) → (∀ v_7 : Int32, v_7 = (v_6 + (li 4)) → (∀ v_8 : Int32, v_8 = ((li 3) * (t.1 11)) → (∀ v_9 : Int32, v_9 = (v_8 + (li 4)) → (vp_in v_9 900 ∧ (∀ v_10 : Int64, v_10 = (t.2.2.2 8) v_9.toNatClampNeg → (vp_in v_7 900 ∧ (∀ t_11 : XT, t_11 = sB t 8 (vp_updL (t.2.2.2 8) v_7.toNatClampNeg v_10) → (∀ v_12 : Int32, v_12 = ((li 3) * (t_11.1 11)) → (∀ v_13 : Int32, v_13 = (v_12 + (li 4)) → (vp_in v_13 900 ∧ (∀ t_14 : XT, t_14 = sB t_11 8 (vp_updL (t_11.2.2.2 8) v_13.toNatClampNeg v_5) → (∀ v_15 : Int32, v_15 = (li 4) + Int32.ofInt 1 → rec 1 t_14 (uI li 4 v_15) lj Q)))))))))))))))))))
def wpX5_swapRows_c31 : Nat → Nat → XT → (Nat → Int32) → (Nat → Int64) → (XT → Prop) → Prop
  | 0, _, _, _, _, _ => False
  | k + 1, 0, t, li, lj, Q => wbX5_swapRows_c31_0 (wpX5_swapRows_c31 k) k t li lj Q
  | k + 1, 1, t, li, lj, Q => wbX5_swapRows_c31_1 (wpX5_swapRows_c31 k) k t li lj Q
  | _ + 1, _, _, _, _, _ => False
def wqX5_swapRows_c31 (k : Nat) (t : XT) (a2 : Int32) (a3 : Int32) (Q : XT → Prop) : Prop := wpX5_swapRows_c31 k 0 t (uI (uI (fun _ => 0) 2 a2) 3 a3) (fun _ => 0) Q
set_option maxHeartbeats 8000000 in
set_option maxRecDepth 100000 in
theorem wkX5_swapRows_c31 (l : Launch) (D : va_G) (cI cJ cB cZ : ClassId) (ad : Nat → Nat) (k : Nat) (t : XT) (a2 : Int32) (a3 : Int32) (Q : XT → Prop) (hR : wqX5_swapRows_c31 k t a2 a3 Q) : MetV l yX5_swapRows wsX5_swapRows 0 0 0 0 D (TYS cI cJ cB cZ) (wX cI cJ cB cZ ad t) [.ref (ad 11), .ref (ad 31), .int a2, .int a3] (fun u => Q u) (fun u : XT => (wX cI cJ cB cZ ad u)) := by
  refine x_startV (ty := .int) (cc := cX5_swapRows) (by decide) rfl (Nat.le_of_ble_eq_true rfl) ?_
  intro p e s m args below meth c A ls B hr hnm h hl
  have hx := B.1.1
  have hb := B.1.2.1
  have hml := B.1.2.2.1
  have hts := B.1.2.2.2.2
  have hown : s.vm.findClass RX5 = some m.cls := B.1.2.2.2.1
  have hin5 : ∀ w ∈ u_ws RX5 TX5 6, w ∈ wsX5_swapRows := by decide +kernel
  have main : ∀ k : Nat, (∀ (t : XT) (li : Nat → Int32) (lj : Nat → Int64) (H : Heap) (locs : List Loc) (ls : Array Slot), wpX5_swapRows_c31 k 0 t li lj Q → lv_has ls 7 [(0, .ref (ad 11)), (1, .ref (ad 31)), (2, .int (li 2)), (3, .int (li 3))] → Hp D A s.heap (wX cI cJ cB cZ ad t) H locs → W p l e { frames := 0, cells := 0, slots := 0, locals := 0 } s m args below meth c H locs 0 0 (MQ below (va_Qv (fun u => Q u) (fun u t => xEnd D ((fun u : XT => (wX cI cJ cB cZ ad u)) u) A t) A) args s 0 0 A) (F0 m 0 ls [])) ∧
      (∀ (t : XT) (li : Nat → Int32) (lj : Nat → Int64) (H : Heap) (locs : List Loc) (ls : Array Slot), wpX5_swapRows_c31 k 1 t li lj Q → lv_has ls 7 [(0, .ref (ad 11)), (1, .ref (ad 31)), (2, .int (li 2)), (3, .int (li 3)), (4, .int (li 4))] → Hp D A s.heap (wX cI cJ cB cZ ad t) H locs → W p l e { frames := 0, cells := 0, slots := 0, locals := 0 } s m args below meth c H locs 0 0 (MQ below (va_Qv (fun u => Q u) (fun u t => xEnd D ((fun u : XT => (wX cI cJ cB cZ ad u)) u) A t) A) args s 0 0 A) (F0 m 3 ls [])) := by
    intro k
    induction k with
    | zero => exact ⟨fun _ _ _ _ _ _ hR => False.elim hR, fun _ _ _ _ _ _ hR => False.elim hR⟩
    | succ k ih =>
      refine ⟨?_, ?_⟩
      · intro t li lj H locs ls hR hl h
        have hR : wbX5_swapRows_c31_0 (wpX5_swapRows_c31 k) k t li lj Q := hR
        unfold wbX5_swapRows_c31_0 at hR
        refine lv_iconst (v := 0) hx hb dX5_swapRows_0 (by decide) ?_
        refine lv_istore (lv' := [(4, .int 0), (0, .ref (ad 11)), (1, .ref (ad 31)), (2, .int (li 2)), (3, .int (li 3))]) hx hb dX5_swapRows_1 hl (by decide) rfl (fun ls hl => ?_)
        exact ih.2 t (uI li 4 0) lj H locs ls hR (lv_sub hl [1, 2, 3, 4, 0] rfl) h
      · intro t li lj H locs ls hR hl h
        have hR : wbX5_swapRows_c31_1 (wpX5_swapRows_c31 k) k t li lj Q := hR
        unfold wbX5_swapRows_c31_1 at hR
        refine lv_iload hx hb dX5_swapRows_3 (lv_at hl 4 rfl) ?_
        refine lv_aload_n hx hb dX5_swapRows_5 rfl (lv_at hl 0 rfl) ?_
        refine x_get (ci := 5) (C := RX5) (T := TX5) (N := 6) (v := .int (t.1 11)) B h hin5 11 4 rfl rfl (by decide) (by decide +kernel) rfl dX5_swapRows_6 ?_
        refine lv_icmp_ge (tgt := 71) hx hb dX5_swapRows_9 (by decide) (fun c_1 => ?_) (fun c_1 => ?_)
        · have hR := hR.1 c_1
          exact x_vret (w1 := (fun u : XT => (wX cI cJ cB cZ ad u))) t B h hr hR dX5_swapRows_71
        · have hR := hR.2 c_1
          refine lv_iload_n hx hb dX5_swapRows_12 rfl (lv_at hl 2 rfl) ?_
          refine lv_iload_n hx hb dX5_swapRows_13 rfl (lv_at hl 3 rfl) ?_
          refine lv_icmp_eq (tgt := 71) hx hb dX5_swapRows_14 (by decide) (fun c_2 => ?_) (fun c_2 => ?_)
          · have hR := hR.1 c_2
            exact x_vret (w1 := (fun u : XT => (wX cI cJ cB cZ ad u))) t B h hr hR dX5_swapRows_71
          · have hR := hR.2 c_2
            refine lv_aload_n hx hb dX5_swapRows_17 rfl (lv_at hl 1 rfl) ?_
            refine lv_iload_n hx hb dX5_swapRows_18 rfl (lv_at hl 2 rfl) ?_
            refine lv_aload_n hx hb dX5_swapRows_19 rfl (lv_at hl 0 rfl) ?_
            refine x_get (ci := 5) (C := RX5) (T := TX5) (N := 6) (v := .int (t.1 11)) B h hin5 11 4 rfl rfl (by decide) (by decide +kernel) rfl dX5_swapRows_20 ?_
            refine lv_imul hx hb dX5_swapRows_23 ?_
            refine lv_topi (fun v_3 ev_3 => ?_)
            have hR := hR v_3 ev_3
            refine lv_iload hx hb dX5_swapRows_24 (lv_at hl 4 rfl) ?_
            refine lv_iadd hx hb dX5_swapRows_26 ?_
            refine lv_topi (fun v_4 ev_4 => ?_)
            have hR := hR v_4 ev_4
            obtain ⟨hb_5, hR⟩ := hR
            refine va_lald (f := (t.2.2.2 8)) hx hb B.2.1 h.1 31 1 rfl rfl hb_5 dX5_swapRows_27 ?_
            refine lv_topl (fun v_5 ev_5 => ?_)
            have hR := hR v_5 ev_5
            refine lv_lstore (lv' := [(5, .long v_5), (0, .ref (ad 11)), (1, .ref (ad 31)), (2, .int (li 2)), (3, .int (li 3)), (4, .int (li 4))]) hx hb dX5_swapRows_28 hl (by decide) rfl (fun ls hl => ?_)
            refine lv_aload_n hx hb dX5_swapRows_30 rfl (lv_at hl 2 rfl) ?_
            refine lv_iload_n hx hb dX5_swapRows_31 rfl (lv_at hl 3 rfl) ?_
            refine lv_aload_n hx hb dX5_swapRows_32 rfl (lv_at hl 1 rfl) ?_
            refine x_get (ci := 5) (C := RX5) (T := TX5) (N := 6) (v := .int (t.1 11)) B h hin5 11 4 rfl rfl (by decide) (by decide +kernel) rfl dX5_swapRows_33 ?_
            refine lv_imul hx hb dX5_swapRows_36 ?_
            refine lv_topi (fun v_6 ev_6 => ?_)
            have hR := hR v_6 ev_6
            refine lv_iload hx hb dX5_swapRows_37 (lv_at hl 5 rfl) ?_
            refine lv_iadd hx hb dX5_swapRows_39 ?_
            refine lv_topi (fun v_7 ev_7 => ?_)
            have hR := hR v_7 ev_7
            refine lv_aload_n hx hb dX5_swapRows_40 rfl (lv_at hl 2 rfl) ?_
            refine lv_iload_n hx hb dX5_swapRows_41 rfl (lv_at hl 4 rfl) ?_
            refine lv_aload_n hx hb dX5_swapRows_42 rfl (lv_at hl 1 rfl) ?_
            refine x_get (ci := 5) (C := RX5) (T := TX5) (N := 6) (v := .int (t.1 11)) B h hin5 11 4 rfl rfl (by decide) (by decide +kernel) rfl dX5_swapRows_43 ?_
            refine lv_imul hx hb dX5_swapRows_46 ?_
            refine lv_topi (fun v_8 ev_8 => ?_)
            have hR := hR v_8 ev_8
            refine lv_iload hx hb dX5_swapRows_47 (lv_at hl 5 rfl) ?_
            refine lv_iadd hx hb dX5_swapRows_49 ?_
            refine lv_topi (fun v_9 ev_9 => ?_)
            have hR := hR v_9 ev_9
            obtain ⟨hb_10, hR⟩ := hR
            refine va_lald (f := (t.2.2.2 8)) hx hb B.2.1 h.1 31 1 rfl rfl hb_10 dX5_swapRows_50 ?_
            refine lv_topl (fun v_10 ev_10 => ?_)
            have hR := hR v_10 ev_10
            obtain ⟨hb_11, hR⟩ := hR
            refine z_last (f := (t.2.2.2 8)) B h 31 1 rfl rfl hb_11 dX5_swapRows_51 (fun H locs h => ?_)
            obtain ⟨t_11, et_11⟩ : ∃ v : XT, v = sB t 8 (vp_updL (t.2.2.2 8) v_7.toNatClampNeg v_10) := ⟨_, rfl⟩
            have hR := hR t_11 et_11
            have h : Hp D A s.heap (wX cI cJ cB cZ ad t_11) H locs := by rw [et_11]; exact h
            refine lv_aload_n hx hb dX5_swapRows_52 rfl (lv_at hl 2 rfl) ?_
            refine lv_iload_n hx hb dX5_swapRows_53 rfl (lv_at hl 4 rfl) ?_
            refine lv_aload_n hx hb dX5_swapRows_54 rfl (lv_at hl 1 rfl) ?_
            refine x_get (ci := 5) (C := RX5) (T := TX5) (N := 6) (v := .int (t_11.1 11)) B h hin5 11 4 rfl rfl (by decide) (by decide +kernel) rfl dX5_swapRows_55 ?_
            refine lv_imul hx hb dX5_swapRows_58 ?_
            refine lv_topi (fun v_12 ev_12 => ?_)
            have hR := hR v_12 ev_12
            refine lv_iload hx hb dX5_swapRows_59 (lv_at hl 5 rfl) ?_
            refine lv_iadd hx hb dX5_swapRows_61 ?_
            refine lv_topi (fun v_13 ev_13 => ?_)
            have hR := hR v_13 ev_13
            refine lv_lload hx hb dX5_swapRows_62 (lv_at hl 0 rfl) ?_
            obtain ⟨hb_14, hR⟩ := hR
            refine z_last (f := (t_11.2.2.2 8)) B h 31 1 rfl rfl hb_14 dX5_swapRows_64 (fun H locs h => ?_)
            obtain ⟨t_14, et_14⟩ : ∃ v : XT, v = sB t_11 8 (vp_updL (t_11.2.2.2 8) v_13.toNatClampNeg v_5) := ⟨_, rfl⟩
            have hR := hR t_14 et_14
            have h : Hp D A s.heap (wX cI cJ cB cZ ad t_14) H locs := by rw [et_14]; exact h
            obtain ⟨v_15, ev_15⟩ : ∃ v : Int32, v = (li 4) + Int32.ofInt 1 := ⟨_, rfl⟩
            have hR := hR v_15 ev_15
            refine lv_iinc (v := v_15) (lv' := [(4, .int v_15), (5, .long v_5), (0, .ref (ad 11)), (1, .ref (ad 31)), (2, .int (li 2)), (3, .int (li 3))]) hx hb dX5_swapRows_65 hl (k := 5) rfl ev_15.symm (by decide) rfl (fun ls hl => ?_)
            refine lv_goto (tgt := 3) hx hb dX5_swapRows_68 (by decide) ?_
            exact ih.2 t_14 (uI li 4 v_15) lj H locs ls hR (lv_sub hl [2, 3, 4, 5, 0] rfl) h
  exact (main k).1 t _ _ s.heap [] ls hR hl h
def wbX5_makePositive_0 (rec : Nat → XT → (Nat → Int32) → (Nat → Int64) → (XT → Prop) → Prop) (k : Nat) (t : XT) (li : Nat → Int32) (lj : Nat → Int64) (Q : XT → Prop) : Prop :=
  (∀ v_1 : Int32, v_1 = ((li 1) * (t.1 11)) → (∀ v_2 : Int32, v_2 = (v_1 + (li 2)) → (vp_in v_2 900 ∧ (∀ v_3 : Int64, v_3 = (t.2.2.2 8) v_2.toNatClampNeg → (∀ v_4 : Int32, v_4 = (lg_cmp v_3 0) → ((v_4 ≤ 0) → rec 1 t (uI li 3 (li 2)) lj Q) ∧ (¬ (v_4 ≤ 0) → Q t))))))
def wbX5_makePositive_1 (rec : Nat → XT → (Nat → Int32) → (Nat → Int64) → (XT → Prop) → Prop) (k : Nat) (t : XT) (li : Nat → Int32) (lj : Nat → Int64) (Q : XT → Prop) : Prop :=
  ((((t.1 11) : Int32) ≤ (li 3)) → Q t) ∧ (¬ (((t.1 11) : Int32) ≤ (li 3)) → (∀ v_7 : Int32, v_7 = ((li 1) * (t.1 11)) → (∀ v_8 : Int32, v_8 = (v_7 + (li 3)) → (∀ v_9 : Int32, v_9 = ((li 1) * (t.1 11)) → (∀ v_10 : Int32, v_10 = (v_9 + (li 3)) → (vp_in v_10 900 ∧ (∀ v_11 : Int64, v_11 = (t.2.2.2 8) v_10.toNatClampNeg → (∀ v_12 : Int64, v_12 = (-v_11) → (vp_in v_8 900 ∧ (∀ t_13 : XT, t_13 = sB t 8 (vp_updL (t.2.2.2 8) v_8.toNatClampNeg v_12) → (∀ v_14 : Int32, v_14 = (li 3) + Int32.ofInt 1 → rec 1 t_13 (uI li 3 v_14) lj Q)))))))))))
def wpX5_makePositive : Nat → Nat → XT → (Nat → Int32) → (Nat → Int64) → (XT → Prop) → Prop
  | 0, _, _, _, _, _ => False
  | k + 1, 0, t, li, lj, Q => wbX5_makePositive_0 (wpX5_makePositive k) k t li lj Q
  | k + 1, 1, t, li, lj, Q => wbX5_makePositive_1 (wpX5_makePositive k) k t li lj Q
  | _ + 1, _, _, _, _, _ => False
def wqX5_makePositive (k : Nat) (t : XT) (a1 : Int32) (a2 : Int32) (Q : XT → Prop) : Prop := wpX5_makePositive k 0 t (uI (uI (fun _ => 0) 1 a1) 2 a2) (fun _ => 0) Q
set_option maxHeartbeats 8000000 in
set_option maxRecDepth 100000 in
theorem wkX5_makePositive (l : Launch) (D : va_G) (cI cJ cB cZ : ClassId) (ad : Nat → Nat) (k : Nat) (t : XT) (a1 : Int32) (a2 : Int32) (Q : XT → Prop) (hR : wqX5_makePositive k t a1 a2 Q) : MetV l yX5_makePositive wsX5_makePositive 0 0 0 0 D (TYS cI cJ cB cZ) (wX cI cJ cB cZ ad t) [.ref (ad 11), .int a1, .int a2] (fun u => Q u) (fun u : XT => (wX cI cJ cB cZ ad u)) := by
  refine x_startV (ty := .int) (cc := cX5_makePositive) (by decide) rfl (Nat.le_of_ble_eq_true rfl) ?_
  intro p e s m args below meth c A ls B hr hnm h hl
  have hx := B.1.1
  have hb := B.1.2.1
  have hml := B.1.2.2.1
  have hts := B.1.2.2.2.2
  have hown : s.vm.findClass RX5 = some m.cls := B.1.2.2.2.1
  have hin5 : ∀ w ∈ u_ws RX5 TX5 6, w ∈ wsX5_makePositive := by decide +kernel
  have main : ∀ k : Nat, (∀ (t : XT) (li : Nat → Int32) (lj : Nat → Int64) (H : Heap) (locs : List Loc) (ls : Array Slot), wpX5_makePositive k 0 t li lj Q → lv_has ls 4 [(0, .ref (ad 11)), (1, .int (li 1)), (2, .int (li 2))] → Hp D A s.heap (wX cI cJ cB cZ ad t) H locs → W p l e { frames := 0, cells := 0, slots := 0, locals := 0 } s m args below meth c H locs 0 0 (MQ below (va_Qv (fun u => Q u) (fun u t => xEnd D ((fun u : XT => (wX cI cJ cB cZ ad u)) u) A t) A) args s 0 0 A) (F0 m 0 ls [])) ∧
      (∀ (t : XT) (li : Nat → Int32) (lj : Nat → Int64) (H : Heap) (locs : List Loc) (ls : Array Slot), wpX5_makePositive k 1 t li lj Q → lv_has ls 4 [(0, .ref (ad 11)), (1, .int (li 1)), (2, .int (li 2)), (3, .int (li 3))] → Hp D A s.heap (wX cI cJ cB cZ ad t) H locs → W p l e { frames := 0, cells := 0, slots := 0, locals := 0 } s m args below meth c H locs 0 0 (MQ below (va_Qv (fun u => Q u) (fun u t => xEnd D ((fun u : XT => (wX cI cJ cB cZ ad u)) u) A t) A) args s 0 0 A) (F0 m 21 ls [])) := by
    intro k
    induction k with
    | zero => exact ⟨fun _ _ _ _ _ _ hR => False.elim hR, fun _ _ _ _ _ _ hR => False.elim hR⟩
    | succ k ih =>
      refine ⟨?_, ?_⟩
      · intro t li lj H locs ls hR hl h
        have hR : wbX5_makePositive_0 (wpX5_makePositive k) k t li lj Q := hR
        unfold wbX5_makePositive_0 at hR
        refine lv_aload_n hx hb dX5_makePositive_0 rfl (lv_at hl 0 rfl) ?_
        refine x_get (ci := 5) (C := RX5) (T := TX5) (N := 6) (v := .ref (ad 31)) B h hin5 11 1 rfl rfl (by decide) (by decide +kernel) rfl dX5_makePositive_1 ?_
        refine lv_iload_n hx hb dX5_makePositive_4 rfl (lv_at hl 1 rfl) ?_
        refine lv_aload_n hx hb dX5_makePositive_5 rfl (lv_at hl 0 rfl) ?_
        refine x_get (ci := 5) (C := RX5) (T := TX5) (N := 6) (v := .int (t.1 11)) B h hin5 11 4 rfl rfl (by decide) (by decide +kernel) rfl dX5_makePositive_6 ?_
        refine lv_imul hx hb dX5_makePositive_9 ?_
        refine lv_topi (fun v_1 ev_1 => ?_)
        have hR := hR v_1 ev_1
        refine lv_iload_n hx hb dX5_makePositive_10 rfl (lv_at hl 2 rfl) ?_
        refine lv_iadd hx hb dX5_makePositive_11 ?_
        refine lv_topi (fun v_2 ev_2 => ?_)
        have hR := hR v_2 ev_2
        obtain ⟨hb_3, hR⟩ := hR
        refine va_lald (f := (t.2.2.2 8)) hx hb B.2.1 h.1 31 1 rfl rfl hb_3 dX5_makePositive_12 ?_
        refine lv_topl (fun v_3 ev_3 => ?_)
        have hR := hR v_3 ev_3
        refine lv_lconst (v := 0) hx hb dX5_makePositive_13 (by decide) ?_
        refine W.lcmp hx hb dX5_makePositive_14 ?_
        refine lv_topi (fun v_4 ev_4 => ?_)
        have hR := hR v_4 ev_4
        refine lv_if_le (tgt := 19) hx hb dX5_makePositive_15 (by decide) (fun c_5 => ?_) (fun c_5 => ?_)
        · have hR := hR.1 c_5
          refine lv_iload_n hx hb dX5_makePositive_19 rfl (lv_at hl 2 rfl) ?_
          refine lv_istore_n (lv' := [(3, .int (li 2)), (0, .ref (ad 11)), (1, .int (li 1)), (2, .int (li 2))]) hx hb dX5_makePositive_20 rfl hl (by decide) rfl (fun ls hl => ?_)
          exact ih.2 t (uI li 3 (li 2)) lj H locs ls hR (lv_sub hl [1, 2, 3, 0] rfl) h
        · have hR := hR.2 c_5
          exact x_vret (w1 := (fun u : XT => (wX cI cJ cB cZ ad u))) t B h hr hR dX5_makePositive_18
      · intro t li lj H locs ls hR hl h
        have hR : wbX5_makePositive_1 (wpX5_makePositive k) k t li lj Q := hR
        unfold wbX5_makePositive_1 at hR
        refine lv_iload_n hx hb dX5_makePositive_21 rfl (lv_at hl 3 rfl) ?_
        refine lv_aload_n hx hb dX5_makePositive_22 rfl (lv_at hl 0 rfl) ?_
        refine x_get (ci := 5) (C := RX5) (T := TX5) (N := 6) (v := .int (t.1 11)) B h hin5 11 4 rfl rfl (by decide) (by decide +kernel) rfl dX5_makePositive_23 ?_
        refine lv_icmp_ge (tgt := 62) hx hb dX5_makePositive_26 (by decide) (fun c_6 => ?_) (fun c_6 => ?_)
        · have hR := hR.1 c_6
          exact x_vret (w1 := (fun u : XT => (wX cI cJ cB cZ ad u))) t B h hr hR dX5_makePositive_62
        · have hR := hR.2 c_6
          refine lv_aload_n hx hb dX5_makePositive_29 rfl (lv_at hl 0 rfl) ?_
          refine x_get (ci := 5) (C := RX5) (T := TX5) (N := 6) (v := .ref (ad 31)) B h hin5 11 1 rfl rfl (by decide) (by decide +kernel) rfl dX5_makePositive_30 ?_
          refine lv_iload_n hx hb dX5_makePositive_33 rfl (lv_at hl 1 rfl) ?_
          refine lv_aload_n hx hb dX5_makePositive_34 rfl (lv_at hl 0 rfl) ?_
          refine x_get (ci := 5) (C := RX5) (T := TX5) (N := 6) (v := .int (t.1 11)) B h hin5 11 4 rfl rfl (by decide) (by decide +kernel) rfl dX5_makePositive_35 ?_
          refine lv_imul hx hb dX5_makePositive_38 ?_
          refine lv_topi (fun v_7 ev_7 => ?_)
          have hR := hR v_7 ev_7
          refine lv_iload_n hx hb dX5_makePositive_39 rfl (lv_at hl 3 rfl) ?_
          refine lv_iadd hx hb dX5_makePositive_40 ?_
          refine lv_topi (fun v_8 ev_8 => ?_)
          have hR := hR v_8 ev_8
          refine lv_aload_n hx hb dX5_makePositive_41 rfl (lv_at hl 0 rfl) ?_
          refine x_get (ci := 5) (C := RX5) (T := TX5) (N := 6) (v := .ref (ad 31)) B h hin5 11 1 rfl rfl (by decide) (by decide +kernel) rfl dX5_makePositive_42 ?_
          refine lv_iload_n hx hb dX5_makePositive_45 rfl (lv_at hl 1 rfl) ?_
          refine lv_aload_n hx hb dX5_makePositive_46 rfl (lv_at hl 0 rfl) ?_
          refine x_get (ci := 5) (C := RX5) (T := TX5) (N := 6) (v := .int (t.1 11)) B h hin5 11 4 rfl rfl (by decide) (by decide +kernel) rfl dX5_makePositive_47 ?_
          refine lv_imul hx hb dX5_makePositive_50 ?_
          refine lv_topi (fun v_9 ev_9 => ?_)
          have hR := hR v_9 ev_9
          refine lv_iload_n hx hb dX5_makePositive_51 rfl (lv_at hl 3 rfl) ?_
          refine lv_iadd hx hb dX5_makePositive_52 ?_
          refine lv_topi (fun v_10 ev_10 => ?_)
          have hR := hR v_10 ev_10
          obtain ⟨hb_11, hR⟩ := hR
          refine va_lald (f := (t.2.2.2 8)) hx hb B.2.1 h.1 31 1 rfl rfl hb_11 dX5_makePositive_53 ?_
          refine lv_topl (fun v_11 ev_11 => ?_)
          have hR := hR v_11 ev_11
          refine lv_lneg hx hb dX5_makePositive_54 ?_
          refine lv_topl (fun v_12 ev_12 => ?_)
          have hR := hR v_12 ev_12
          obtain ⟨hb_13, hR⟩ := hR
          refine z_last (f := (t.2.2.2 8)) B h 31 1 rfl rfl hb_13 dX5_makePositive_55 (fun H locs h => ?_)
          obtain ⟨t_13, et_13⟩ : ∃ v : XT, v = sB t 8 (vp_updL (t.2.2.2 8) v_8.toNatClampNeg v_12) := ⟨_, rfl⟩
          have hR := hR t_13 et_13
          have h : Hp D A s.heap (wX cI cJ cB cZ ad t_13) H locs := by rw [et_13]; exact h
          obtain ⟨v_14, ev_14⟩ : ∃ v : Int32, v = (li 3) + Int32.ofInt 1 := ⟨_, rfl⟩
          have hR := hR v_14 ev_14
          refine lv_iinc (v := v_14) (lv' := [(3, .int v_14), (0, .ref (ad 11)), (1, .int (li 1)), (2, .int (li 2))]) hx hb dX5_makePositive_56 hl (k := 3) rfl ev_14.symm (by decide) rfl (fun ls hl => ?_)
          refine lv_goto (tgt := 21) hx hb dX5_makePositive_59 (by decide) ?_
          exact ih.2 t_13 (uI li 3 v_14) lj H locs ls hR (lv_sub hl [1, 2, 3, 0] rfl) h
  exact (main k).1 t _ _ s.heap [] ls hR hl h
