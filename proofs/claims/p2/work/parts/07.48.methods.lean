set_option maxRecDepth 20000 in
theorem ggX11_drawn_X11_peelByDraws : GoodIn wsX11_drawn wsX11_peelByDraws := goodIn_r _ [12, 13, 14, 15, 16, 17, 18, 19, 20, 21, 22, 23, 24, 25, 26, 27, 28, 29, 30, 31, 32, 11, 33, 34, 35, 36, 37, 38, 39, 40, 41, 42, 43, 44, 45, 46, 47, 3, 48, 49, 50, 51, 52, 53, 54, 55, 56, 57, 58, 59, 60, 61, 62, 63, 64, 65, 66, 67, 68, 69, 70, 71, 72, 73, 74, 75, 76, 77, 78, 79, 80, 81, 82, 83, 84, 85, 86, 87, 88, 96, 97, 98, 99, 100, 101, 102, 103, 104, 89, 90, 91, 92, 93, 94, 95] (by decide +kernel) (by decide +kernel)
set_option maxRecDepth 20000 in
theorem gX11_drawn_X11_peelByDraws : GoodIn wsX11_drawn (wsV RX11 294 RX11 yX11_peelByDraws wsX11_peelByDraws) := goodIn_app (goodIn_of _ (by decide +kernel)) ggX11_drawn_X11_peelByDraws
def wbX11_drawn_0 (rec : Nat → XT → (Nat → Int32) → (Nat → Int64) → (Int32 → XT → Prop) → Prop) (k : Nat) (t : XT) (li : Nat → Int32) (lj : Nat → Int64) (Q : Int32 → XT → Prop) : Prop :=
  (((li 1) < 1) → rec 1 t li lj Q) ∧ (¬ ((li 1) < 1) → (((40 : Int32) < (li 1)) → rec 1 t li lj Q) ∧ (¬ ((40 : Int32) < (li 1)) → (((li 2) < 0) → rec 1 t li lj Q) ∧ (¬ ((li 2) < 0) → (((2 : Int32) < (li 2)) → rec 1 t li lj Q) ∧ (¬ ((2 : Int32) < (li 2)) → ((¬ (t.1 4) = 0) → rec 2 t (uI (uI (uI (uI (uI li 3 (t.1 0)) 4 64) 5 0) 6 0) 7 0) lj Q) ∧ (((t.1 4) = 0) → rec 1 t li lj Q)))))
def wbX11_drawn_1 (rec : Nat → XT → (Nat → Int32) → (Nat → Int64) → (Int32 → XT → Prop) → Prop) (k : Nat) (t : XT) (li : Nat → Int32) (lj : Nat → Int64) (Q : Int32 → XT → Prop) : Prop :=
  Q (-1) t
def wbX11_drawn_2 (rec : Nat → XT → (Nat → Int32) → (Nat → Int64) → (Int32 → XT → Prop) → Prop) (k : Nat) (t : XT) (li : Nat → Int32) (lj : Nat → Int64) (Q : Int32 → XT → Prop) : Prop :=
  ((((li 1) : Int32) ≤ (li 7)) → (∀ t_7 : XT, t_7 = sI t 0 (li 3) → ((¬ (li 2) = 0) → ((¬ (li 2) = 1) → Q (li 6) t_7) ∧ (((li 2) = 1) → Q (li 5) t_7)) ∧ (((li 2) = 0) → Q (li 4) t_7))) ∧ (¬ (((li 1) : Int32) ≤ (li 7)) → (wqX11_peelByDraws k t  (fun r_10 t_10 => (∀ v_11 : Int32, v_11 = (if (li 6) < r_10 then r_10 else (li 6)) → ((((li 4) : Int32) ≤ r_10) → rec 3 t_10 (uI (uI li 6 v_11) 8 r_10) lj Q) ∧ (¬ (((li 4) : Int32) ≤ r_10) → rec 3 t_10 (uI (uI (uI (uI li 4 r_10) 5 0) 6 v_11) 8 r_10) lj Q)))))
def wbX11_drawn_3 (rec : Nat → XT → (Nat → Int32) → (Nat → Int64) → (Int32 → XT → Prop) → Prop) (k : Nat) (t : XT) (li : Nat → Int32) (lj : Nat → Int64) (Q : Int32 → XT → Prop) : Prop :=
  ((¬ (li 8) = (li 4)) → rec 4 t li lj Q) ∧ (((li 8) = (li 4)) → (∀ v_14 : Int32, v_14 = (li 5) + Int32.ofInt 1 → rec 4 t (uI li 5 v_14) lj Q))
def wbX11_drawn_4 (rec : Nat → XT → (Nat → Int32) → (Nat → Int64) → (Int32 → XT → Prop) → Prop) (k : Nat) (t : XT) (li : Nat → Int32) (lj : Nat → Int64) (Q : Int32 → XT → Prop) : Prop :=
  (∀ v_15 : Int32, v_15 = (li 7) + Int32.ofInt 1 → rec 2 t (uI li 7 v_15) lj Q)
def wpX11_drawn : Nat → Nat → XT → (Nat → Int32) → (Nat → Int64) → (Int32 → XT → Prop) → Prop
  | 0, _, _, _, _, _ => False
  | k + 1, 0, t, li, lj, Q => wbX11_drawn_0 (wpX11_drawn k) k t li lj Q
  | k + 1, 1, t, li, lj, Q => wbX11_drawn_1 (wpX11_drawn k) k t li lj Q
  | k + 1, 2, t, li, lj, Q => wbX11_drawn_2 (wpX11_drawn k) k t li lj Q
  | k + 1, 3, t, li, lj, Q => wbX11_drawn_3 (wpX11_drawn k) k t li lj Q
  | k + 1, 4, t, li, lj, Q => wbX11_drawn_4 (wpX11_drawn k) k t li lj Q
  | _ + 1, _, _, _, _, _ => False
def wqX11_drawn (k : Nat) (t : XT) (a1 : Int32) (a2 : Int32) (Q : Int32 → XT → Prop) : Prop := wpX11_drawn k 0 t (uI (uI (fun _ => 0) 1 a1) 2 a2) (fun _ => 0) Q
set_option maxHeartbeats 8000000 in
set_option maxRecDepth 100000 in
theorem wkX11_drawn (l : Launch) (D : va_G) (cI cJ cB cZ : ClassId) (ad : Nat → Nat) (k : Nat) (t : XT) (a1 : Int32) (a2 : Int32) (Q : Int32 → XT → Prop) (hR : wqX11_drawn k t a1 a2 Q) : MetI l yX11_drawn wsX11_drawn 5 113 0 0 D (TYS cI cJ cB cZ) (wX cI cJ cB cZ ad t) [.ref (ad 0), .int a1, .int a2] (fun r u => Q r u) (fun u : XT => (wX cI cJ cB cZ ad u)) := by
  refine x_startI (ty := .int) (cc := cX11_drawn) (by decide) rfl (Nat.le_of_ble_eq_true rfl) ?_
  intro p e s m args below meth c A ls B hr hnm h hl
  have hx := B.1.1
  have hb := B.1.2.1
  have hml := B.1.2.2.1
  have hts := B.1.2.2.2.2
  have hown : s.vm.findClass RX11 = some m.cls := B.1.2.2.2.1
  have hin9 : ∀ w ∈ u_ws RX9 TX9 7, w ∈ wsX11_drawn := by decide +kernel
  have hin11 : ∀ w ∈ u_ws RX11 TX11 11, w ∈ wsX11_drawn := by decide +kernel
  have main : ∀ k : Nat, (∀ (t : XT) (li : Nat → Int32) (lj : Nat → Int64) (H : Heap) (locs : List Loc) (ls : Array Slot), wpX11_drawn k 0 t li lj Q → lv_has ls 9 [(0, .ref (ad 0)), (1, .int (li 1)), (2, .int (li 2))] → Hp D A s.heap (wX cI cJ cB cZ ad t) H locs → W p l e { frames := 5, cells := 0, slots := 0, locals := 113 } s m args below meth c H locs 0 0 (MQ below (va_Qi (fun r u => Q r u) (fun u t => xEnd D ((fun u : XT => (wX cI cJ cB cZ ad u)) u) A t) A) args s 0 0 A) (F0 m 0 ls [])) ∧
      (∀ (t : XT) (li : Nat → Int32) (lj : Nat → Int64) (H : Heap) (locs : List Loc) (ls : Array Slot), wpX11_drawn k 1 t li lj Q → lv_has ls 9 [(0, .ref (ad 0)), (1, .int (li 1)), (2, .int (li 2))] → Hp D A s.heap (wX cI cJ cB cZ ad t) H locs → W p l e { frames := 5, cells := 0, slots := 0, locals := 113 } s m args below meth c H locs 0 0 (MQ below (va_Qi (fun r u => Q r u) (fun u t => xEnd D ((fun u : XT => (wX cI cJ cB cZ ad u)) u) A t) A) args s 0 0 A) (F0 m 30 ls [])) ∧
      (∀ (t : XT) (li : Nat → Int32) (lj : Nat → Int64) (H : Heap) (locs : List Loc) (ls : Array Slot), wpX11_drawn k 2 t li lj Q → lv_has ls 9 [(0, .ref (ad 0)), (1, .int (li 1)), (2, .int (li 2)), (3, .int (li 3)), (4, .int (li 4)), (5, .int (li 5)), (6, .int (li 6)), (7, .int (li 7))] → Hp D A s.heap (wX cI cJ cB cZ ad t) H locs → W p l e { frames := 5, cells := 0, slots := 0, locals := 113 } s m args below meth c H locs 0 0 (MQ below (va_Qi (fun r u => Q r u) (fun u t => xEnd D ((fun u : XT => (wX cI cJ cB cZ ad u)) u) A t) A) args s 0 0 A) (F0 m 50 ls [])) ∧
      (∀ (t : XT) (li : Nat → Int32) (lj : Nat → Int64) (H : Heap) (locs : List Loc) (ls : Array Slot), wpX11_drawn k 3 t li lj Q → lv_has ls 9 [(0, .ref (ad 0)), (1, .int (li 1)), (2, .int (li 2)), (3, .int (li 3)), (4, .int (li 4)), (5, .int (li 5)), (6, .int (li 6)), (7, .int (li 7)), (8, .int (li 8))] → Hp D A s.heap (wX cI cJ cB cZ ad t) H locs → W p l e { frames := 5, cells := 0, slots := 0, locals := 113 } s m args below meth c H locs 0 0 (MQ below (va_Qi (fun r u => Q r u) (fun u t => xEnd D ((fun u : XT => (wX cI cJ cB cZ ad u)) u) A t) A) args s 0 0 A) (F0 m 85 ls [])) ∧
      (∀ (t : XT) (li : Nat → Int32) (lj : Nat → Int64) (H : Heap) (locs : List Loc) (ls : Array Slot), wpX11_drawn k 4 t li lj Q → lv_has ls 9 [(0, .ref (ad 0)), (1, .int (li 1)), (2, .int (li 2)), (3, .int (li 3)), (4, .int (li 4)), (5, .int (li 5)), (6, .int (li 6)), (7, .int (li 7)), (8, .int (li 8))] → Hp D A s.heap (wX cI cJ cB cZ ad t) H locs → W p l e { frames := 5, cells := 0, slots := 0, locals := 113 } s m args below meth c H locs 0 0 (MQ below (va_Qi (fun r u => Q r u) (fun u t => xEnd D ((fun u : XT => (wX cI cJ cB cZ ad u)) u) A t) A) args s 0 0 A) (F0 m 95 ls [])) := by
    intro k
    induction k with
    | zero => exact ⟨fun _ _ _ _ _ _ hR => False.elim hR, fun _ _ _ _ _ _ hR => False.elim hR, fun _ _ _ _ _ _ hR => False.elim hR, fun _ _ _ _ _ _ hR => False.elim hR, fun _ _ _ _ _ _ hR => False.elim hR⟩
    | succ k ih =>
      refine ⟨?_, ?_, ?_, ?_, ?_⟩
      · intro t li lj H locs ls hR hl h
        have hR : wbX11_drawn_0 (wpX11_drawn k) k t li lj Q := hR
        unfold wbX11_drawn_0 at hR
        refine lv_iload_n hx hb dX11_drawn_0 rfl (lv_at hl 1 rfl) ?_
        refine lv_iconst (v := 1) hx hb dX11_drawn_1 (by decide) ?_
        refine lv_icmp_lt (tgt := 30) hx hb dX11_drawn_2 (by decide) (fun c_1 => ?_) (fun c_1 => ?_)
        · have hR := hR.1 c_1
          exact ih.2.1 t li lj H locs ls hR (lv_sub hl [0, 1, 2] rfl) h
        · have hR := hR.2 c_1
          refine lv_iload_n hx hb dX11_drawn_5 rfl (lv_at hl 1 rfl) ?_
          refine lv_bipush (v := 40) hx hb dX11_drawn_6 (by decide) ?_
          refine lv_icmp_gt (tgt := 30) hx hb dX11_drawn_8 (by decide) (fun c_2 => ?_) (fun c_2 => ?_)
          · have hR := hR.1 c_2
            exact ih.2.1 t li lj H locs ls hR (lv_sub hl [0, 1, 2] rfl) h
          · have hR := hR.2 c_2
            refine lv_iload_n hx hb dX11_drawn_11 rfl (lv_at hl 2 rfl) ?_
            refine lv_if_lt (tgt := 30) hx hb dX11_drawn_12 (by decide) (fun c_3 => ?_) (fun c_3 => ?_)
            · have hR := hR.1 c_3
              exact ih.2.1 t li lj H locs ls hR (lv_sub hl [0, 1, 2] rfl) h
            · have hR := hR.2 c_3
              refine lv_iload_n hx hb dX11_drawn_15 rfl (lv_at hl 2 rfl) ?_
              refine lv_iconst (v := 2) hx hb dX11_drawn_16 (by decide) ?_
              refine lv_icmp_gt (tgt := 30) hx hb dX11_drawn_17 (by decide) (fun c_4 => ?_) (fun c_4 => ?_)
              · have hR := hR.1 c_4
                exact ih.2.1 t li lj H locs ls hR (lv_sub hl [0, 1, 2] rfl) h
              · have hR := hR.2 c_4
                refine lv_aload_n hx hb dX11_drawn_20 rfl (lv_at hl 0 rfl) ?_
                refine x_get (ci := 11) (C := RX11) (T := TX11) (N := 11) (v := .ref (ad 3)) B h hin11 0 2 rfl rfl (by decide) (by decide +kernel) rfl dX11_drawn_21 ?_
                refine x_get (ci := 9) (C := RX9) (T := TX9) (N := 7) (v := .int (t.1 4)) B h hin9 3 0 rfl rfl (by decide) (by decide +kernel) rfl dX11_drawn_24 ?_
                refine lv_if_ne (tgt := 32) hx hb dX11_drawn_27 (by decide) (fun c_5 => ?_) (fun c_5 => ?_)
                · have hR := hR.1 c_5
                  refine lv_aload_n hx hb dX11_drawn_32 rfl (lv_at hl 0 rfl) ?_
                  refine x_get (ci := 11) (C := RX11) (T := TX11) (N := 11) (v := .int (t.1 0)) B h hin11 0 10 rfl rfl (by decide) (by decide +kernel) rfl dX11_drawn_33 ?_
                  refine lv_istore_n (lv' := [(3, .int (t.1 0)), (0, .ref (ad 0)), (1, .int (li 1)), (2, .int (li 2))]) hx hb dX11_drawn_36 rfl hl (by decide) rfl (fun ls hl => ?_)
                  refine lv_bipush (v := 64) hx hb dX11_drawn_37 (by decide) ?_
                  refine lv_istore (lv' := [(4, .int 64), (3, .int (t.1 0)), (0, .ref (ad 0)), (1, .int (li 1)), (2, .int (li 2))]) hx hb dX11_drawn_39 hl (by decide) rfl (fun ls hl => ?_)
                  refine lv_iconst (v := 0) hx hb dX11_drawn_41 (by decide) ?_
                  refine lv_istore (lv' := [(5, .int 0), (4, .int 64), (3, .int (t.1 0)), (0, .ref (ad 0)), (1, .int (li 1)), (2, .int (li 2))]) hx hb dX11_drawn_42 hl (by decide) rfl (fun ls hl => ?_)
                  refine lv_iconst (v := 0) hx hb dX11_drawn_44 (by decide) ?_
                  refine lv_istore (lv' := [(6, .int 0), (5, .int 0), (4, .int 64), (3, .int (t.1 0)), (0, .ref (ad 0)), (1, .int (li 1)), (2, .int (li 2))]) hx hb dX11_drawn_45 hl (by decide) rfl (fun ls hl => ?_)
                  refine lv_iconst (v := 0) hx hb dX11_drawn_47 (by decide) ?_
                  refine lv_istore (lv' := [(7, .int 0), (6, .int 0), (5, .int 0), (4, .int 64), (3, .int (t.1 0)), (0, .ref (ad 0)), (1, .int (li 1)), (2, .int (li 2))]) hx hb dX11_drawn_48 hl (by decide) rfl (fun ls hl => ?_)
                  exact ih.2.2.1 t (uI (uI (uI (uI (uI li 3 (t.1 0)) 4 64) 5 0) 6 0) 7 0) lj H locs ls hR (lv_sub hl [5, 6, 7, 4, 3, 2, 1, 0] rfl) h
                · have hR := hR.2 c_5
                  exact ih.2.1 t li lj H locs ls hR (lv_sub hl [0, 1, 2] rfl) h
      · intro t li lj H locs ls hR hl h
        have hR : wbX11_drawn_1 (wpX11_drawn k) k t li lj Q := hR
        unfold wbX11_drawn_1 at hR
        refine lv_iconst (v := (-1)) hx hb dX11_drawn_30 (by decide) ?_
        exact x_iret (w1 := (fun u : XT => (wX cI cJ cB cZ ad u))) t B h hr rfl hR dX11_drawn_31
      · intro t li lj H locs ls hR hl h
        have hR : wbX11_drawn_2 (wpX11_drawn k) k t li lj Q := hR
        unfold wbX11_drawn_2 at hR
        refine lv_iload hx hb dX11_drawn_50 (lv_at hl 7 rfl) ?_
        refine lv_iload_n hx hb dX11_drawn_52 rfl (lv_at hl 1 rfl) ?_
        refine lv_icmp_ge (tgt := 101) hx hb dX11_drawn_53 (by decide) (fun c_6 => ?_) (fun c_6 => ?_)
        · have hR := hR.1 c_6
          refine lv_aload_n hx hb dX11_drawn_101 rfl (lv_at hl 0 rfl) ?_
          refine lv_iload_n hx hb dX11_drawn_102 rfl (lv_at hl 3 rfl) ?_
          refine x_put (ci := 11) (C := RX11) (T := TX11) (N := 11) (v := .int (li 3)) (ty := .int) B h hin11 tyX11 tyX11_ok nmX11 0 10 rfl rfl (by decide) (by decide +kernel) rfl rfl rfl rfl (Nat.le_of_ble_eq_true rfl) dX11_drawn_103 (fun H locs h => ?_)
          obtain ⟨t_7, et_7⟩ : ∃ v : XT, v = sI t 0 (li 3) := ⟨_, rfl⟩
          have hR := hR t_7 et_7
          have h : Hp D A s.heap (wX cI cJ cB cZ ad t_7) H locs := by rw [et_7]; exact h
          refine lv_iload_n hx hb dX11_drawn_106 rfl (lv_at hl 2 rfl) ?_
          refine lv_if_ne (tgt := 113) hx hb dX11_drawn_107 (by decide) (fun c_8 => ?_) (fun c_8 => ?_)
          · have hR := hR.1 c_8
            refine lv_iload_n hx hb dX11_drawn_113 rfl (lv_at hl 2 rfl) ?_
            refine lv_iconst (v := 1) hx hb dX11_drawn_114 (by decide) ?_
            refine lv_icmp_ne (tgt := 123) hx hb dX11_drawn_115 (by decide) (fun c_9 => ?_) (fun c_9 => ?_)
            · have hR := hR.1 c_9
              refine lv_iload hx hb dX11_drawn_123 (lv_at hl 6 rfl) ?_
              exact x_iret (w1 := (fun u : XT => (wX cI cJ cB cZ ad u))) t_7 B h hr rfl hR dX11_drawn_125
            · have hR := hR.2 c_9
              refine lv_iload hx hb dX11_drawn_118 (lv_at hl 5 rfl) ?_
              refine lv_goto (tgt := 125) hx hb dX11_drawn_120 (by decide) ?_
              exact x_iret (w1 := (fun u : XT => (wX cI cJ cB cZ ad u))) t_7 B h hr rfl hR dX11_drawn_125
          · have hR := hR.2 c_8
            refine lv_iload hx hb dX11_drawn_110 (lv_at hl 4 rfl) ?_
            exact x_iret (w1 := (fun u : XT => (wX cI cJ cB cZ ad u))) t_7 B h hr rfl hR dX11_drawn_112
        · have hR := hR.2 c_6
          refine lv_aload_n hx hb dX11_drawn_56 rfl (lv_at hl 0 rfl) ?_
          refine x_cVIF (n := 0) (As := []) (rest := []) B h (wkX11_peelByDraws l D cI cJ cB cZ ad k t  _ hR) ⟨⟨_, rfl⟩, by decide +kernel, Nat.le_of_ble_eq_true rfl, Nat.le_of_ble_eq_true rfl⟩ gX11_drawn_X11_peelByDraws (show ((wX cI cJ cB cZ ad t) : va_W)[0]? = some (_, .inr (11, _)) from rfl) rfl rfl hl.1 rfl (Nat.le_of_ble_eq_true rfl) dX11_drawn_57 ⟨Nat.le_of_ble_eq_true rfl, Nat.le_of_ble_eq_true rfl⟩ (fun r_10 t_10 H locs hR h => ?_)
          refine lv_istore (lv' := [(8, .int r_10), (0, .ref (ad 0)), (1, .int (li 1)), (2, .int (li 2)), (3, .int (li 3)), (4, .int (li 4)), (5, .int (li 5)), (6, .int (li 6)), (7, .int (li 7))]) hx hb dX11_drawn_60 hl (by decide) rfl (fun ls hl => ?_)
          refine lv_iload hx hb dX11_drawn_62 (lv_at hl 7 rfl) ?_
          refine lv_iload hx hb dX11_drawn_64 (lv_at hl 0 rfl) ?_
          refine va_mmax hx hb (hml.trans hl.1.symm) hown (hts (.methodLink RX11 297 Lib.Math.max.name) (by decide +kernel)) (hts (.static Lib.Math.max.name) (by decide +kernel)) (hts (.initialized "java/lang/Math") (by decide +kernel)) (hts (.code Lib.Math.max.name Lib.Math.max.code 2 (some .int)) (by decide +kernel)) (Nat.le_of_ble_eq_true rfl) (Nat.le_of_ble_eq_true rfl) (Nat.le_of_ble_eq_true rfl) (Nat.le_of_ble_eq_true rfl) dX11_drawn_66 ?_
          refine lv_topi (fun v_11 ev_11 => ?_)
          have hR := hR v_11 ev_11
          refine lv_istore (lv' := [(6, .int v_11), (8, .int r_10), (0, .ref (ad 0)), (1, .int (li 1)), (2, .int (li 2)), (3, .int (li 3)), (4, .int (li 4)), (5, .int (li 5)), (7, .int (li 7))]) hx hb dX11_drawn_69 hl (by decide) rfl (fun ls hl => ?_)
          refine lv_iload hx hb dX11_drawn_71 (lv_at hl 1 rfl) ?_
          refine lv_iload hx hb dX11_drawn_73 (lv_at hl 6 rfl) ?_
          refine lv_icmp_ge (tgt := 85) hx hb dX11_drawn_75 (by decide) (fun c_12 => ?_) (fun c_12 => ?_)
          · have hR := hR.1 c_12
            exact ih.2.2.2.1 t_10 (uI (uI li 6 v_11) 8 r_10) lj H locs ls hR (lv_sub hl [2, 3, 4, 5, 6, 7, 0, 8, 1] rfl) h
          · have hR := hR.2 c_12
            refine lv_iload hx hb dX11_drawn_78 (lv_at hl 1 rfl) ?_
            refine lv_istore (lv' := [(4, .int r_10), (6, .int v_11), (8, .int r_10), (0, .ref (ad 0)), (1, .int (li 1)), (2, .int (li 2)), (3, .int (li 3)), (5, .int (li 5)), (7, .int (li 7))]) hx hb dX11_drawn_80 hl (by decide) rfl (fun ls hl => ?_)
            refine lv_iconst (v := 0) hx hb dX11_drawn_82 (by decide) ?_
            refine lv_istore (lv' := [(5, .int 0), (4, .int r_10), (6, .int v_11), (8, .int r_10), (0, .ref (ad 0)), (1, .int (li 1)), (2, .int (li 2)), (3, .int (li 3)), (7, .int (li 7))]) hx hb dX11_drawn_83 hl (by decide) rfl (fun ls hl => ?_)
            exact ih.2.2.2.1 t_10 (uI (uI (uI (uI li 4 r_10) 5 0) 6 v_11) 8 r_10) lj H locs ls hR (lv_sub hl [4, 5, 6, 7, 1, 0, 2, 8, 3] rfl) h
      · intro t li lj H locs ls hR hl h
        have hR : wbX11_drawn_3 (wpX11_drawn k) k t li lj Q := hR
        unfold wbX11_drawn_3 at hR
        refine lv_iload hx hb dX11_drawn_85 (lv_at hl 8 rfl) ?_
        refine lv_iload hx hb dX11_drawn_87 (lv_at hl 4 rfl) ?_
        refine lv_icmp_ne (tgt := 95) hx hb dX11_drawn_89 (by decide) (fun c_13 => ?_) (fun c_13 => ?_)
        · have hR := hR.1 c_13
          exact ih.2.2.2.2 t li lj H locs ls hR (lv_sub hl [0, 1, 2, 3, 4, 5, 6, 7, 8] rfl) h
        · have hR := hR.2 c_13
          obtain ⟨v_14, ev_14⟩ : ∃ v : Int32, v = (li 5) + Int32.ofInt 1 := ⟨_, rfl⟩
          have hR := hR v_14 ev_14
          refine lv_iinc (v := v_14) (lv' := [(5, .int v_14), (0, .ref (ad 0)), (1, .int (li 1)), (2, .int (li 2)), (3, .int (li 3)), (4, .int (li 4)), (6, .int (li 6)), (7, .int (li 7)), (8, .int (li 8))]) hx hb dX11_drawn_92 hl (k := 5) rfl ev_14.symm (by decide) rfl (fun ls hl => ?_)
          exact ih.2.2.2.2 t (uI li 5 v_14) lj H locs ls hR (lv_sub hl [1, 2, 3, 4, 5, 0, 6, 7, 8] rfl) h
      · intro t li lj H locs ls hR hl h
        have hR : wbX11_drawn_4 (wpX11_drawn k) k t li lj Q := hR
        unfold wbX11_drawn_4 at hR
        obtain ⟨v_15, ev_15⟩ : ∃ v : Int32, v = (li 7) + Int32.ofInt 1 := ⟨_, rfl⟩
        have hR := hR v_15 ev_15
        refine lv_iinc (v := v_15) (lv' := [(7, .int v_15), (0, .ref (ad 0)), (1, .int (li 1)), (2, .int (li 2)), (3, .int (li 3)), (4, .int (li 4)), (5, .int (li 5)), (6, .int (li 6)), (8, .int (li 8))]) hx hb dX11_drawn_95 hl (k := 7) rfl ev_15.symm (by decide) rfl (fun ls hl => ?_)
        refine lv_goto (tgt := 50) hx hb dX11_drawn_98 (by decide) ?_
        exact ih.2.2.1 t (uI li 7 v_15) lj H locs ls hR (lv_sub hl [1, 2, 3, 4, 5, 6, 7, 0] rfl) h
  exact (main k).1 t _ _ s.heap [] ls hR hl h
set_option maxRecDepth 20000 in
theorem ggX2_upTo_X2_measure : GoodIn wsX2_upTo wsX2_measure := goodIn_r _ [8, 9, 10, 11, 2, 1, 12, 13, 14, 15, 16, 17, 18, 19, 20, 7, 21, 22, 23, 3, 24, 25, 26, 27, 28, 29, 30, 31, 32, 33, 34, 35, 36, 37, 38, 39, 40, 41, 42, 43, 44, 45, 46, 47, 48, 49, 50, 51, 52, 53, 54, 55] (by decide +kernel) (by decide +kernel)
set_option maxRecDepth 20000 in
theorem gX2_upTo_X2_measure : GoodIn wsX2_upTo (wsV RX2 30 RX2 yX2_measure wsX2_measure) := goodIn_app (goodIn_of _ (by decide +kernel)) ggX2_upTo_X2_measure
set_option maxRecDepth 20000 in
theorem ggX2_upTo_X11_bit : GoodIn wsX2_upTo wsX11_bit := goodIn_r _ [36] (by decide +kernel) (by decide +kernel)
set_option maxRecDepth 20000 in
theorem gX2_upTo_X11_bit_n36 : GoodIn wsX2_upTo (wsX11_bit) := ggX2_upTo_X11_bit
def wbX2_upTo_0 (rec : Nat → XT → (Nat → Int32) → (Nat → Int64) → (Int64 → XT → Prop) → Prop) (k : Nat) (t : XT) (li : Nat → Int32) (lj : Nat → Int64) (Q : Int64 → XT → Prop) : Prop :=
  (wqX2_measure k t  (fun t_1 => rec 1 t_1 (uI li 4 0) (uI lj 2 0) Q))
def wbX2_upTo_1 (rec : Nat → XT → (Nat → Int32) → (Nat → Int64) → (Int64 → XT → Prop) → Prop) (k : Nat) (t : XT) (li : Nat → Int32) (lj : Nat → Int64) (Q : Int64 → XT → Prop) : Prop :=
  ((((t.1 6) : Int32) ≤ (li 4)) → Q (lj 2) t) ∧ (¬ (((t.1 6) : Int32) ≤ (li 4)) → (vp_in (li 4) 64 ∧ (∀ v_3 : Int32, v_3 = (t.2.2.1 7) (li 4).toNatClampNeg → (vp_in v_3 64 ∧ (∀ v_4 : Int32, v_4 = (t.2.2.1 6) v_3.toNatClampNeg → ((((li 1) : Int32) < v_4) → rec 2 t li lj Q) ∧ (¬ (((li 1) : Int32) < v_4) → (vp_in (li 4) 64 ∧ (∀ v_6 : Int32, v_6 = (t.2.2.1 7) (li 4).toNatClampNeg → (wqX11_bit k v_6 (fun r_7 => (∀ v_8 : Int64, v_8 = ((lj 2) ||| r_7) → rec 2 t li (uI lj 2 v_8) Q)))))))))))
def wbX2_upTo_2 (rec : Nat → XT → (Nat → Int32) → (Nat → Int64) → (Int64 → XT → Prop) → Prop) (k : Nat) (t : XT) (li : Nat → Int32) (lj : Nat → Int64) (Q : Int64 → XT → Prop) : Prop :=
  (∀ v_9 : Int32, v_9 = (li 4) + Int32.ofInt 1 → rec 1 t (uI li 4 v_9) lj Q)
def wpX2_upTo : Nat → Nat → XT → (Nat → Int32) → (Nat → Int64) → (Int64 → XT → Prop) → Prop
  | 0, _, _, _, _, _ => False
  | k + 1, 0, t, li, lj, Q => wbX2_upTo_0 (wpX2_upTo k) k t li lj Q
  | k + 1, 1, t, li, lj, Q => wbX2_upTo_1 (wpX2_upTo k) k t li lj Q
  | k + 1, 2, t, li, lj, Q => wbX2_upTo_2 (wpX2_upTo k) k t li lj Q
  | _ + 1, _, _, _, _, _ => False
def wqX2_upTo (k : Nat) (t : XT) (a1 : Int32) (Q : Int64 → XT → Prop) : Prop := wpX2_upTo k 0 t (uI (fun _ => 0) 1 a1) (fun _ => 0) Q
set_option maxHeartbeats 8000000 in
set_option maxRecDepth 100000 in
theorem wkX2_upTo (l : Launch) (D : va_G) (cI cJ cB cZ : ClassId) (ad : Nat → Nat) (k : Nat) (t : XT) (a1 : Int32) (Q : Int64 → XT → Prop) (hR : wqX2_upTo k t a1 Q) : MetL l yX2_upTo wsX2_upTo 3 71 0 0 D (TYS cI cJ cB cZ) (wX cI cJ cB cZ ad t) [.ref (ad 6), .int a1] (fun r u => Q r u) (fun u : XT => (wX cI cJ cB cZ ad u)) := by
  refine x_startL (ty := .long) (cc := cX2_upTo) (by decide) rfl (Nat.le_of_ble_eq_true rfl) ?_
  intro p e s m args below meth c A ls B hr hnm h hl
  have hx := B.1.1
  have hb := B.1.2.1
  have hml := B.1.2.2.1
  have hts := B.1.2.2.2.2
  have hown : s.vm.findClass RX2 = some m.cls := B.1.2.2.2.1
  have hin2 : ∀ w ∈ u_ws RX2 TX2 6, w ∈ wsX2_upTo := by decide +kernel
  have main : ∀ k : Nat, (∀ (t : XT) (li : Nat → Int32) (lj : Nat → Int64) (H : Heap) (locs : List Loc) (ls : Array Slot), wpX2_upTo k 0 t li lj Q → lv_has ls 5 [(0, .ref (ad 6)), (1, .int (li 1))] → Hp D A s.heap (wX cI cJ cB cZ ad t) H locs → W p l e { frames := 3, cells := 0, slots := 0, locals := 71 } s m args below meth c H locs 0 0 (MQ below (va_Ql (fun r u => Q r u) (fun u t => xEnd D ((fun u : XT => (wX cI cJ cB cZ ad u)) u) A t) A) args s 0 0 A) (F0 m 0 ls [])) ∧
      (∀ (t : XT) (li : Nat → Int32) (lj : Nat → Int64) (H : Heap) (locs : List Loc) (ls : Array Slot), wpX2_upTo k 1 t li lj Q → lv_has ls 5 [(0, .ref (ad 6)), (1, .int (li 1)), (2, .long (lj 2)), (4, .int (li 4))] → Hp D A s.heap (wX cI cJ cB cZ ad t) H locs → W p l e { frames := 3, cells := 0, slots := 0, locals := 71 } s m args below meth c H locs 0 0 (MQ below (va_Ql (fun r u => Q r u) (fun u t => xEnd D ((fun u : XT => (wX cI cJ cB cZ ad u)) u) A t) A) args s 0 0 A) (F0 m 9 ls [])) ∧
      (∀ (t : XT) (li : Nat → Int32) (lj : Nat → Int64) (H : Heap) (locs : List Loc) (ls : Array Slot), wpX2_upTo k 2 t li lj Q → lv_has ls 5 [(0, .ref (ad 6)), (1, .int (li 1)), (2, .long (lj 2)), (4, .int (li 4))] → Hp D A s.heap (wX cI cJ cB cZ ad t) H locs → W p l e { frames := 3, cells := 0, slots := 0, locals := 71 } s m args below meth c H locs 0 0 (MQ below (va_Ql (fun r u => Q r u) (fun u t => xEnd D ((fun u : XT => (wX cI cJ cB cZ ad u)) u) A t) A) args s 0 0 A) (F0 m 47 ls [])) := by
    intro k
    induction k with
    | zero => exact ⟨fun _ _ _ _ _ _ hR => False.elim hR, fun _ _ _ _ _ _ hR => False.elim hR, fun _ _ _ _ _ _ hR => False.elim hR⟩
    | succ k ih =>
      refine ⟨?_, ?_, ?_⟩
      · intro t li lj H locs ls hR hl h
        have hR : wbX2_upTo_0 (wpX2_upTo k) k t li lj Q := hR
        unfold wbX2_upTo_0 at hR
        refine lv_aload_n hx hb dX2_upTo_0 rfl (lv_at hl 0 rfl) ?_
        refine x_cVVF (n := 0) (As := []) (rest := []) B h (wkX2_measure l D cI cJ cB cZ ad k t  _ hR) ⟨⟨_, rfl⟩, by decide +kernel, Nat.le_of_ble_eq_true rfl, Nat.le_of_ble_eq_true rfl⟩ gX2_upTo_X2_measure (show ((wX cI cJ cB cZ ad t) : va_W)[6]? = some (_, .inr (2, _)) from rfl) rfl rfl hl.1 rfl (Nat.le_of_ble_eq_true rfl) dX2_upTo_1 ⟨Nat.le_of_ble_eq_true rfl, Nat.le_of_ble_eq_true rfl⟩ (fun t_1 H locs hR h => ?_)
        refine lv_lconst (v := 0) hx hb dX2_upTo_4 (by decide) ?_
        refine lv_lstore_n (lv' := [(2, .long 0), (0, .ref (ad 6)), (1, .int (li 1))]) hx hb dX2_upTo_5 rfl hl (by decide) rfl (fun ls hl => ?_)
        refine lv_iconst (v := 0) hx hb dX2_upTo_6 (by decide) ?_
        refine lv_istore (lv' := [(4, .int 0), (2, .long 0), (0, .ref (ad 6)), (1, .int (li 1))]) hx hb dX2_upTo_7 hl (by decide) rfl (fun ls hl => ?_)
        exact ih.2.1 t_1 (uI li 4 0) (uI lj 2 0) H locs ls hR (lv_sub hl [2, 3, 1, 0] rfl) h
      · intro t li lj H locs ls hR hl h
        have hR : wbX2_upTo_1 (wpX2_upTo k) k t li lj Q := hR
        unfold wbX2_upTo_1 at hR
        refine lv_iload hx hb dX2_upTo_9 (lv_at hl 3 rfl) ?_
        refine lv_aload_n hx hb dX2_upTo_11 rfl (lv_at hl 0 rfl) ?_
        refine x_get (ci := 2) (C := RX2) (T := TX2) (N := 6) (v := .int (t.1 6)) B h hin2 6 4 rfl rfl (by decide) (by decide +kernel) rfl dX2_upTo_12 ?_
        refine lv_icmp_ge (tgt := 53) hx hb dX2_upTo_15 (by decide) (fun c_2 => ?_) (fun c_2 => ?_)
        · have hR := hR.1 c_2
          refine lv_lload_n hx hb dX2_upTo_53 rfl (lv_at hl 2 rfl) ?_
          exact x_lret (w1 := (fun u : XT => (wX cI cJ cB cZ ad u))) t B h hr hR dX2_upTo_54
        · have hR := hR.2 c_2
          refine lv_aload_n hx hb dX2_upTo_18 rfl (lv_at hl 0 rfl) ?_
          refine x_get (ci := 2) (C := RX2) (T := TX2) (N := 6) (v := .ref (ad 21)) B h hin2 6 2 rfl rfl (by decide) (by decide +kernel) rfl dX2_upTo_19 ?_
          refine lv_aload_n hx hb dX2_upTo_22 rfl (lv_at hl 0 rfl) ?_
          refine x_get (ci := 2) (C := RX2) (T := TX2) (N := 6) (v := .ref (ad 22)) B h hin2 6 3 rfl rfl (by decide) (by decide +kernel) rfl dX2_upTo_23 ?_
          refine lv_iload hx hb dX2_upTo_26 (lv_at hl 3 rfl) ?_
          obtain ⟨hb_3, hR⟩ := hR
          refine va_iald (f := (t.2.2.1 7)) hx hb B.2.1 h.1 22 0 rfl rfl hb_3 dX2_upTo_28 ?_
          refine lv_topi (fun v_3 ev_3 => ?_)
          have hR := hR v_3 ev_3
          obtain ⟨hb_4, hR⟩ := hR
          refine va_iald (f := (t.2.2.1 6)) hx hb B.2.1 h.1 21 0 rfl rfl hb_4 dX2_upTo_29 ?_
          refine lv_topi (fun v_4 ev_4 => ?_)
          have hR := hR v_4 ev_4
          refine lv_iload_n hx hb dX2_upTo_30 rfl (lv_at hl 1 rfl) ?_
          refine lv_icmp_gt (tgt := 47) hx hb dX2_upTo_31 (by decide) (fun c_5 => ?_) (fun c_5 => ?_)
          · have hR := hR.1 c_5
            exact ih.2.2 t li lj H locs ls hR (lv_sub hl [0, 1, 2, 3] rfl) h
          · have hR := hR.2 c_5
            refine lv_lload_n hx hb dX2_upTo_34 rfl (lv_at hl 2 rfl) ?_
            refine lv_aload_n hx hb dX2_upTo_35 rfl (lv_at hl 0 rfl) ?_
            refine x_get (ci := 2) (C := RX2) (T := TX2) (N := 6) (v := .ref (ad 22)) B h hin2 6 3 rfl rfl (by decide) (by decide +kernel) rfl dX2_upTo_36 ?_
            refine lv_iload hx hb dX2_upTo_39 (lv_at hl 3 rfl) ?_
            obtain ⟨hb_6, hR⟩ := hR
            refine va_iald (f := (t.2.2.1 7)) hx hb B.2.1 h.1 22 0 rfl rfl hb_6 dX2_upTo_41 ?_
            refine lv_topi (fun v_6 ev_6 => ?_)
            have hR := hR v_6 ev_6
            refine x_cNLE (n := 1) (As := [.int v_6]) (rest := [.long (lj 2)]) B h (wkX11_bit l D cI cJ cB cZ ad k v_6 _ hR) ⟨⟨_, rfl⟩, by decide +kernel, Nat.le_of_ble_eq_true rfl, Nat.le_of_ble_eq_true rfl⟩ gX2_upTo_X11_bit_n36 (by decide +kernel) (by decide +kernel) (host := "MorseDesk") (by decide +kernel) rfl hl.1 rfl (Nat.le_of_ble_eq_true rfl) dX2_upTo_42 ⟨Nat.le_of_ble_eq_true rfl, Nat.le_of_ble_eq_true rfl⟩ (fun r_7 _ H locs hR h => ?_)
            refine lv_lor hx hb dX2_upTo_45 ?_
            refine lv_topl (fun v_8 ev_8 => ?_)
            have hR := hR v_8 ev_8
            refine lv_lstore_n (lv' := [(2, .long v_8), (0, .ref (ad 6)), (1, .int (li 1)), (4, .int (li 4))]) hx hb dX2_upTo_46 rfl hl (by decide) rfl (fun ls hl => ?_)
            exact ih.2.2 t li (uI lj 2 v_8) H locs ls hR (lv_sub hl [1, 2, 0, 3] rfl) h
      · intro t li lj H locs ls hR hl h
        have hR : wbX2_upTo_2 (wpX2_upTo k) k t li lj Q := hR
        unfold wbX2_upTo_2 at hR
        obtain ⟨v_9, ev_9⟩ : ∃ v : Int32, v = (li 4) + Int32.ofInt 1 := ⟨_, rfl⟩
        have hR := hR v_9 ev_9
        refine lv_iinc (v := v_9) (lv' := [(4, .int v_9), (0, .ref (ad 6)), (1, .int (li 1)), (2, .long (lj 2))]) hx hb dX2_upTo_47 hl (k := 3) rfl ev_9.symm (by decide) rfl (fun ls hl => ?_)
        refine lv_goto (tgt := 9) hx hb dX2_upTo_50 (by decide) ?_
        exact ih.2.1 t (uI li 4 v_9) lj H locs ls hR (lv_sub hl [1, 2, 3, 0] rfl) h
  exact (main k).1 t _ _ s.heap [] ls hR hl h
set_option maxRecDepth 20000 in
theorem ggX11_level_X2_upTo : GoodIn wsX11_level wsX2_upTo := goodIn_r _ [7, 8, 9, 10, 11, 12, 13, 6, 14, 15, 16, 17, 18, 19, 20, 21, 22, 23, 24, 25, 26, 27, 28, 29, 30, 31, 32, 33, 34, 35, 36, 37, 38, 39, 40, 41, 42, 68, 69, 70, 71, 72, 73, 74, 75, 76, 77, 78, 79, 80, 81, 82, 83, 84, 85, 86] (by decide +kernel) (by decide +kernel)
set_option maxRecDepth 20000 in
theorem gX11_level_X2_upTo : GoodIn wsX11_level (wsV RX11 302 RX2 yX2_upTo wsX2_upTo) := goodIn_app (goodIn_of _ (by decide +kernel)) ggX11_level_X2_upTo
set_option maxRecDepth 20000 in
theorem ggX11_level_J13_bitCount_95d88 : GoodIn wsX11_level wsJ13_bitCount_95d88 := goodIn_r _ [46, 47, 48, 49] (by decide +kernel) (by decide +kernel)
set_option maxRecDepth 20000 in
theorem gX11_level_J13_bitCount_95d88 : GoodIn wsX11_level (va_wsS RX11 151 yJ13_bitCount_95d88 wsJ13_bitCount_95d88) := goodIn_app (goodIn_of _ (by decide +kernel)) ggX11_level_J13_bitCount_95d88
set_option maxRecDepth 20000 in
theorem ggX11_level_X9_eulerOf : GoodIn wsX11_level wsX9_eulerOf := goodIn_r _ [54, 55, 56, 44, 45, 46, 47, 48, 49, 80, 81, 82, 83, 84, 85, 86] (by decide +kernel) (by decide +kernel)
set_option maxRecDepth 20000 in
theorem gX11_level_X9_eulerOf : GoodIn wsX11_level (wsV RX11 284 RX9 yX9_eulerOf wsX9_eulerOf) := goodIn_app (goodIn_of _ (by decide +kernel)) ggX11_level_X9_eulerOf
def wbX11_level_0 (rec : Nat → XT → (Nat → Int32) → (Nat → Int64) → (Int32 → XT → Prop) → Prop) (k : Nat) (t : XT) (li : Nat → Int32) (lj : Nat → Int64) (Q : Int32 → XT → Prop) : Prop :=
  (((li 1) < 0) → rec 1 t li lj Q) ∧ (¬ ((li 1) < 0) → (((li 2) < 0) → rec 1 t li lj Q) ∧ (¬ ((li 2) < 0) → (((li 2) ≤ 1) → (wqX2_upTo k t (li 1) (fun r_4 t_4 => ((¬ (li 2) = 0) → (wqX9_eulerOf k t_4 r_4 (fun r_6 t_6 => Q r_6 t_6))) ∧ (((li 2) = 0) → (wqJ13_bitCount_95d88 k r_4 (fun r_7 => Q r_7 t_4)))))) ∧ (¬ ((li 2) ≤ 1) → rec 1 t li lj Q)))
def wbX11_level_1 (rec : Nat → XT → (Nat → Int32) → (Nat → Int64) → (Int32 → XT → Prop) → Prop) (k : Nat) (t : XT) (li : Nat → Int32) (lj : Nat → Int64) (Q : Int32 → XT → Prop) : Prop :=
  Q (-1) t
def wpX11_level : Nat → Nat → XT → (Nat → Int32) → (Nat → Int64) → (Int32 → XT → Prop) → Prop
  | 0, _, _, _, _, _ => False
  | k + 1, 0, t, li, lj, Q => wbX11_level_0 (wpX11_level k) k t li lj Q
  | k + 1, 1, t, li, lj, Q => wbX11_level_1 (wpX11_level k) k t li lj Q
  | _ + 1, _, _, _, _, _ => False
def wqX11_level (k : Nat) (t : XT) (a1 : Int32) (a2 : Int32) (Q : Int32 → XT → Prop) : Prop := wpX11_level k 0 t (uI (uI (fun _ => 0) 1 a1) 2 a2) (fun _ => 0) Q
set_option maxHeartbeats 8000000 in
set_option maxRecDepth 100000 in
theorem wkX11_level (l : Launch) (D : va_G) (cI cJ cB cZ : ClassId) (ad : Nat → Nat) (k : Nat) (t : XT) (a1 : Int32) (a2 : Int32) (Q : Int32 → XT → Prop) (hR : wqX11_level k t a1 a2 Q) : MetI l yX11_level wsX11_level 4 95 0 0 D (TYS cI cJ cB cZ) (wX cI cJ cB cZ ad t) [.ref (ad 0), .int a1, .int a2] (fun r u => Q r u) (fun u : XT => (wX cI cJ cB cZ ad u)) := by
  refine x_startI (ty := .int) (cc := cX11_level) (by decide) rfl (Nat.le_of_ble_eq_true rfl) ?_
  intro p e s m args below meth c A ls B hr hnm h hl
  have hx := B.1.1
  have hb := B.1.2.1
  have hml := B.1.2.2.1
  have hts := B.1.2.2.2.2
  have hown : s.vm.findClass RX11 = some m.cls := B.1.2.2.2.1
  have hin11 : ∀ w ∈ u_ws RX11 TX11 11, w ∈ wsX11_level := by decide +kernel
  have main : ∀ k : Nat, (∀ (t : XT) (li : Nat → Int32) (lj : Nat → Int64) (H : Heap) (locs : List Loc) (ls : Array Slot), wpX11_level k 0 t li lj Q → lv_has ls 5 [(0, .ref (ad 0)), (1, .int (li 1)), (2, .int (li 2))] → Hp D A s.heap (wX cI cJ cB cZ ad t) H locs → W p l e { frames := 4, cells := 0, slots := 0, locals := 95 } s m args below meth c H locs 0 0 (MQ below (va_Qi (fun r u => Q r u) (fun u t => xEnd D ((fun u : XT => (wX cI cJ cB cZ ad u)) u) A t) A) args s 0 0 A) (F0 m 0 ls [])) ∧
      (∀ (t : XT) (li : Nat → Int32) (lj : Nat → Int64) (H : Heap) (locs : List Loc) (ls : Array Slot), wpX11_level k 1 t li lj Q → lv_has ls 5 [(0, .ref (ad 0)), (1, .int (li 1)), (2, .int (li 2))] → Hp D A s.heap (wX cI cJ cB cZ ad t) H locs → W p l e { frames := 4, cells := 0, slots := 0, locals := 95 } s m args below meth c H locs 0 0 (MQ below (va_Qi (fun r u => Q r u) (fun u t => xEnd D ((fun u : XT => (wX cI cJ cB cZ ad u)) u) A t) A) args s 0 0 A) (F0 m 13 ls [])) := by
    intro k
    induction k with
    | zero => exact ⟨fun _ _ _ _ _ _ hR => False.elim hR, fun _ _ _ _ _ _ hR => False.elim hR⟩
    | succ k ih =>
      refine ⟨?_, ?_⟩
      · intro t li lj H locs ls hR hl h
        have hR : wbX11_level_0 (wpX11_level k) k t li lj Q := hR
        unfold wbX11_level_0 at hR
        refine lv_iload_n hx hb dX11_level_0 rfl (lv_at hl 1 rfl) ?_
        refine lv_if_lt (tgt := 13) hx hb dX11_level_1 (by decide) (fun c_1 => ?_) (fun c_1 => ?_)
        · have hR := hR.1 c_1
          exact ih.2 t li lj H locs ls hR (lv_sub hl [0, 1, 2] rfl) h
        · have hR := hR.2 c_1
          refine lv_iload_n hx hb dX11_level_4 rfl (lv_at hl 2 rfl) ?_
          refine lv_if_lt (tgt := 13) hx hb dX11_level_5 (by decide) (fun c_2 => ?_) (fun c_2 => ?_)
          · have hR := hR.1 c_2
            exact ih.2 t li lj H locs ls hR (lv_sub hl [0, 1, 2] rfl) h
          · have hR := hR.2 c_2
            refine lv_iload_n hx hb dX11_level_8 rfl (lv_at hl 2 rfl) ?_
            refine lv_iconst (v := 1) hx hb dX11_level_9 (by decide) ?_
            refine lv_icmp_le (tgt := 15) hx hb dX11_level_10 (by decide) (fun c_3 => ?_) (fun c_3 => ?_)
            · have hR := hR.1 c_3
              refine lv_aload_n hx hb dX11_level_15 rfl (lv_at hl 0 rfl) ?_
              refine x_get (ci := 11) (C := RX11) (T := TX11) (N := 11) (v := .ref (ad 6)) B h hin11 0 5 rfl rfl (by decide) (by decide +kernel) rfl dX11_level_16 ?_
              refine lv_iload_n hx hb dX11_level_19 rfl (lv_at hl 1 rfl) ?_
              refine x_cVLF (n := 1) (As := [.int (li 1)]) (rest := []) B h (wkX2_upTo l D cI cJ cB cZ ad k t (li 1) _ hR) ⟨⟨_, rfl⟩, by decide +kernel, Nat.le_of_ble_eq_true rfl, Nat.le_of_ble_eq_true rfl⟩ gX11_level_X2_upTo (show ((wX cI cJ cB cZ ad t) : va_W)[6]? = some (_, .inr (2, _)) from rfl) rfl rfl hl.1 rfl (Nat.le_of_ble_eq_true rfl) dX11_level_20 ⟨Nat.le_of_ble_eq_true rfl, Nat.le_of_ble_eq_true rfl⟩ (fun r_4 t_4 H locs hR h => ?_)
              refine lv_lstore_n (lv' := [(3, .long r_4), (0, .ref (ad 0)), (1, .int (li 1)), (2, .int (li 2))]) hx hb dX11_level_23 rfl hl (by decide) rfl (fun ls hl => ?_)
              refine lv_iload_n hx hb dX11_level_24 rfl (lv_at hl 3 rfl) ?_
              refine lv_if_ne (tgt := 35) hx hb dX11_level_25 (by decide) (fun c_5 => ?_) (fun c_5 => ?_)
              · have hR := hR.1 c_5
                refine lv_aload_n hx hb dX11_level_35 rfl (lv_at hl 1 rfl) ?_
                refine x_get (ci := 11) (C := RX11) (T := TX11) (N := 11) (v := .ref (ad 3)) B h hin11 0 2 rfl rfl (by decide) (by decide +kernel) rfl dX11_level_36 ?_
                refine lv_lload_n hx hb dX11_level_39 rfl (lv_at hl 0 rfl) ?_
                refine x_cVIF (n := 1) (As := [.long r_4]) (rest := []) B h (wkX9_eulerOf l D cI cJ cB cZ ad k t_4 r_4 _ hR) ⟨⟨_, rfl⟩, by decide +kernel, Nat.le_of_ble_eq_true rfl, Nat.le_of_ble_eq_true rfl⟩ gX11_level_X9_eulerOf (show ((wX cI cJ cB cZ ad t_4) : va_W)[3]? = some (_, .inr (9, _)) from rfl) rfl rfl hl.1 rfl (Nat.le_of_ble_eq_true rfl) dX11_level_40 ⟨Nat.le_of_ble_eq_true rfl, Nat.le_of_ble_eq_true rfl⟩ (fun r_6 t_6 H locs hR h => ?_)
                exact x_iret (w1 := (fun u : XT => (wX cI cJ cB cZ ad u))) t_6 B h hr rfl hR dX11_level_43
              · have hR := hR.2 c_5
                refine lv_lload_n hx hb dX11_level_28 rfl (lv_at hl 0 rfl) ?_
                refine x_cSIE (n := 1) (As := [.long r_4]) (rest := []) B h (wkJ13_bitCount_95d88 l D cI cJ cB cZ ad k r_4 _ hR) ⟨⟨_, rfl⟩, by decide +kernel, Nat.le_of_ble_eq_true rfl, Nat.le_of_ble_eq_true rfl⟩ gX11_level_J13_bitCount_95d88 rfl hl.1 rfl (Nat.le_of_ble_eq_true rfl) dX11_level_29 ⟨Nat.le_of_ble_eq_true rfl, Nat.le_of_ble_eq_true rfl⟩ (fun r_7 _ H locs hR h => ?_)
                refine lv_goto (tgt := 43) hx hb dX11_level_32 (by decide) ?_
                exact x_iret (w1 := (fun u : XT => (wX cI cJ cB cZ ad u))) t_4 B h hr rfl hR dX11_level_43
            · have hR := hR.2 c_3
              exact ih.2 t li lj H locs ls hR (lv_sub hl [0, 1, 2] rfl) h
      · intro t li lj H locs ls hR hl h
        have hR : wbX11_level_1 (wpX11_level k) k t li lj Q := hR
        unfold wbX11_level_1 at hR
        refine lv_iconst (v := (-1)) hx hb dX11_level_13 (by decide) ?_
        exact x_iret (w1 := (fun u : XT => (wX cI cJ cB cZ ad u))) t B h hr rfl hR dX11_level_14
  exact (main k).1 t _ _ s.heap [] ls hR hl h
set_option maxRecDepth 20000 in
theorem ggX9_withFaces_X11_isIn : GoodIn wsX9_withFaces wsX11_isIn := goodIn_r _ [5] (by decide +kernel) (by decide +kernel)
set_option maxRecDepth 20000 in
theorem gX9_withFaces_X11_isIn_n58 : GoodIn wsX9_withFaces (wsX11_isIn) := ggX9_withFaces_X11_isIn
def wbX9_withFaces_0 (rec : Nat → XT → (Nat → Int32) → (Nat → Int64) → (Int64 → XT → Prop) → Prop) (k : Nat) (t : XT) (li : Nat → Int32) (lj : Nat → Int64) (Q : Int64 → XT → Prop) : Prop :=
  (∀ v_1 : Int32, v_1 = ((t.1 4) - 1) → rec 1 t (uI li 5 v_1) (uI lj 3 (lj 1)) Q)
def wbX9_withFaces_1 (rec : Nat → XT → (Nat → Int32) → (Nat → Int64) → (Int64 → XT → Prop) → Prop) (k : Nat) (t : XT) (li : Nat → Int32) (lj : Nat → Int64) (Q : Int64 → XT → Prop) : Prop :=
  (((li 5) < 0) → Q (lj 3) t) ∧ (¬ ((li 5) < 0) → (wqX11_isIn k (lj 3) (li 5) (fun r_3 => ((r_3 = 0) → rec 2 t li lj Q) ∧ (¬ (r_3 = 0) → (vp_in (li 5) 64 ∧ (∀ v_5 : Int64, v_5 = (t.2.2.2 0) (li 5).toNatClampNeg → (∀ v_6 : Int64, v_6 = ((lj 3) ||| v_5) → rec 2 t li (uI lj 3 v_6) Q)))))))
def wbX9_withFaces_2 (rec : Nat → XT → (Nat → Int32) → (Nat → Int64) → (Int64 → XT → Prop) → Prop) (k : Nat) (t : XT) (li : Nat → Int32) (lj : Nat → Int64) (Q : Int64 → XT → Prop) : Prop :=
  (∀ v_7 : Int32, v_7 = (li 5) + Int32.ofInt (-1) → rec 1 t (uI li 5 v_7) lj Q)
def wpX9_withFaces : Nat → Nat → XT → (Nat → Int32) → (Nat → Int64) → (Int64 → XT → Prop) → Prop
  | 0, _, _, _, _, _ => False
  | k + 1, 0, t, li, lj, Q => wbX9_withFaces_0 (wpX9_withFaces k) k t li lj Q
  | k + 1, 1, t, li, lj, Q => wbX9_withFaces_1 (wpX9_withFaces k) k t li lj Q
  | k + 1, 2, t, li, lj, Q => wbX9_withFaces_2 (wpX9_withFaces k) k t li lj Q
  | _ + 1, _, _, _, _, _ => False
def wqX9_withFaces (k : Nat) (t : XT) (a1 : Int64) (Q : Int64 → XT → Prop) : Prop := wpX9_withFaces k 0 t (fun _ => 0) (uI (fun _ => 0) 1 a1) Q
set_option maxHeartbeats 8000000 in
set_option maxRecDepth 100000 in
theorem wkX9_withFaces (l : Launch) (D : va_G) (cI cJ cB cZ : ClassId) (ad : Nat → Nat) (k : Nat) (t : XT) (a1 : Int64) (Q : Int64 → XT → Prop) (hR : wqX9_withFaces k t a1 Q) : MetL l yX9_withFaces wsX9_withFaces 1 22 0 0 D (TYS cI cJ cB cZ) (wX cI cJ cB cZ ad t) [.ref (ad 3), .long a1] (fun r u => Q r u) (fun u : XT => (wX cI cJ cB cZ ad u)) := by
  refine x_startL (ty := .long) (cc := cX9_withFaces) (by decide) rfl (Nat.le_of_ble_eq_true rfl) ?_
  intro p e s m args below meth c A ls B hr hnm h hl
  have hx := B.1.1
  have hb := B.1.2.1
  have hml := B.1.2.2.1
  have hts := B.1.2.2.2.2
  have hown : s.vm.findClass RX9 = some m.cls := B.1.2.2.2.1
  have hin9 : ∀ w ∈ u_ws RX9 TX9 7, w ∈ wsX9_withFaces := by decide +kernel
  have main : ∀ k : Nat, (∀ (t : XT) (li : Nat → Int32) (lj : Nat → Int64) (H : Heap) (locs : List Loc) (ls : Array Slot), wpX9_withFaces k 0 t li lj Q → lv_has ls 6 [(0, .ref (ad 3)), (1, .long (lj 1))] → Hp D A s.heap (wX cI cJ cB cZ ad t) H locs → W p l e { frames := 1, cells := 0, slots := 0, locals := 22 } s m args below meth c H locs 0 0 (MQ below (va_Ql (fun r u => Q r u) (fun u t => xEnd D ((fun u : XT => (wX cI cJ cB cZ ad u)) u) A t) A) args s 0 0 A) (F0 m 0 ls [])) ∧
      (∀ (t : XT) (li : Nat → Int32) (lj : Nat → Int64) (H : Heap) (locs : List Loc) (ls : Array Slot), wpX9_withFaces k 1 t li lj Q → lv_has ls 6 [(0, .ref (ad 3)), (1, .long (lj 1)), (3, .long (lj 3)), (5, .int (li 5))] → Hp D A s.heap (wX cI cJ cB cZ ad t) H locs → W p l e { frames := 1, cells := 0, slots := 0, locals := 22 } s m args below meth c H locs 0 0 (MQ below (va_Ql (fun r u => Q r u) (fun u t => xEnd D ((fun u : XT => (wX cI cJ cB cZ ad u)) u) A t) A) args s 0 0 A) (F0 m 10 ls [])) ∧
      (∀ (t : XT) (li : Nat → Int32) (lj : Nat → Int64) (H : Heap) (locs : List Loc) (ls : Array Slot), wpX9_withFaces k 2 t li lj Q → lv_has ls 6 [(0, .ref (ad 3)), (1, .long (lj 1)), (3, .long (lj 3)), (5, .int (li 5))] → Hp D A s.heap (wX cI cJ cB cZ ad t) H locs → W p l e { frames := 1, cells := 0, slots := 0, locals := 22 } s m args below meth c H locs 0 0 (MQ below (va_Ql (fun r u => Q r u) (fun u t => xEnd D ((fun u : XT => (wX cI cJ cB cZ ad u)) u) A t) A) args s 0 0 A) (F0 m 34 ls [])) := by
    intro k
    induction k with
    | zero => exact ⟨fun _ _ _ _ _ _ hR => False.elim hR, fun _ _ _ _ _ _ hR => False.elim hR, fun _ _ _ _ _ _ hR => False.elim hR⟩
    | succ k ih =>
      refine ⟨?_, ?_, ?_⟩
      · intro t li lj H locs ls hR hl h
        have hR : wbX9_withFaces_0 (wpX9_withFaces k) k t li lj Q := hR
        unfold wbX9_withFaces_0 at hR
        refine lv_lload_n hx hb dX9_withFaces_0 rfl (lv_at hl 1 rfl) ?_
        refine lv_lstore_n (lv' := [(3, .long (lj 1)), (0, .ref (ad 3)), (1, .long (lj 1))]) hx hb dX9_withFaces_1 rfl hl (by decide) rfl (fun ls hl => ?_)
        refine lv_aload_n hx hb dX9_withFaces_2 rfl (lv_at hl 1 rfl) ?_
        refine x_get (ci := 9) (C := RX9) (T := TX9) (N := 7) (v := .int (t.1 4)) B h hin9 3 0 rfl rfl (by decide) (by decide +kernel) rfl dX9_withFaces_3 ?_
        refine lv_iconst (v := 1) hx hb dX9_withFaces_6 (by decide) ?_
        refine lv_isub hx hb dX9_withFaces_7 ?_
        refine lv_topi (fun v_1 ev_1 => ?_)
        have hR := hR v_1 ev_1
        refine lv_istore (lv' := [(5, .int v_1), (3, .long (lj 1)), (0, .ref (ad 3)), (1, .long (lj 1))]) hx hb dX9_withFaces_8 hl (by decide) rfl (fun ls hl => ?_)
        exact ih.2.1 t (uI li 5 v_1) (uI lj 3 (lj 1)) H locs ls hR (lv_sub hl [2, 3, 1, 0] rfl) h
      · intro t li lj H locs ls hR hl h
        have hR : wbX9_withFaces_1 (wpX9_withFaces k) k t li lj Q := hR
        unfold wbX9_withFaces_1 at hR
        refine lv_iload hx hb dX9_withFaces_10 (lv_at hl 3 rfl) ?_
        refine lv_if_lt (tgt := 40) hx hb dX9_withFaces_12 (by decide) (fun c_2 => ?_) (fun c_2 => ?_)
        · have hR := hR.1 c_2
          refine lv_lload_n hx hb dX9_withFaces_40 rfl (lv_at hl 2 rfl) ?_
          exact x_lret (w1 := (fun u : XT => (wX cI cJ cB cZ ad u))) t B h hr hR dX9_withFaces_41
        · have hR := hR.2 c_2
          refine lv_lload_n hx hb dX9_withFaces_15 rfl (lv_at hl 2 rfl) ?_
          refine lv_iload hx hb dX9_withFaces_16 (lv_at hl 3 rfl) ?_
          refine x_cNIE (n := 2) (As := [.long (lj 3), .int (li 5)]) (rest := []) B h (wkX11_isIn l D cI cJ cB cZ ad k (lj 3) (li 5) _ hR) ⟨⟨_, rfl⟩, by decide +kernel, Nat.le_of_ble_eq_true rfl, Nat.le_of_ble_eq_true rfl⟩ gX9_withFaces_X11_isIn_n58 (by decide +kernel) (by decide +kernel) (host := "MorseDesk") (by decide +kernel) rfl hl.1 rfl (Nat.le_of_ble_eq_true rfl) dX9_withFaces_18 ⟨Nat.le_of_ble_eq_true rfl, Nat.le_of_ble_eq_true rfl⟩ (fun r_3 _ H locs hR h => ?_)
          refine lv_if_eq (tgt := 34) hx hb dX9_withFaces_21 (by decide) (fun c_4 => ?_) (fun c_4 => ?_)
          · have hR := hR.1 c_4
            exact ih.2.2 t li lj H locs ls hR (lv_sub hl [0, 1, 2, 3] rfl) h
          · have hR := hR.2 c_4
            refine lv_lload_n hx hb dX9_withFaces_24 rfl (lv_at hl 2 rfl) ?_
            refine lv_aload_n hx hb dX9_withFaces_25 rfl (lv_at hl 0 rfl) ?_
            refine x_get (ci := 9) (C := RX9) (T := TX9) (N := 7) (v := .ref (ad 17)) B h hin9 3 4 rfl rfl (by decide) (by decide +kernel) rfl dX9_withFaces_26 ?_
            refine lv_iload hx hb dX9_withFaces_29 (lv_at hl 3 rfl) ?_
            obtain ⟨hb_5, hR⟩ := hR
            refine va_lald (f := (t.2.2.2 0)) hx hb B.2.1 h.1 17 1 rfl rfl hb_5 dX9_withFaces_31 ?_
            refine lv_topl (fun v_5 ev_5 => ?_)
            have hR := hR v_5 ev_5
            refine lv_lor hx hb dX9_withFaces_32 ?_
            refine lv_topl (fun v_6 ev_6 => ?_)
            have hR := hR v_6 ev_6
            refine lv_lstore_n (lv' := [(3, .long v_6), (0, .ref (ad 3)), (1, .long (lj 1)), (5, .int (li 5))]) hx hb dX9_withFaces_33 rfl hl (by decide) rfl (fun ls hl => ?_)
            exact ih.2.2 t li (uI lj 3 v_6) H locs ls hR (lv_sub hl [1, 2, 0, 3] rfl) h
      · intro t li lj H locs ls hR hl h
        have hR : wbX9_withFaces_2 (wpX9_withFaces k) k t li lj Q := hR
        unfold wbX9_withFaces_2 at hR
        obtain ⟨v_7, ev_7⟩ : ∃ v : Int32, v = (li 5) + Int32.ofInt (-1) := ⟨_, rfl⟩
        have hR := hR v_7 ev_7
        refine lv_iinc (v := v_7) (lv' := [(5, .int v_7), (0, .ref (ad 3)), (1, .long (lj 1)), (3, .long (lj 3))]) hx hb dX9_withFaces_34 hl (k := 3) rfl ev_7.symm (by decide) rfl (fun ls hl => ?_)
        refine lv_goto (tgt := 10) hx hb dX9_withFaces_37 (by decide) ?_
        exact ih.2.1 t (uI li 5 v_7) lj H locs ls hR (lv_sub hl [1, 2, 3, 0] rfl) h
  exact (main k).1 t _ _ s.heap [] ls hR hl h
set_option maxRecDepth 20000 in
theorem ggX11_levelBetti_X11_isDim : GoodIn wsX11_levelBetti wsX11_isDim := goodIn_r _ [7] (by decide +kernel) (by decide +kernel)
set_option maxRecDepth 20000 in
theorem gX11_levelBetti_X11_isDim : GoodIn wsX11_levelBetti (va_wsS RX11 229 yX11_isDim wsX11_isDim) := goodIn_app (goodIn_of _ (by decide +kernel)) ggX11_levelBetti_X11_isDim
set_option maxRecDepth 20000 in
theorem ggX11_levelBetti_X2_upTo : GoodIn wsX11_levelBetti wsX2_upTo := goodIn_r _ [12, 13, 14, 15, 16, 17, 18, 11, 19, 20, 21, 22, 23, 24, 25, 26, 27, 28, 29, 30, 31, 32, 33, 34, 35, 6, 36, 37, 38, 39, 40, 41, 42, 43, 44, 45, 46, 184, 185, 186, 187, 188, 189, 190, 191, 192, 193, 194, 195, 196, 197, 198, 199, 200, 201, 202] (by decide +kernel) (by decide +kernel)
set_option maxRecDepth 20000 in
theorem gX11_levelBetti_X2_upTo : GoodIn wsX11_levelBetti (wsV RX11 302 RX2 yX2_upTo wsX2_upTo) := goodIn_app (goodIn_of _ (by decide +kernel)) ggX11_levelBetti_X2_upTo
set_option maxRecDepth 20000 in
theorem ggX11_levelBetti_X9_withFaces : GoodIn wsX11_levelBetti wsX9_withFaces := goodIn_r _ [51, 52, 53, 35, 6, 36, 196, 197, 198, 199, 200, 201, 202] (by decide +kernel) (by decide +kernel)
set_option maxRecDepth 20000 in
theorem gX11_levelBetti_X9_withFaces : GoodIn wsX11_levelBetti (wsV RX11 305 RX9 yX9_withFaces wsX9_withFaces) := goodIn_app (goodIn_of _ (by decide +kernel)) ggX11_levelBetti_X9_withFaces
set_option maxRecDepth 20000 in
theorem ggX11_levelBetti_X0_bettiOf : GoodIn wsX11_levelBetti wsX0_bettiOf := goodIn_r _ [58, 59, 60, 61, 62, 63, 64, 65, 66, 67, 68, 69, 70, 57, 71, 72, 73, 74, 75, 76, 77, 78, 79, 80, 81, 82, 83, 84, 85, 86, 35, 6, 36, 87, 88, 89, 90, 91, 92, 93, 94, 17, 18, 11, 19, 20, 21, 22, 14, 13, 23, 24, 25, 26, 27, 28, 29, 30, 31, 32, 33, 34, 15, 37, 38, 39, 40, 41, 42, 43, 44, 45, 46, 95, 96, 97, 98, 99, 100, 101, 102, 103, 104, 105, 106, 107, 108, 109, 110, 111, 112, 113, 114, 115, 116, 117, 118, 119, 120, 121, 50, 122, 53, 123, 124, 125, 126, 127, 128, 129, 130, 131, 132, 133, 134, 135, 136, 137, 138, 139, 140, 141, 142, 143, 144, 145, 146, 147, 148, 149, 150, 151, 152, 153, 154, 155, 156, 157, 158, 159, 160, 161, 162, 163, 164, 165, 166, 167, 168, 169, 170, 171, 172, 203, 204, 205, 206, 196, 197, 198, 199, 200, 201, 202, 207, 208, 209, 210, 211, 212, 213, 214, 215, 216, 217, 218, 219, 184, 185, 186, 187, 188, 189, 190, 191, 192, 193, 194, 195] (by decide +kernel) (by decide +kernel)
set_option maxRecDepth 20000 in
theorem gX11_levelBetti_X0_bettiOf : GoodIn wsX11_levelBetti (wsV RX11 269 RX0 yX0_bettiOf wsX0_bettiOf) := goodIn_app (goodIn_of _ (by decide +kernel)) ggX11_levelBetti_X0_bettiOf
def wbX11_levelBetti_0 (rec : Nat → XT → (Nat → Int32) → (Nat → Int64) → (Int32 → XT → Prop) → Prop) (k : Nat) (t : XT) (li : Nat → Int32) (lj : Nat → Int64) (Q : Int32 → XT → Prop) : Prop :=
  (((li 1) < 0) → rec 1 t li lj Q) ∧ (¬ ((li 1) < 0) → (wqX11_isDim k (li 2) (fun r_2 => ((¬ r_2 = 0) → (wqX2_upTo k t (li 1) (fun r_4 t_4 => (wqX9_withFaces k t_4 r_4 (fun r_5 t_5 => (wqX0_bettiOf k t_5 r_5 (li 2) 0 (fun r_6 t_6 => Q r_6 t_6))))))) ∧ ((r_2 = 0) → rec 1 t li lj Q))))
def wbX11_levelBetti_1 (rec : Nat → XT → (Nat → Int32) → (Nat → Int64) → (Int32 → XT → Prop) → Prop) (k : Nat) (t : XT) (li : Nat → Int32) (lj : Nat → Int64) (Q : Int32 → XT → Prop) : Prop :=
  Q (-1) t
def wpX11_levelBetti : Nat → Nat → XT → (Nat → Int32) → (Nat → Int64) → (Int32 → XT → Prop) → Prop
  | 0, _, _, _, _, _ => False
  | k + 1, 0, t, li, lj, Q => wbX11_levelBetti_0 (wpX11_levelBetti k) k t li lj Q
  | k + 1, 1, t, li, lj, Q => wbX11_levelBetti_1 (wpX11_levelBetti k) k t li lj Q
  | _ + 1, _, _, _, _, _ => False
def wqX11_levelBetti (k : Nat) (t : XT) (a1 : Int32) (a2 : Int32) (Q : Int32 → XT → Prop) : Prop := wpX11_levelBetti k 0 t (uI (uI (fun _ => 0) 1 a1) 2 a2) (fun _ => 0) Q
set_option maxHeartbeats 8000000 in
set_option maxRecDepth 100000 in
theorem wkX11_levelBetti (l : Launch) (D : va_G) (cI cJ cB cZ : ClassId) (ad : Nat → Nat) (k : Nat) (t : XT) (a1 : Int32) (a2 : Int32) (Q : Int32 → XT → Prop) (hR : wqX11_levelBetti k t a1 a2 Q) : MetI l yX11_levelBetti wsX11_levelBetti 7 172 0 0 D (TYS cI cJ cB cZ) (wX cI cJ cB cZ ad t) [.ref (ad 0), .int a1, .int a2] (fun r u => Q r u) (fun u : XT => (wX cI cJ cB cZ ad u)) := by
  refine x_startI (ty := .int) (cc := cX11_levelBetti) (by decide) rfl (Nat.le_of_ble_eq_true rfl) ?_
  intro p e s m args below meth c A ls B hr hnm h hl
  have hx := B.1.1
  have hb := B.1.2.1
  have hml := B.1.2.2.1
  have hts := B.1.2.2.2.2
  have hown : s.vm.findClass RX11 = some m.cls := B.1.2.2.2.1
  have hin11 : ∀ w ∈ u_ws RX11 TX11 11, w ∈ wsX11_levelBetti := by decide +kernel
  have main : ∀ k : Nat, (∀ (t : XT) (li : Nat → Int32) (lj : Nat → Int64) (H : Heap) (locs : List Loc) (ls : Array Slot), wpX11_levelBetti k 0 t li lj Q → lv_has ls 3 [(0, .ref (ad 0)), (1, .int (li 1)), (2, .int (li 2))] → Hp D A s.heap (wX cI cJ cB cZ ad t) H locs → W p l e { frames := 7, cells := 0, slots := 0, locals := 172 } s m args below meth c H locs 0 0 (MQ below (va_Qi (fun r u => Q r u) (fun u t => xEnd D ((fun u : XT => (wX cI cJ cB cZ ad u)) u) A t) A) args s 0 0 A) (F0 m 0 ls [])) ∧
      (∀ (t : XT) (li : Nat → Int32) (lj : Nat → Int64) (H : Heap) (locs : List Loc) (ls : Array Slot), wpX11_levelBetti k 1 t li lj Q → lv_has ls 3 [(0, .ref (ad 0)), (1, .int (li 1)), (2, .int (li 2))] → Hp D A s.heap (wX cI cJ cB cZ ad t) H locs → W p l e { frames := 7, cells := 0, slots := 0, locals := 172 } s m args below meth c H locs 0 0 (MQ below (va_Qi (fun r u => Q r u) (fun u t => xEnd D ((fun u : XT => (wX cI cJ cB cZ ad u)) u) A t) A) args s 0 0 A) (F0 m 11 ls [])) := by
    intro k
    induction k with
    | zero => exact ⟨fun _ _ _ _ _ _ hR => False.elim hR, fun _ _ _ _ _ _ hR => False.elim hR⟩
    | succ k ih =>
      refine ⟨?_, ?_⟩
      · intro t li lj H locs ls hR hl h
        have hR : wbX11_levelBetti_0 (wpX11_levelBetti k) k t li lj Q := hR
        unfold wbX11_levelBetti_0 at hR
        refine lv_iload_n hx hb dX11_levelBetti_0 rfl (lv_at hl 1 rfl) ?_
        refine lv_if_lt (tgt := 11) hx hb dX11_levelBetti_1 (by decide) (fun c_1 => ?_) (fun c_1 => ?_)
        · have hR := hR.1 c_1
          exact ih.2 t li lj H locs ls hR (lv_sub hl [0, 1, 2] rfl) h
        · have hR := hR.2 c_1
          refine lv_iload_n hx hb dX11_levelBetti_4 rfl (lv_at hl 2 rfl) ?_
          refine x_cSIE (n := 1) (As := [.int (li 2)]) (rest := []) B h (wkX11_isDim l D cI cJ cB cZ ad k (li 2) _ hR) ⟨⟨_, rfl⟩, by decide +kernel, Nat.le_of_ble_eq_true rfl, Nat.le_of_ble_eq_true rfl⟩ gX11_levelBetti_X11_isDim rfl hl.1 rfl (Nat.le_of_ble_eq_true rfl) dX11_levelBetti_5 ⟨Nat.le_of_ble_eq_true rfl, Nat.le_of_ble_eq_true rfl⟩ (fun r_2 _ H locs hR h => ?_)
          refine lv_if_ne (tgt := 13) hx hb dX11_levelBetti_8 (by decide) (fun c_3 => ?_) (fun c_3 => ?_)
          · have hR := hR.1 c_3
            refine lv_aload_n hx hb dX11_levelBetti_13 rfl (lv_at hl 0 rfl) ?_
            refine x_get (ci := 11) (C := RX11) (T := TX11) (N := 11) (v := .ref (ad 8)) B h hin11 0 7 rfl rfl (by decide) (by decide +kernel) rfl dX11_levelBetti_14 ?_
            refine lv_aload_n hx hb dX11_levelBetti_17 rfl (lv_at hl 0 rfl) ?_
            refine x_get (ci := 11) (C := RX11) (T := TX11) (N := 11) (v := .ref (ad 3)) B h hin11 0 2 rfl rfl (by decide) (by decide +kernel) rfl dX11_levelBetti_18 ?_
            refine lv_aload_n hx hb dX11_levelBetti_21 rfl (lv_at hl 0 rfl) ?_
            refine x_get (ci := 11) (C := RX11) (T := TX11) (N := 11) (v := .ref (ad 6)) B h hin11 0 5 rfl rfl (by decide) (by decide +kernel) rfl dX11_levelBetti_22 ?_
            refine lv_iload_n hx hb dX11_levelBetti_25 rfl (lv_at hl 1 rfl) ?_
            refine x_cVLF (n := 1) (As := [.int (li 1)]) (rest := [.ref (ad 3), .ref (ad 8)]) B h (wkX2_upTo l D cI cJ cB cZ ad k t (li 1) _ hR) ⟨⟨_, rfl⟩, by decide +kernel, Nat.le_of_ble_eq_true rfl, Nat.le_of_ble_eq_true rfl⟩ gX11_levelBetti_X2_upTo (show ((wX cI cJ cB cZ ad t) : va_W)[6]? = some (_, .inr (2, _)) from rfl) rfl rfl hl.1 rfl (Nat.le_of_ble_eq_true rfl) dX11_levelBetti_26 ⟨Nat.le_of_ble_eq_true rfl, Nat.le_of_ble_eq_true rfl⟩ (fun r_4 t_4 H locs hR h => ?_)
            refine x_cVLF (n := 1) (As := [.long r_4]) (rest := [.ref (ad 8)]) B h (wkX9_withFaces l D cI cJ cB cZ ad k t_4 r_4 _ hR) ⟨⟨_, rfl⟩, by decide +kernel, Nat.le_of_ble_eq_true rfl, Nat.le_of_ble_eq_true rfl⟩ gX11_levelBetti_X9_withFaces (show ((wX cI cJ cB cZ ad t_4) : va_W)[3]? = some (_, .inr (9, _)) from rfl) rfl rfl hl.1 rfl (Nat.le_of_ble_eq_true rfl) dX11_levelBetti_29 ⟨Nat.le_of_ble_eq_true rfl, Nat.le_of_ble_eq_true rfl⟩ (fun r_5 t_5 H locs hR h => ?_)
            refine lv_iload_n hx hb dX11_levelBetti_32 rfl (lv_at hl 2 rfl) ?_
            refine lv_iconst (v := 0) hx hb dX11_levelBetti_33 (by decide) ?_
            refine x_cVIF (n := 3) (As := [.long r_5, .int (li 2), .int 0]) (rest := []) B h (wkX0_bettiOf l D cI cJ cB cZ ad k t_5 r_5 (li 2) 0 _ hR) ⟨⟨_, rfl⟩, by decide +kernel, Nat.le_of_ble_eq_true rfl, Nat.le_of_ble_eq_true rfl⟩ gX11_levelBetti_X0_bettiOf (show ((wX cI cJ cB cZ ad t_5) : va_W)[8]? = some (_, .inr (0, _)) from rfl) rfl rfl hl.1 rfl (Nat.le_of_ble_eq_true rfl) dX11_levelBetti_34 ⟨Nat.le_of_ble_eq_true rfl, Nat.le_of_ble_eq_true rfl⟩ (fun r_6 t_6 H locs hR h => ?_)
            exact x_iret (w1 := (fun u : XT => (wX cI cJ cB cZ ad u))) t_6 B h hr rfl hR dX11_levelBetti_37
          · have hR := hR.2 c_3
            exact ih.2 t li lj H locs ls hR (lv_sub hl [0, 1, 2] rfl) h
      · intro t li lj H locs ls hR hl h
        have hR : wbX11_levelBetti_1 (wpX11_levelBetti k) k t li lj Q := hR
        unfold wbX11_levelBetti_1 at hR
        refine lv_iconst (v := (-1)) hx hb dX11_levelBetti_11 (by decide) ?_
        exact x_iret (w1 := (fun u : XT => (wX cI cJ cB cZ ad u))) t B h hr rfl hR dX11_levelBetti_12
  exact (main k).1 t _ _ s.heap [] ls hR hl h
set_option maxRecDepth 20000 in
theorem ggX4_store_X11_bit : GoodIn wsX4_store wsX11_bit := goodIn_r _ [10] (by decide +kernel) (by decide +kernel)
set_option maxRecDepth 20000 in
theorem gX4_store_X11_bit_n30 : GoodIn wsX4_store (wsX11_bit) := ggX4_store_X11_bit
def wbX4_store_c4_0 (rec : Nat → XT → (Nat → Int32) → (Nat → Int64) → (XT → Prop) → Prop) (k : Nat) (t : XT) (li : Nat → Int32) (lj : Nat → Int64) (Q : XT → Prop) : Prop :=
  (∀ v_1 : Int32, v_1 = ((li 1) * 64) → ((¬ (0 : Int32) < 0) ∧ (¬ v_1 < 0) ∧ (¬ (64 : Int32) < 0) ∧ ((0 : Int32).toNatClampNeg + (64 : Int32).toNatClampNeg ≤ 64) ∧ (v_1.toNatClampNeg + (64 : Int32).toNatClampNeg ≤ 192) ∧ (∀ t_2 : XT, t_2 = sA t 10 (va_cpy (t.2.2.1 5) (t.2.2.1 10) (0 : Int32).toNatClampNeg v_1.toNatClampNeg (64 : Int32).toNatClampNeg) → (wqX11_bit k (li 1) (fun r_3 => (∀ v_4 : Int64, v_4 = ((t_2.2.1 6) ||| r_3) → (∀ t_5 : XT, t_5 = sJ t_2 6 v_4 → Q t_5)))))))
def wpX4_store_c4 : Nat → Nat → XT → (Nat → Int32) → (Nat → Int64) → (XT → Prop) → Prop
  | 0, _, _, _, _, _ => False
  | k + 1, 0, t, li, lj, Q => wbX4_store_c4_0 (wpX4_store_c4 k) k t li lj Q
  | _ + 1, _, _, _, _, _ => False
def wqX4_store_c4 (k : Nat) (t : XT) (a1 : Int32) (Q : XT → Prop) : Prop := wpX4_store_c4 k 0 t (uI (fun _ => 0) 1 a1) (fun _ => 0) Q
set_option maxHeartbeats 8000000 in
set_option maxRecDepth 100000 in
theorem wkX4_store_c4 (l : Launch) (D : va_G) (cI cJ cB cZ : ClassId) (ad : Nat → Nat) (k : Nat) (t : XT) (a1 : Int32) (Q : XT → Prop) (hR : wqX4_store_c4 k t a1 Q) : MetV l yX4_store wsX4_store 1 64 0 0 D (TYS cI cJ cB cZ) (wX cI cJ cB cZ ad t) [.ref (ad 10), .int a1, .ref (ad 4)] (fun u => Q u) (fun u : XT => (wX cI cJ cB cZ ad u)) := by
  refine x_startV (ty := .int) (cc := cX4_store) (by decide) rfl (Nat.le_of_ble_eq_true rfl) ?_
  intro p e s m args below meth c A ls B hr hnm h hl
  have hx := B.1.1
  have hb := B.1.2.1
  have hml := B.1.2.2.1
  have hts := B.1.2.2.2.2
  have hown : s.vm.findClass RX4 = some m.cls := B.1.2.2.2.1
  have hin4 : ∀ w ∈ u_ws RX4 TX4 2, w ∈ wsX4_store := by decide +kernel
  have hin6 : ∀ w ∈ u_ws RX6 TX6 6, w ∈ wsX4_store := by decide +kernel
  have main : ∀ k : Nat, (∀ (t : XT) (li : Nat → Int32) (lj : Nat → Int64) (H : Heap) (locs : List Loc) (ls : Array Slot), wpX4_store_c4 k 0 t li lj Q → lv_has ls 3 [(0, .ref (ad 10)), (1, .int (li 1)), (2, .ref (ad 4))] → Hp D A s.heap (wX cI cJ cB cZ ad t) H locs → W p l e { frames := 1, cells := 0, slots := 0, locals := 64 } s m args below meth c H locs 0 0 (MQ below (va_Qv (fun u => Q u) (fun u t => xEnd D ((fun u : XT => (wX cI cJ cB cZ ad u)) u) A t) A) args s 0 0 A) (F0 m 0 ls [])) := by
    intro k
    induction k with
    | zero => exact fun _ _ _ _ _ _ hR => False.elim hR
    | succ k ih =>
      intro t li lj H locs ls hR hl h
      have hR : wbX4_store_c4_0 (wpX4_store_c4 k) k t li lj Q := hR
      unfold wbX4_store_c4_0 at hR
      refine lv_aload_n hx hb dX4_store_0 rfl (lv_at hl 2 rfl) ?_
      refine x_get (ci := 6) (C := RX6) (T := TX6) (N := 6) (v := .ref (ad 20)) B h hin6 4 1 rfl rfl (by decide) (by decide +kernel) rfl dX4_store_1 ?_
      refine lv_iconst (v := 0) hx hb dX4_store_4 (by decide) ?_
      refine lv_aload_n hx hb dX4_store_5 rfl (lv_at hl 0 rfl) ?_
      refine x_get (ci := 4) (C := RX4) (T := TX4) (N := 2) (v := .ref (ad 29)) B h hin4 10 0 rfl rfl (by decide) (by decide +kernel) rfl dX4_store_6 ?_
      refine lv_iload_n hx hb dX4_store_9 rfl (lv_at hl 1 rfl) ?_
      refine lv_bipush (v := 64) hx hb dX4_store_10 (by decide) ?_
      refine lv_imul hx hb dX4_store_12 ?_
      refine lv_topi (fun v_1 ev_1 => ?_)
      have hR := hR v_1 ev_1
      refine lv_bipush (v := 64) hx hb dX4_store_13 (by decide) ?_
      obtain ⟨h1_2, h2_2, h3_2, h4_2, h5_2, hR⟩ := hR
      refine va_copyi (f := (t.2.2.1 5)) (g := (t.2.2.1 10)) hx hb (hml.trans hl.1.symm) hown (hts (.methodLink RX4 24 arraycopyName) (by decide +kernel)) (hts (.native arraycopyName) (by decide +kernel)) (hts (.static arraycopyName) (by decide +kernel)) (hts (.initialized "java/lang/System") (by decide +kernel)) B.2.1 h.1 h.2.1 h.2.2.1 20 29 0 0 rfl rfl rfl rfl rfl h1_2 h2_2 h3_2 h4_2 h5_2 (fun _ _ => rfl) (Nat.le_of_ble_eq_true rfl) (by decide) dX4_store_15 (fun H locs hP hD hS => ?_)
      have h : Hp D A s.heap _ H locs := ⟨hP, hD, hS, h.2.2.2⟩
      obtain ⟨t_2, et_2⟩ : ∃ v : XT, v = sA t 10 (va_cpy (t.2.2.1 5) (t.2.2.1 10) (0 : Int32).toNatClampNeg v_1.toNatClampNeg (64 : Int32).toNatClampNeg) := ⟨_, rfl⟩
      have hR := hR t_2 et_2
      have h : Hp D A s.heap (wX cI cJ cB cZ ad t_2) H locs := by rw [et_2]; exact h
      refine lv_aload_n hx hb dX4_store_18 rfl (lv_at hl 0 rfl) ?_
      refine lv_dup hx hb dX4_store_19 rfl ?_
      refine x_get (ci := 4) (C := RX4) (T := TX4) (N := 2) (v := .long (t_2.2.1 6)) B h hin4 10 1 rfl rfl (by decide) (by decide +kernel) rfl dX4_store_20 ?_
      refine lv_iload_n hx hb dX4_store_23 rfl (lv_at hl 1 rfl) ?_
      refine x_cNLE (n := 1) (As := [.int (li 1)]) (rest := [.long (t_2.2.1 6), .ref (ad 10)]) B h (wkX11_bit l D cI cJ cB cZ ad k (li 1) _ hR) ⟨⟨_, rfl⟩, by decide +kernel, Nat.le_of_ble_eq_true rfl, Nat.le_of_ble_eq_true rfl⟩ gX4_store_X11_bit_n30 (by decide +kernel) (by decide +kernel) (host := "MorseDesk") (by decide +kernel) rfl hl.1 rfl (Nat.le_of_ble_eq_true rfl) dX4_store_24 ⟨Nat.le_of_ble_eq_true rfl, Nat.le_of_ble_eq_true rfl⟩ (fun r_3 _ H locs hR h => ?_)
      refine lv_lor hx hb dX4_store_27 ?_
      refine lv_topl (fun v_4 ev_4 => ?_)
      have hR := hR v_4 ev_4
      refine x_put (ci := 4) (C := RX4) (T := TX4) (N := 2) (v := .long v_4) (ty := .long) B h hin4 tyX4 tyX4_ok nmX4 10 1 rfl rfl (by decide) (by decide +kernel) rfl rfl rfl rfl (Nat.le_of_ble_eq_true rfl) dX4_store_28 (fun H locs h => ?_)
      obtain ⟨t_5, et_5⟩ : ∃ v : XT, v = sJ t_2 6 v_4 := ⟨_, rfl⟩
      have hR := hR t_5 et_5
      have h : Hp D A s.heap (wX cI cJ cB cZ ad t_5) H locs := by rw [et_5]; exact h
      exact x_vret (w1 := (fun u : XT => (wX cI cJ cB cZ ad u))) t_5 B h hr hR dX4_store_31
  exact (main k) t _ _ s.heap [] ls hR hl h
