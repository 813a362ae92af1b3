set_option maxRecDepth 20000 in
theorem ggX11_roomAbove_X11_isIn : GoodIn wsX11_roomAbove wsX11_isIn := goodIn_r _ [7] (by decide +kernel) (by decide +kernel)
set_option maxRecDepth 20000 in
theorem gX11_roomAbove_X11_isIn : GoodIn wsX11_roomAbove (va_wsS RX11 168 yX11_isIn wsX11_isIn) := goodIn_app (goodIn_of _ (by decide +kernel)) ggX11_roomAbove_X11_isIn
set_option maxRecDepth 20000 in
theorem ggX11_roomAbove_X6_staysAcyclic : GoodIn wsX11_roomAbove wsX6_staysAcyclic := goodIn_r _ [12, 13, 14, 15, 16, 17, 18, 6, 19, 20, 21, 22, 23, 24, 25, 26, 27, 28, 5, 7, 47, 48, 49, 50, 51, 52, 40, 41, 42, 43, 44, 45, 46] (by decide +kernel) (by decide +kernel)
set_option maxRecDepth 20000 in
theorem gX11_roomAbove_X6_staysAcyclic : GoodIn wsX11_roomAbove (wsV RX11 175 RX6 yX6_staysAcyclic wsX6_staysAcyclic) := goodIn_app (goodIn_of _ (by decide +kernel)) ggX11_roomAbove_X6_staysAcyclic
def wbX11_roomAbove_0 (rec : Nat → XT → (Nat → Int32) → (Nat → Int64) → (Int32 → XT → Prop) → Prop) (k : Nat) (t : XT) (li : Nat → Int32) (lj : Nat → Int64) (Q : Int32 → XT → Prop) : Prop :=
  (∀ v_1 : Int32, v_1 = ((li 1) + 1) → rec 1 t (uI (uI li 4 0) 5 v_1) lj Q)
def wbX11_roomAbove_1 (rec : Nat → XT → (Nat → Int32) → (Nat → Int64) → (Int32 → XT → Prop) → Prop) (k : Nat) (t : XT) (li : Nat → Int32) (lj : Nat → Int64) (Q : Int32 → XT → Prop) : Prop :=
  ((((t.1 4) : Int32) ≤ (li 5)) → Q (li 4) t) ∧ (¬ (((t.1 4) : Int32) ≤ (li 5)) → (wqX11_isIn k (lj 2) (li 5) (fun r_3 => ((r_3 = 0) → rec 2 t li lj Q) ∧ (¬ (r_3 = 0) → (wqX6_staysAcyclic k t (li 1) (li 5) (fun r_5 t_5 => ((r_5 = 0) → rec 2 t_5 li lj Q) ∧ (¬ (r_5 = 0) → (∀ v_7 : Int32, v_7 = (li 4) + Int32.ofInt 1 → rec 2 t_5 (uI li 4 v_7) lj Q))))))))
def wbX11_roomAbove_2 (rec : Nat → XT → (Nat → Int32) → (Nat → Int64) → (Int32 → XT → Prop) → Prop) (k : Nat) (t : XT) (li : Nat → Int32) (lj : Nat → Int64) (Q : Int32 → XT → Prop) : Prop :=
  (∀ v_8 : Int32, v_8 = (li 5) + Int32.ofInt 1 → rec 1 t (uI li 5 v_8) lj Q)
def wpX11_roomAbove : Nat → Nat → XT → (Nat → Int32) → (Nat → Int64) → (Int32 → XT → Prop) → Prop
  | 0, _, _, _, _, _ => False
  | k + 1, 0, t, li, lj, Q => wbX11_roomAbove_0 (wpX11_roomAbove k) k t li lj Q
  | k + 1, 1, t, li, lj, Q => wbX11_roomAbove_1 (wpX11_roomAbove k) k t li lj Q
  | k + 1, 2, t, li, lj, Q => wbX11_roomAbove_2 (wpX11_roomAbove k) k t li lj Q
  | _ + 1, _, _, _, _, _ => False
def wqX11_roomAbove (k : Nat) (t : XT) (a1 : Int32) (a2 : Int64) (Q : Int32 → XT → Prop) : Prop := wpX11_roomAbove k 0 t (uI (fun _ => 0) 1 a1) (uI (fun _ => 0) 2 a2) Q
set_option maxHeartbeats 8000000 in
set_option maxRecDepth 100000 in
theorem wkX11_roomAbove (l : Launch) (D : va_G) (cI cJ cB cZ : ClassId) (ad : Nat → Nat) (k : Nat) (t : XT) (a1 : Int32) (a2 : Int64) (Q : Int32 → XT → Prop) (hR : wqX11_roomAbove k t a1 a2 Q) : MetI l yX11_roomAbove wsX11_roomAbove 3 72 0 0 D (TYS cI cJ cB cZ) (wX cI cJ cB cZ ad t) [.ref (ad 0), .int a1, .long a2] (fun r u => Q r u) (fun u : XT => (wX cI cJ cB cZ ad u)) := by
  refine x_startI (ty := .int) (cc := cX11_roomAbove) (by decide) rfl (Nat.le_of_ble_eq_true rfl) ?_
  intro p e s m args below meth c A ls B hr hnm h hl
  have hx := B.1.1
  have hb := B.1.2.1
  have hml := B.1.2.2.1
  have hts := B.1.2.2.2.2
  have hown : s.vm.findClass RX11 = some m.cls := B.1.2.2.2.1
  have hin9 : ∀ w ∈ u_ws RX9 TX9 7, w ∈ wsX11_roomAbove := by decide +kernel
  have hin11 : ∀ w ∈ u_ws RX11 TX11 11, w ∈ wsX11_roomAbove := by decide +kernel
  have main : ∀ k : Nat, (∀ (t : XT) (li : Nat → Int32) (lj : Nat → Int64) (H : Heap) (locs : List Loc) (ls : Array Slot), wpX11_roomAbove k 0 t li lj Q → lv_has ls 6 [(0, .ref (ad 0)), (1, .int (li 1)), (2, .long (lj 2))] → Hp D A s.heap (wX cI cJ cB cZ ad t) H locs → W p l e { frames := 3, cells := 0, slots := 0, locals := 72 } s m args below meth c H locs 0 0 (MQ below (va_Qi (fun r u => Q r u) (fun u t => xEnd D ((fun u : XT => (wX cI cJ cB cZ ad u)) u) A t) A) args s 0 0 A) (F0 m 0 ls [])) ∧
      (∀ (t : XT) (li : Nat → Int32) (lj : Nat → Int64) (H : Heap) (locs : List Loc) (ls : Array Slot), wpX11_roomAbove k 1 t li lj Q → lv_has ls 6 [(0, .ref (ad 0)), (1, .int (li 1)), (2, .long (lj 2)), (4, .int (li 4)), (5, .int (li 5))] → Hp D A s.heap (wX cI cJ cB cZ ad t) H locs → W p l e { frames := 3, cells := 0, slots := 0, locals := 72 } s m args below meth c H locs 0 0 (MQ below (va_Qi (fun r u => Q r u) (fun u t => xEnd D ((fun u : XT => (wX cI cJ cB cZ ad u)) u) A t) A) args s 0 0 A) (F0 m 8 ls [])) ∧
      (∀ (t : XT) (li : Nat → Int32) (lj : Nat → Int64) (H : Heap) (locs : List Loc) (ls : Array Slot), wpX11_roomAbove k 2 t li lj Q → lv_has ls 6 [(0, .ref (ad 0)), (1, .int (li 1)), (2, .long (lj 2)), (4, .int (li 4)), (5, .int (li 5))] → Hp D A s.heap (wX cI cJ cB cZ ad t) H locs → W p l e { frames := 3, cells := 0, slots := 0, locals := 72 } s m args below meth c H locs 0 0 (MQ below (va_Qi (fun r u => Q r u) (fun u t => xEnd D ((fun u : XT => (wX cI cJ cB cZ ad u)) u) A t) A) args s 0 0 A) (F0 m 45 ls [])) := by
    intro k
    induction k with
    | zero => exact ⟨fun _ _ _ _ _ _ hR => False.elim hR, fun _ _ _ _ _ _ hR => False.elim hR, fun _ _ _ _ _ _ hR => False.elim hR⟩
    | succ k ih =>
      refine ⟨?_, ?_, ?_⟩
      · intro t li lj H locs ls hR hl h
        have hR : wbX11_roomAbove_0 (wpX11_roomAbove k) k t li lj Q := hR
        unfold wbX11_roomAbove_0 at hR
        refine lv_iconst (v := 0) hx hb dX11_roomAbove_0 (by decide) ?_
        refine lv_istore (lv' := [(4, .int 0), (0, .ref (ad 0)), (1, .int (li 1)), (2, .long (lj 2))]) hx hb dX11_roomAbove_1 hl (by decide) rfl (fun ls hl => ?_)
        refine lv_iload_n hx hb dX11_roomAbove_3 rfl (lv_at hl 2 rfl) ?_
        refine lv_iconst (v := 1) hx hb dX11_roomAbove_4 (by decide) ?_
        refine lv_iadd hx hb dX11_roomAbove_5 ?_
        refine lv_topi (fun v_1 ev_1 => ?_)
        have hR := hR v_1 ev_1
        refine lv_istore (lv' := [(5, .int v_1), (4, .int 0), (0, .ref (ad 0)), (1, .int (li 1)), (2, .long (lj 2))]) hx hb dX11_roomAbove_6 hl (by decide) rfl (fun ls hl => ?_)
        exact ih.2.1 t (uI (uI li 4 0) 5 v_1) lj H locs ls hR (lv_sub hl [2, 3, 4, 1, 0] rfl) h
      · intro t li lj H locs ls hR hl h
        have hR : wbX11_roomAbove_1 (wpX11_roomAbove k) k t li lj Q := hR
        unfold wbX11_roomAbove_1 at hR
        refine lv_iload hx hb dX11_roomAbove_8 (lv_at hl 4 rfl) ?_
        refine lv_aload_n hx hb dX11_roomAbove_10 rfl (lv_at hl 0 rfl) ?_
        refine x_get (ci := 11) (C := RX11) (T := TX11) (N := 11) (v := .ref (ad 3)) B h hin11 0 2 rfl rfl (by decide) (by decide +kernel) rfl dX11_roomAbove_11 ?_
        refine x_get (ci := 9) (C := RX9) (T := TX9) (N := 7) (v := .int (t.1 4)) B h hin9 3 0 rfl rfl (by decide) (by decide +kernel) rfl dX11_roomAbove_14 ?_
        refine lv_icmp_ge (tgt := 51) hx hb dX11_roomAbove_17 (by decide) (fun c_2 => ?_) (fun c_2 => ?_)
        · have hR := hR.1 c_2
          refine lv_iload hx hb dX11_roomAbove_51 (lv_at hl 3 rfl) ?_
          exact x_iret (w1 := (fun u : XT => (wX cI cJ cB cZ ad u))) t B h hr rfl hR dX11_roomAbove_53
        · have hR := hR.2 c_2
          refine lv_lload_n hx hb dX11_roomAbove_20 rfl (lv_at hl 2 rfl) ?_
          refine lv_iload hx hb dX11_roomAbove_21 (lv_at hl 4 rfl) ?_
          refine x_cSIE (n := 2) (As := [.long (lj 2), .int (li 5)]) (rest := []) B h (wkX11_isIn l D cI cJ cB cZ ad k (lj 2) (li 5) _ hR) ⟨⟨_, rfl⟩, by decide +kernel, Nat.le_of_ble_eq_true rfl, Nat.le_of_ble_eq_true rfl⟩ gX11_roomAbove_X11_isIn rfl hl.1 rfl (Nat.le_of_ble_eq_true rfl) dX11_roomAbove_23 ⟨Nat.le_of_ble_eq_true rfl, Nat.le_of_ble_eq_true rfl⟩ (fun r_3 _ H locs hR h => ?_)
          refine lv_if_eq (tgt := 45) hx hb dX11_roomAbove_26 (by decide) (fun c_4 => ?_) (fun c_4 => ?_)
          · have hR := hR.1 c_4
            exact ih.2.2 t li lj H locs ls hR (lv_sub hl [0, 1, 2, 3, 4] rfl) h
          · have hR := hR.2 c_4
            refine lv_aload_n hx hb dX11_roomAbove_29 rfl (lv_at hl 0 rfl) ?_
            refine x_get (ci := 11) (C := RX11) (T := TX11) (N := 11) (v := .ref (ad 4)) B h hin11 0 3 rfl rfl (by decide) (by decide +kernel) rfl dX11_roomAbove_30 ?_
            refine lv_iload_n hx hb dX11_roomAbove_33 rfl (lv_at hl 1 rfl) ?_
            refine lv_iload hx hb dX11_roomAbove_34 (lv_at hl 4 rfl) ?_
            refine x_cVIF (n := 2) (As := [.int (li 1), .int (li 5)]) (rest := []) B h (wkX6_staysAcyclic l D cI cJ cB cZ ad k t (li 1) (li 5) _ hR) ⟨⟨_, rfl⟩, by decide +kernel, Nat.le_of_ble_eq_true rfl, Nat.le_of_ble_eq_true rfl⟩ gX11_roomAbove_X6_staysAcyclic (show ((wX cI cJ cB cZ ad t) : va_W)[4]? = some (_, .inr (6, _)) from rfl) rfl rfl hl.1 rfl (Nat.le_of_ble_eq_true rfl) dX11_roomAbove_36 ⟨Nat.le_of_ble_eq_true rfl, Nat.le_of_ble_eq_true rfl⟩ (fun r_5 t_5 H locs hR h => ?_)
            refine lv_if_eq (tgt := 45) hx hb dX11_roomAbove_39 (by decide) (fun c_6 => ?_) (fun c_6 => ?_)
            · have hR := hR.1 c_6
              exact ih.2.2 t_5 li lj H locs ls hR (lv_sub hl [0, 1, 2, 3, 4] rfl) h
            · have hR := hR.2 c_6
              obtain ⟨v_7, ev_7⟩ : ∃ v : Int32, v = (li 4) + Int32.ofInt 1 := ⟨_, rfl⟩
              have hR := hR v_7 ev_7
              refine lv_iinc (v := v_7) (lv' := [(4, .int v_7), (0, .ref (ad 0)), (1, .int (li 1)), (2, .long (lj 2)), (5, .int (li 5))]) hx hb dX11_roomAbove_42 hl (k := 3) rfl ev_7.symm (by decide) rfl (fun ls hl => ?_)
              exact ih.2.2 t_5 (uI li 4 v_7) lj H locs ls hR (lv_sub hl [1, 2, 3, 0, 4] rfl) h
      · intro t li lj H locs ls hR hl h
        have hR : wbX11_roomAbove_2 (wpX11_roomAbove k) k t li lj Q := hR
        unfold wbX11_roomAbove_2 at hR
        obtain ⟨v_8, ev_8⟩ : ∃ v : Int32, v = (li 5) + Int32.ofInt 1 := ⟨_, rfl⟩
        have hR := hR v_8 ev_8
        refine lv_iinc (v := v_8) (lv' := [(5, .int v_8), (0, .ref (ad 0)), (1, .int (li 1)), (2, .long (lj 2)), (4, .int (li 4))]) hx hb dX11_roomAbove_45 hl (k := 4) rfl ev_8.symm (by decide) rfl (fun ls hl => ?_)
        refine lv_goto (tgt := 8) hx hb dX11_roomAbove_48 (by decide) ?_
        exact ih.2.1 t (uI li 5 v_8) lj H locs ls hR (lv_sub hl [1, 2, 3, 4, 0] rfl) h
  exact (main k).1 t _ _ s.heap [] ls hR hl h
set_option maxRecDepth 20000 in
theorem ggX11_room_X11_isDim : GoodIn wsX11_room wsX11_isDim := goodIn_r _ [9] (by decide +kernel) (by decide +kernel)
set_option maxRecDepth 20000 in
theorem gX11_room_X11_isDim : GoodIn wsX11_room (va_wsS RX11 229 yX11_isDim wsX11_isDim) := goodIn_app (goodIn_of _ (by decide +kernel)) ggX11_room_X11_isDim
set_option maxRecDepth 20000 in
theorem ggX11_room_X6_unpaired : GoodIn wsX11_room wsX6_unpaired := goodIn_r _ [14, 15, 16, 17, 18, 62, 63, 64, 65, 66, 67] (by decide +kernel) (by decide +kernel)
set_option maxRecDepth 20000 in
theorem gX11_room_X6_unpaired : GoodIn wsX11_room (wsV RX11 232 RX6 yX6_unpaired wsX6_unpaired) := goodIn_app (goodIn_of _ (by decide +kernel)) ggX11_room_X6_unpaired
set_option maxRecDepth 20000 in
theorem ggX11_room_X11_isIn : GoodIn wsX11_room wsX11_isIn := goodIn_r _ [21] (by decide +kernel) (by decide +kernel)
set_option maxRecDepth 20000 in
theorem gX11_room_X11_isIn : GoodIn wsX11_room (va_wsS RX11 168 yX11_isIn wsX11_isIn) := goodIn_app (goodIn_of _ (by decide +kernel)) ggX11_room_X11_isIn
set_option maxRecDepth 20000 in
theorem ggX11_room_X11_roomAbove : GoodIn wsX11_room wsX11_roomAbove := goodIn_r _ [25, 2, 3, 1, 19, 20, 8, 21, 26, 27, 28, 13, 29, 30, 31, 18, 16, 32, 33, 34, 35, 36, 37, 38, 39, 40, 41, 42, 43, 44, 45, 46, 47, 48, 49, 50, 51, 52, 53, 54, 55, 56, 57, 58, 59, 60, 61, 62, 63, 64, 65, 66, 67] (by decide +kernel) (by decide +kernel)
set_option maxRecDepth 20000 in
theorem gX11_room_X11_roomAbove : GoodIn wsX11_room (wsV RX11 287 RX11 yX11_roomAbove wsX11_roomAbove) := goodIn_app (goodIn_of _ (by decide +kernel)) ggX11_room_X11_roomAbove
def wbX11_room_0 (rec : Nat → XT → (Nat → Int32) → (Nat → Int64) → (Int32 → XT → Prop) → Prop) (k : Nat) (t : XT) (li : Nat → Int32) (lj : Nat → Int64) (Q : Int32 → XT → Prop) : Prop :=
  (wqX11_isDim k (li 1) (fun r_1 => ((¬ r_1 = 0) → (wqX6_unpaired k t  (fun r_3 t_3 => rec 1 t_3 (uI (uI li 2 0) 5 0) (uI lj 3 r_3) Q))) ∧ ((r_1 = 0) → Q (-1) t)))
def wbX11_room_1 (rec : Nat → XT → (Nat → Int32) → (Nat → Int64) → (Int32 → XT → Prop) → Prop) (k : Nat) (t : XT) (li : Nat → Int32) (lj : Nat → Int64) (Q : Int32 → XT → Prop) : Prop :=
  ((((t.1 4) : Int32) ≤ (li 5)) → Q (li 2) t) ∧ (¬ (((t.1 4) : Int32) ≤ (li 5)) → (wqX11_isIn k (lj 3) (li 5) (fun r_5 => ((r_5 = 0) → rec 2 t li lj Q) ∧ (¬ (r_5 = 0) → (vp_in (li 5) 64 ∧ (∀ v_7 : Int32, v_7 = (t.2.2.1 3) (li 5).toNatClampNeg → ((¬ v_7 = (li 1)) → rec 2 t li lj Q) ∧ ((v_7 = (li 1)) → (vp_in (li 5) 64 ∧ (∀ v_9 : Int64, v_9 = (t.2.2.2 1) (li 5).toNatClampNeg → (∀ v_10 : Int64, v_10 = (v_9 &&& (lj 3)) → (wqX11_roomAbove k t (li 5) v_10 (fun r_11 t_11 => (∀ v_12 : Int32, v_12 = ((li 2) + r_11) → rec 2 t_11 (uI li 2 v_12) lj Q)))))))))))))
def wbX11_room_2 (rec : Nat → XT → (Nat → Int32) → (Nat → Int64) → (Int32 → XT → Prop) → Prop) (k : Nat) (t : XT) (li : Nat → Int32) (lj : Nat → Int64) (Q : Int32 → XT → Prop) : Prop :=
  (∀ v_13 : Int32, v_13 = (li 5) + Int32.ofInt 1 → rec 1 t (uI li 5 v_13) lj Q)
def wpX11_room : Nat → Nat → XT → (Nat → Int32) → (Nat → Int64) → (Int32 → XT → Prop) → Prop
  | 0, _, _, _, _, _ => False
  | k + 1, 0, t, li, lj, Q => wbX11_room_0 (wpX11_room k) k t li lj Q
  | k + 1, 1, t, li, lj, Q => wbX11_room_1 (wpX11_room k) k t li lj Q
  | k + 1, 2, t, li, lj, Q => wbX11_room_2 (wpX11_room k) k t li lj Q
  | _ + 1, _, _, _, _, _ => False
def wqX11_room (k : Nat) (t : XT) (a1 : Int32) (Q : Int32 → XT → Prop) : Prop := wpX11_room k 0 t (uI (fun _ => 0) 1 a1) (fun _ => 0) Q
set_option maxHeartbeats 8000000 in
set_option maxRecDepth 100000 in
theorem wkX11_room (l : Launch) (D : va_G) (cI cJ cB cZ : ClassId) (ad : Nat → Nat) (k : Nat) (t : XT) (a1 : Int32) (Q : Int32 → XT → Prop) (hR : wqX11_room k t a1 Q) : MetI l yX11_room wsX11_room 4 97 0 0 D (TYS cI cJ cB cZ) (wX cI cJ cB cZ ad t) [.ref (ad 0), .int a1] (fun r u => Q r u) (fun u : XT => (wX cI cJ cB cZ ad u)) := by
  refine x_startI (ty := .int) (cc := cX11_room) (by decide) rfl (Nat.le_of_ble_eq_true rfl) ?_
  intro p e s m args below meth c A ls B hr hnm h hl
  have hx := B.1.1
  have hb := B.1.2.1
  have hml := B.1.2.2.1
  have hts := B.1.2.2.2.2
  have hown : s.vm.findClass RX11 = some m.cls := B.1.2.2.2.1
  have hin9 : ∀ w ∈ u_ws RX9 TX9 7, w ∈ wsX11_room := by decide +kernel
  have hin11 : ∀ w ∈ u_ws RX11 TX11 11, w ∈ wsX11_room := by decide +kernel
  have main : ∀ k : Nat, (∀ (t : XT) (li : Nat → Int32) (lj : Nat → Int64) (H : Heap) (locs : List Loc) (ls : Array Slot), wpX11_room k 0 t li lj Q → lv_has ls 6 [(0, .ref (ad 0)), (1, .int (li 1))] → Hp D A s.heap (wX cI cJ cB cZ ad t) H locs → W p l e { frames := 4, cells := 0, slots := 0, locals := 97 } s m args below meth c H locs 0 0 (MQ below (va_Qi (fun r u => Q r u) (fun u t => xEnd D ((fun u : XT => (wX cI cJ cB cZ ad u)) u) A t) A) args s 0 0 A) (F0 m 0 ls [])) ∧
      (∀ (t : XT) (li : Nat → Int32) (lj : Nat → Int64) (H : Heap) (locs : List Loc) (ls : Array Slot), wpX11_room k 1 t li lj Q → lv_has ls 6 [(0, .ref (ad 0)), (1, .int (li 1)), (2, .int (li 2)), (3, .long (lj 3)), (5, .int (li 5))] → Hp D A s.heap (wX cI cJ cB cZ ad t) H locs → W p l e { frames := 4, cells := 0, slots := 0, locals := 97 } s m args below meth c H locs 0 0 (MQ below (va_Qi (fun r u => Q r u) (fun u t => xEnd D ((fun u : XT => (wX cI cJ cB cZ ad u)) u) A t) A) args s 0 0 A) (F0 m 22 ls [])) ∧
      (∀ (t : XT) (li : Nat → Int32) (lj : Nat → Int64) (H : Heap) (locs : List Loc) (ls : Array Slot), wpX11_room k 2 t li lj Q → lv_has ls 6 [(0, .ref (ad 0)), (1, .int (li 1)), (2, .int (li 2)), (3, .long (lj 3)), (5, .int (li 5))] → Hp D A s.heap (wX cI cJ cB cZ ad t) H locs → W p l e { frames := 4, cells := 0, slots := 0, locals := 97 } s m args below meth c H locs 0 0 (MQ below (va_Qi (fun r u => Q r u) (fun u t => xEnd D ((fun u : XT => (wX cI cJ cB cZ ad u)) u) A t) A) args s 0 0 A) (F0 m 78 ls [])) := by
    intro k
    induction k with
    | zero => exact ⟨fun _ _ _ _ _ _ hR => False.elim hR, fun _ _ _ _ _ _ hR => False.elim hR, fun _ _ _ _ _ _ hR => False.elim hR⟩
    | succ k ih =>
      refine ⟨?_, ?_, ?_⟩
      · intro t li lj H locs ls hR hl h
        have hR : wbX11_room_0 (wpX11_room k) k t li lj Q := hR
        unfold wbX11_room_0 at hR
        refine lv_iload_n hx hb dX11_room_0 rfl (lv_at hl 1 rfl) ?_
        refine x_cSIE (n := 1) (As := [.int (li 1)]) (rest := []) B h (wkX11_isDim l D cI cJ cB cZ ad k (li 1) _ hR) ⟨⟨_, rfl⟩, by decide +kernel, Nat.le_of_ble_eq_true rfl, Nat.le_of_ble_eq_true rfl⟩ gX11_room_X11_isDim rfl hl.1 rfl (Nat.le_of_ble_eq_true rfl) dX11_room_1 ⟨Nat.le_of_ble_eq_true rfl, Nat.le_of_ble_eq_true rfl⟩ (fun r_1 _ H locs hR h => ?_)
        refine lv_if_ne (tgt := 9) hx hb dX11_room_4 (by decide) (fun c_2 => ?_) (fun c_2 => ?_)
        · have hR := hR.1 c_2
          refine lv_iconst (v := 0) hx hb dX11_room_9 (by decide) ?_
          refine lv_istore_n (lv' := [(2, .int 0), (0, .ref (ad 0)), (1, .int (li 1))]) hx hb dX11_room_10 rfl hl (by decide) rfl (fun ls hl => ?_)
          refine lv_aload_n hx hb dX11_room_11 rfl (lv_at hl 1 rfl) ?_
          refine x_get (ci := 11) (C := RX11) (T := TX11) (N := 11) (v := .ref (ad 4)) B h hin11 0 3 rfl rfl (by decide) (by decide +kernel) rfl dX11_room_12 ?_
          refine x_cVLF (n := 0) (As := []) (rest := []) B h (wkX6_unpaired l D cI cJ cB cZ ad k t  _ hR) ⟨⟨_, rfl⟩, by decide +kernel, Nat.le_of_ble_eq_true rfl, Nat.le_of_ble_eq_true rfl⟩ gX11_room_X6_unpaired (show ((wX cI cJ cB cZ ad t) : va_W)[4]? = some (_, .inr (6, _)) from rfl) rfl rfl hl.1 rfl (Nat.le_of_ble_eq_true rfl) dX11_room_15 ⟨Nat.le_of_ble_eq_true rfl, Nat.le_of_ble_eq_true rfl⟩ (fun r_3 t_3 H locs hR h => ?_)
          refine lv_lstore_n (lv' := [(3, .long r_3), (2, .int 0), (0, .ref (ad 0)), (1, .int (li 1))]) hx hb dX11_room_18 rfl hl (by decide) rfl (fun ls hl => ?_)
          refine lv_iconst (v := 0) hx hb dX11_room_19 (by decide) ?_
          refine lv_istore (lv' := [(5, .int 0), (3, .long r_3), (2, .int 0), (0, .ref (ad 0)), (1, .int (li 1))]) hx hb dX11_room_20 hl (by decide) rfl (fun ls hl => ?_)
          exact ih.2.1 t_3 (uI (uI li 2 0) 5 0) (uI lj 3 r_3) H locs ls hR (lv_sub hl [3, 4, 2, 1, 0] rfl) h
        · have hR := hR.2 c_2
          refine lv_iconst (v := (-1)) hx hb dX11_room_7 (by decide) ?_
          exact x_iret (w1 := (fun u : XT => (wX cI cJ cB cZ ad u))) t B h hr rfl hR dX11_room_8
      · intro t li lj H locs ls hR hl h
        have hR : wbX11_room_1 (wpX11_room k) k t li lj Q := hR
        unfold wbX11_room_1 at hR
        refine lv_iload hx hb dX11_room_22 (lv_at hl 4 rfl) ?_
        refine lv_aload_n hx hb dX11_room_24 rfl (lv_at hl 0 rfl) ?_
        refine x_get (ci := 11) (C := RX11) (T := TX11) (N := 11) (v := .ref (ad 3)) B h hin11 0 2 rfl rfl (by decide) (by decide +kernel) rfl dX11_room_25 ?_
        refine x_get (ci := 9) (C := RX9) (T := TX9) (N := 7) (v := .int (t.1 4)) B h hin9 3 0 rfl rfl (by decide) (by decide +kernel) rfl dX11_room_28 ?_
        refine lv_icmp_ge (tgt := 84) hx hb dX11_room_31 (by decide) (fun c_4 => ?_) (fun c_4 => ?_)
        · have hR := hR.1 c_4
          refine lv_iload_n hx hb dX11_room_84 rfl (lv_at hl 2 rfl) ?_
          exact x_iret (w1 := (fun u : XT => (wX cI cJ cB cZ ad u))) t B h hr rfl hR dX11_room_85
        · have hR := hR.2 c_4
          refine lv_lload_n hx hb dX11_room_34 rfl (lv_at hl 3 rfl) ?_
          refine lv_iload hx hb dX11_room_35 (lv_at hl 4 rfl) ?_
          refine x_cSIE (n := 2) (As := [.long (lj 3), .int (li 5)]) (rest := []) B h (wkX11_isIn l D cI cJ cB cZ ad k (lj 3) (li 5) _ hR) ⟨⟨_, rfl⟩, by decide +kernel, Nat.le_of_ble_eq_true rfl, Nat.le_of_ble_eq_true rfl⟩ gX11_room_X11_isIn rfl hl.1 rfl (Nat.le_of_ble_eq_true rfl) dX11_room_37 ⟨Nat.le_of_ble_eq_true rfl, Nat.le_of_ble_eq_true rfl⟩ (fun r_5 _ H locs hR h => ?_)
          refine lv_if_eq (tgt := 78) hx hb dX11_room_40 (by decide) (fun c_6 => ?_) (fun c_6 => ?_)
          · have hR := hR.1 c_6
            exact ih.2.2 t li lj H locs ls hR (lv_sub hl [0, 1, 2, 3, 4] rfl) h
          · have hR := hR.2 c_6
            refine lv_aload_n hx hb dX11_room_43 rfl (lv_at hl 0 rfl) ?_
            refine x_get (ci := 11) (C := RX11) (T := TX11) (N := 11) (v := .ref (ad 3)) B h hin11 0 2 rfl rfl (by decide) (by decide +kernel) rfl dX11_room_44 ?_
            refine x_get (ci := 9) (C := RX9) (T := TX9) (N := 7) (v := .ref (ad 15)) B h hin9 3 2 rfl rfl (by decide) (by decide +kernel) rfl dX11_room_47 ?_
            refine lv_iload hx hb dX11_room_50 (lv_at hl 4 rfl) ?_
            obtain ⟨hb_7, hR⟩ := hR
            refine va_iald (f := (t.2.2.1 3)) hx hb B.2.1 h.1 15 0 rfl rfl hb_7 dX11_room_52 ?_
            refine lv_topi (fun v_7 ev_7 => ?_)
            have hR := hR v_7 ev_7
            refine lv_iload_n hx hb dX11_room_53 rfl (lv_at hl 1 rfl) ?_
            refine lv_icmp_ne (tgt := 78) hx hb dX11_room_54 (by decide) (fun c_8 => ?_) (fun c_8 => ?_)
            · have hR := hR.1 c_8
              exact ih.2.2 t li lj H locs ls hR (lv_sub hl [0, 1, 2, 3, 4] rfl) h
            · have hR := hR.2 c_8
              refine lv_iload_n hx hb dX11_room_57 rfl (lv_at hl 2 rfl) ?_
              refine lv_aload_n hx hb dX11_room_58 rfl (lv_at hl 0 rfl) ?_
              refine lv_iload hx hb dX11_room_59 (lv_at hl 4 rfl) ?_
              refine lv_aload_n hx hb dX11_room_61 rfl (lv_at hl 0 rfl) ?_
              refine x_get (ci := 11) (C := RX11) (T := TX11) (N := 11) (v := .ref (ad 3)) B h hin11 0 2 rfl rfl (by decide) (by decide +kernel) rfl dX11_room_62 ?_
              refine x_get (ci := 9) (C := RX9) (T := TX9) (N := 7) (v := .ref (ad 18)) B h hin9 3 5 rfl rfl (by decide) (by decide +kernel) rfl dX11_room_65 ?_
              refine lv_iload hx hb dX11_room_68 (lv_at hl 4 rfl) ?_
              obtain ⟨hb_9, hR⟩ := hR
              refine va_lald (f := (t.2.2.2 1)) hx hb B.2.1 h.1 18 1 rfl rfl hb_9 dX11_room_70 ?_
              refine lv_topl (fun v_9 ev_9 => ?_)
              have hR := hR v_9 ev_9
              refine lv_lload_n hx hb dX11_room_71 rfl (lv_at hl 3 rfl) ?_
              refine lv_land hx hb dX11_room_72 ?_
              refine lv_topl (fun v_10 ev_10 => ?_)
              have hR := hR v_10 ev_10
              refine x_cVIF (n := 2) (As := [.int (li 5), .long v_10]) (rest := [.int (li 2)]) B h (wkX11_roomAbove l D cI cJ cB cZ ad k t (li 5) v_10 _ hR) ⟨⟨_, rfl⟩, by decide +kernel, Nat.le_of_ble_eq_true rfl, Nat.le_of_ble_eq_true rfl⟩ gX11_room_X11_roomAbove (show ((wX cI cJ cB cZ ad t) : va_W)[0]? = some (_, .inr (11, _)) from rfl) rfl rfl hl.1 rfl (Nat.le_of_ble_eq_true rfl) dX11_room_73 ⟨Nat.le_of_ble_eq_true rfl, Nat.le_of_ble_eq_true rfl⟩ (fun r_11 t_11 H locs hR h => ?_)
              refine lv_iadd hx hb dX11_room_76 ?_
              refine lv_topi (fun v_12 ev_12 => ?_)
              have hR := hR v_12 ev_12
              refine lv_istore_n (lv' := [(2, .int v_12), (0, .ref (ad 0)), (1, .int (li 1)), (3, .long (lj 3)), (5, .int (li 5))]) hx hb dX11_room_77 rfl hl (by decide) rfl (fun ls hl => ?_)
              exact ih.2.2 t_11 (uI li 2 v_12) lj H locs ls hR (lv_sub hl [1, 2, 0, 3, 4] rfl) h
      · intro t li lj H locs ls hR hl h
        have hR : wbX11_room_2 (wpX11_room k) k t li lj Q := hR
        unfold wbX11_room_2 at hR
        obtain ⟨v_13, ev_13⟩ : ∃ v : Int32, v = (li 5) + Int32.ofInt 1 := ⟨_, rfl⟩
        have hR := hR v_13 ev_13
        refine lv_iinc (v := v_13) (lv' := [(5, .int v_13), (0, .ref (ad 0)), (1, .int (li 1)), (2, .int (li 2)), (3, .long (lj 3))]) hx hb dX11_room_78 hl (k := 4) rfl ev_13.symm (by decide) rfl (fun ls hl => ?_)
        refine lv_goto (tgt := 22) hx hb dX11_room_81 (by decide) ?_
        exact ih.2.1 t (uI li 5 v_13) lj H locs ls hR (lv_sub hl [1, 2, 3, 4, 0] rfl) h
  exact (main k).1 t _ _ s.heap [] ls hR hl h
def wbX11_draws_0 (rec : Nat → XT → (Nat → Int32) → (Nat → Int64) → (Int32 → XT → Prop) → Prop) (k : Nat) (t : XT) (li : Nat → Int32) (lj : Nat → Int64) (Q : Int32 → XT → Prop) : Prop :=
  (((0 : Int32) ≤ (li 1)) → (∀ t_2 : XT, t_2 = sI t 0 (li 1) → Q (t.1 0) t_2)) ∧ (¬ ((0 : Int32) ≤ (li 1)) → Q (-1) t)
def wpX11_draws : Nat → Nat → XT → (Nat → Int32) → (Nat → Int64) → (Int32 → XT → Prop) → Prop
  | 0, _, _, _, _, _ => False
  | k + 1, 0, t, li, lj, Q => wbX11_draws_0 (wpX11_draws k) k t li lj Q
  | _ + 1, _, _, _, _, _ => False
def wqX11_draws (k : Nat) (t : XT) (a1 : Int32) (Q : Int32 → XT → Prop) : Prop := wpX11_draws k 0 t (uI (fun _ => 0) 1 a1) (fun _ => 0) Q
set_option maxHeartbeats 8000000 in
set_option maxRecDepth 100000 in
theorem wkX11_draws (l : Launch) (D : va_G) (cI cJ cB cZ : ClassId) (ad : Nat → Nat) (k : Nat) (t : XT) (a1 : Int32) (Q : Int32 → XT → Prop) (hR : wqX11_draws k t a1 Q) : MetI l yX11_draws wsX11_draws 0 0 0 0 D (TYS cI cJ cB cZ) (wX cI cJ cB cZ ad t) [.ref (ad 0), .int a1] (fun r u => Q r u) (fun u : XT => (wX cI cJ cB cZ ad u)) := by
  refine x_startI (ty := .int) (cc := cX11_draws) (by decide) rfl (Nat.le_of_ble_eq_true rfl) ?_
  intro p e s m args below meth c A ls B hr hnm h hl
  have hx := B.1.1
  have hb := B.1.2.1
  have hml := B.1.2.2.1
  have hts := B.1.2.2.2.2
  have hown : s.vm.findClass RX11 = some m.cls := B.1.2.2.2.1
  have hin11 : ∀ w ∈ u_ws RX11 TX11 11, w ∈ wsX11_draws := by decide +kernel
  have main : ∀ k : Nat, (∀ (t : XT) (li : Nat → Int32) (lj : Nat → Int64) (H : Heap) (locs : List Loc) (ls : Array Slot), wpX11_draws k 0 t li lj Q → lv_has ls 3 [(0, .ref (ad 0)), (1, .int (li 1))] → Hp D A s.heap (wX cI cJ cB cZ ad t) H locs → W p l e { frames := 0, cells := 0, slots := 0, locals := 0 } s m args below meth c H locs 0 0 (MQ below (va_Qi (fun r u => Q r u) (fun u t => xEnd D ((fun u : XT => (wX cI cJ cB cZ ad u)) u) A t) A) args s 0 0 A) (F0 m 0 ls [])) := by
    intro k
    induction k with
    | zero => exact fun _ _ _ _ _ _ hR => False.elim hR
    | succ k ih =>
      intro t li lj H locs ls hR hl h
      have hR : wbX11_draws_0 (wpX11_draws k) k t li lj Q := hR
      unfold wbX11_draws_0 at hR
      refine lv_iload_n hx hb dX11_draws_0 rfl (lv_at hl 1 rfl) ?_
      refine lv_if_ge (tgt := 6) hx hb dX11_draws_1 (by decide) (fun c_1 => ?_) (fun c_1 => ?_)
      · have hR := hR.1 c_1
        refine lv_aload_n hx hb dX11_draws_6 rfl (lv_at hl 0 rfl) ?_
        refine x_get (ci := 11) (C := RX11) (T := TX11) (N := 11) (v := .int (t.1 0)) B h hin11 0 10 rfl rfl (by decide) (by decide +kernel) rfl dX11_draws_7 ?_
        refine lv_istore_n (lv' := [(2, .int (t.1 0)), (0, .ref (ad 0)), (1, .int (li 1))]) hx hb dX11_draws_10 rfl hl (by decide) rfl (fun ls hl => ?_)
        refine lv_aload_n hx hb dX11_draws_11 rfl (lv_at hl 1 rfl) ?_
        refine lv_iload_n hx hb dX11_draws_12 rfl (lv_at hl 2 rfl) ?_
        refine x_put (ci := 11) (C := RX11) (T := TX11) (N := 11) (v := .int (li 1)) (ty := .int) B h hin11 tyX11 tyX11_ok nmX11 0 10 rfl rfl (by decide) (by decide +kernel) rfl rfl rfl rfl (Nat.le_of_ble_eq_true rfl) dX11_draws_13 (fun H locs h => ?_)
        obtain ⟨t_2, et_2⟩ : ∃ v : XT, v = sI t 0 (li 1) := ⟨_, rfl⟩
        have hR := hR t_2 et_2
        have h : Hp D A s.heap (wX cI cJ cB cZ ad t_2) H locs := by rw [et_2]; exact h
        refine lv_iload_n hx hb dX11_draws_16 rfl (lv_at hl 0 rfl) ?_
        exact x_iret (w1 := (fun u : XT => (wX cI cJ cB cZ ad u))) t_2 B h hr rfl hR dX11_draws_17
      · have hR := hR.2 c_1
        refine lv_iconst (v := (-1)) hx hb dX11_draws_4 (by decide) ?_
        exact x_iret (w1 := (fun u : XT => (wX cI cJ cB cZ ad u))) t B h hr rfl hR dX11_draws_5
  exact (main k) t _ _ s.heap [] ls hR hl h
def wbX9_greatestDim_0 (rec : Nat → XT → (Nat → Int32) → (Nat → Int64) → (Int32 → XT → Prop) → Prop) (k : Nat) (t : XT) (li : Nat → Int32) (lj : Nat → Int64) (Q : Int32 → XT → Prop) : Prop :=
  rec 1 t (uI (uI li 3 (-1)) 4 0) lj Q
def wbX9_greatestDim_1 (rec : Nat → XT → (Nat → Int32) → (Nat → Int64) → (Int32 → XT → Prop) → Prop) (k : Nat) (t : XT) (li : Nat → Int32) (lj : Nat → Int64) (Q : Int32 → XT → Prop) : Prop :=
  (((5 : Int32) ≤ (li 4)) → Q (li 3) t) ∧ (¬ ((5 : Int32) ≤ (li 4)) → (vp_in (li 4) 5 ∧ (∀ v_2 : Int64, v_2 = (t.2.2.2 2) (li 4).toNatClampNeg → (∀ v_3 : Int64, v_3 = ((lj 1) &&& v_2) → (∀ v_4 : Int32, v_4 = (lg_cmp v_3 0) → ((v_4 = 0) → rec 2 t li lj Q) ∧ (¬ (v_4 = 0) → rec 2 t (uI li 3 (li 4)) lj Q))))))
def wbX9_greatestDim_2 (rec : Nat → XT → (Nat → Int32) → (Nat → Int64) → (Int32 → XT → Prop) → Prop) (k : Nat) (t : XT) (li : Nat → Int32) (lj : Nat → Int64) (Q : Int32 → XT → Prop) : Prop :=
  (∀ v_6 : Int32, v_6 = (li 4) + Int32.ofInt 1 → rec 1 t (uI li 4 v_6) lj Q)
def wpX9_greatestDim : Nat → Nat → XT → (Nat → Int32) → (Nat → Int64) → (Int32 → XT → Prop) → Prop
  | 0, _, _, _, _, _ => False
  | k + 1, 0, t, li, lj, Q => wbX9_greatestDim_0 (wpX9_greatestDim k) k t li lj Q
  | k + 1, 1, t, li, lj, Q => wbX9_greatestDim_1 (wpX9_greatestDim k) k t li lj Q
  | k + 1, 2, t, li, lj, Q => wbX9_greatestDim_2 (wpX9_greatestDim k) k t li lj Q
  | _ + 1, _, _, _, _, _ => False
def wqX9_greatestDim (k : Nat) (t : XT) (a1 : Int64) (Q : Int32 → XT → Prop) : Prop := wpX9_greatestDim k 0 t (fun _ => 0) (uI (fun _ => 0) 1 a1) Q
set_option maxHeartbeats 8000000 in
set_option maxRecDepth 100000 in
theorem wkX9_greatestDim (l : Launch) (D : va_G) (cI cJ cB cZ : ClassId) (ad : Nat → Nat) (k : Nat) (t : XT) (a1 : Int64) (Q : Int32 → XT → Prop) (hR : wqX9_greatestDim k t a1 Q) : MetI l yX9_greatestDim wsX9_greatestDim 0 0 0 0 D (TYS cI cJ cB cZ) (wX cI cJ cB cZ ad t) [.ref (ad 3), .long a1] (fun r u => Q r u) (fun u : XT => (wX cI cJ cB cZ ad u)) := by
  refine x_startI (ty := .int) (cc := cX9_greatestDim) (by decide) rfl (Nat.le_of_ble_eq_true rfl) ?_
  intro p e s m args below meth c A ls B hr hnm h hl
  have hx := B.1.1
  have hb := B.1.2.1
  have hml := B.1.2.2.1
  have hts := B.1.2.2.2.2
  have hown : s.vm.findClass RX9 = some m.cls := B.1.2.2.2.1
  have hin9 : ∀ w ∈ u_ws RX9 TX9 7, w ∈ wsX9_greatestDim := by decide +kernel
  have main : ∀ k : Nat, (∀ (t : XT) (li : Nat → Int32) (lj : Nat → Int64) (H : Heap) (locs : List Loc) (ls : Array Slot), wpX9_greatestDim k 0 t li lj Q → lv_has ls 5 [(0, .ref (ad 3)), (1, .long (lj 1))] → Hp D A s.heap (wX cI cJ cB cZ ad t) H locs → W p l e { frames := 0, cells := 0, slots := 0, locals := 0 } s m args below meth c H locs 0 0 (MQ below (va_Qi (fun r u => Q r u) (fun u t => xEnd D ((fun u : XT => (wX cI cJ cB cZ ad u)) u) A t) A) args s 0 0 A) (F0 m 0 ls [])) ∧
      (∀ (t : XT) (li : Nat → Int32) (lj : Nat → Int64) (H : Heap) (locs : List Loc) (ls : Array Slot), wpX9_greatestDim k 1 t li lj Q → lv_has ls 5 [(0, .ref (ad 3)), (1, .long (lj 1)), (3, .int (li 3)), (4, .int (li 4))] → Hp D A s.heap (wX cI cJ cB cZ ad t) H locs → W p l e { frames := 0, cells := 0, slots := 0, locals := 0 } s m args below meth c H locs 0 0 (MQ below (va_Qi (fun r u => Q r u) (fun u t => xEnd D ((fun u : XT => (wX cI cJ cB cZ ad u)) u) A t) A) args s 0 0 A) (F0 m 5 ls [])) ∧
      (∀ (t : XT) (li : Nat → Int32) (lj : Nat → Int64) (H : Heap) (locs : List Loc) (ls : Array Slot), wpX9_greatestDim k 2 t li lj Q → lv_has ls 5 [(0, .ref (ad 3)), (1, .long (lj 1)), (3, .int (li 3)), (4, .int (li 4))] → Hp D A s.heap (wX cI cJ cB cZ ad t) H locs → W p l e { frames := 0, cells := 0, slots := 0, locals := 0 } s m args below meth c H locs 0 0 (MQ below (va_Qi (fun r u => Q r u) (fun u t => xEnd D ((fun u : XT => (wX cI cJ cB cZ ad u)) u) A t) A) args s 0 0 A) (F0 m 28 ls [])) := by
    intro k
    induction k with
    | zero => exact ⟨fun _ _ _ _ _ _ hR => False.elim hR, fun _ _ _ _ _ _ hR => False.elim hR, fun _ _ _ _ _ _ hR => False.elim hR⟩
    | succ k ih =>
      refine ⟨?_, ?_, ?_⟩
      · intro t li lj H locs ls hR hl h
        have hR : wbX9_greatestDim_0 (wpX9_greatestDim k) k t li lj Q := hR
        unfold wbX9_greatestDim_0 at hR
        refine lv_iconst (v := (-1)) hx hb dX9_greatestDim_0 (by decide) ?_
        refine lv_istore_n (lv' := [(3, .int (-1)), (0, .ref (ad 3)), (1, .long (lj 1))]) hx hb dX9_greatestDim_1 rfl hl (by decide) rfl (fun ls hl => ?_)
        refine lv_iconst (v := 0) hx hb dX9_greatestDim_2 (by decide) ?_
        refine lv_istore (lv' := [(4, .int 0), (3, .int (-1)), (0, .ref (ad 3)), (1, .long (lj 1))]) hx hb dX9_greatestDim_3 hl (by decide) rfl (fun ls hl => ?_)
        exact ih.2.1 t (uI (uI li 3 (-1)) 4 0) lj H locs ls hR (lv_sub hl [2, 3, 1, 0] rfl) h
      · intro t li lj H locs ls hR hl h
        have hR : wbX9_greatestDim_1 (wpX9_greatestDim k) k t li lj Q := hR
        unfold wbX9_greatestDim_1 at hR
        refine lv_iload hx hb dX9_greatestDim_5 (lv_at hl 3 rfl) ?_
        refine lv_iconst (v := 5) hx hb dX9_greatestDim_7 (by decide) ?_
        refine lv_icmp_ge (tgt := 34) hx hb dX9_greatestDim_8 (by decide) (fun c_1 => ?_) (fun c_1 => ?_)
        · have hR := hR.1 c_1
          refine lv_iload_n hx hb dX9_greatestDim_34 rfl (lv_at hl 2 rfl) ?_
          exact x_iret (w1 := (fun u : XT => (wX cI cJ cB cZ ad u))) t B h hr rfl hR dX9_greatestDim_35
        · have hR := hR.2 c_1
          refine lv_lload_n hx hb dX9_greatestDim_11 rfl (lv_at hl 1 rfl) ?_
          refine lv_aload_n hx hb dX9_greatestDim_12 rfl (lv_at hl 0 rfl) ?_
          refine x_get (ci := 9) (C := RX9) (T := TX9) (N := 7) (v := .ref (ad 19)) B h hin9 3 6 rfl rfl (by decide) (by decide +kernel) rfl dX9_greatestDim_13 ?_
          refine lv_iload hx hb dX9_greatestDim_16 (lv_at hl 3 rfl) ?_
          obtain ⟨hb_2, hR⟩ := hR
          refine va_lald (f := (t.2.2.2 2)) hx hb B.2.1 h.1 19 1 rfl rfl hb_2 dX9_greatestDim_18 ?_
          refine lv_topl (fun v_2 ev_2 => ?_)
          have hR := hR v_2 ev_2
          refine lv_land hx hb dX9_greatestDim_19 ?_
          refine lv_topl (fun v_3 ev_3 => ?_)
          have hR := hR v_3 ev_3
          refine lv_lconst (v := 0) hx hb dX9_greatestDim_20 (by decide) ?_
          refine W.lcmp hx hb dX9_greatestDim_21 ?_
          refine lv_topi (fun v_4 ev_4 => ?_)
          have hR := hR v_4 ev_4
          refine lv_if_eq (tgt := 28) hx hb dX9_greatestDim_22 (by decide) (fun c_5 => ?_) (fun c_5 => ?_)
          · have hR := hR.1 c_5
            exact ih.2.2 t li lj H locs ls hR (lv_sub hl [0, 1, 2, 3] rfl) h
          · have hR := hR.2 c_5
            refine lv_iload hx hb dX9_greatestDim_25 (lv_at hl 3 rfl) ?_
            refine lv_istore_n (lv' := [(3, .int (li 4)), (0, .ref (ad 3)), (1, .long (lj 1)), (4, .int (li 4))]) hx hb dX9_greatestDim_27 rfl hl (by decide) rfl (fun ls hl => ?_)
            exact ih.2.2 t (uI li 3 (li 4)) lj H locs ls hR (lv_sub hl [1, 2, 0, 3] rfl) h
      · intro t li lj H locs ls hR hl h
        have hR : wbX9_greatestDim_2 (wpX9_greatestDim k) k t li lj Q := hR
        unfold wbX9_greatestDim_2 at hR
        obtain ⟨v_6, ev_6⟩ : ∃ v : Int32, v = (li 4) + Int32.ofInt 1 := ⟨_, rfl⟩
        have hR := hR v_6 ev_6
        refine lv_iinc (v := v_6) (lv' := [(4, .int v_6), (0, .ref (ad 3)), (1, .long (lj 1)), (3, .int (li 3))]) hx hb dX9_greatestDim_28 hl (k := 3) rfl ev_6.symm (by decide) rfl (fun ls hl => ?_)
        refine lv_goto (tgt := 5) hx hb dX9_greatestDim_31 (by decide) ?_
        exact ih.2.1 t (uI li 4 v_6) lj H locs ls hR (lv_sub hl [1, 2, 3, 0] rfl) h
  exact (main k).1 t _ _ s.heap [] ls hR hl h
set_option maxRecDepth 20000 in
theorem ggX7_greatest_X9_greatestDim : GoodIn wsX7_greatest wsX9_greatestDim := goodIn_r _ [8, 9, 16, 17, 18, 19, 20, 21, 22] (by decide +kernel) (by decide +kernel)
set_option maxRecDepth 20000 in
theorem gX7_greatest_X9_greatestDim : GoodIn wsX7_greatest (wsV RX7 45 RX9 yX9_greatestDim wsX9_greatestDim) := goodIn_app (goodIn_of _ (by decide +kernel)) ggX7_greatest_X9_greatestDim
set_option maxRecDepth 20000 in
theorem ggX7_greatest_X11_isDim : GoodIn wsX7_greatest wsX11_isDim := goodIn_r _ [12] (by decide +kernel) (by decide +kernel)
set_option maxRecDepth 20000 in
theorem gX7_greatest_X11_isDim_n48 : GoodIn wsX7_greatest (wsX11_isDim) := ggX7_greatest_X11_isDim
def wbX7_greatest_0 (rec : Nat → XT → (Nat → Int32) → (Nat → Int64) → (Int64 → XT → Prop) → Prop) (k : Nat) (t : XT) (li : Nat → Int32) (lj : Nat → Int64) (Q : Int64 → XT → Prop) : Prop :=
  (wqX9_greatestDim k t (t.2.1 3) (fun r_1 t_1 => (wqX11_isDim k r_1 (fun r_2 => ((r_2 = 0) → Q 0 t_1) ∧ (¬ (r_2 = 0) → (vp_in r_1 5 ∧ (∀ v_4 : Int64, v_4 = (t_1.2.2.2 2) r_1.toNatClampNeg → (∀ v_5 : Int64, v_5 = ((t_1.2.1 3) &&& v_4) → Q v_5 t_1))))))))
def wpX7_greatest : Nat → Nat → XT → (Nat → Int32) → (Nat → Int64) → (Int64 → XT → Prop) → Prop
  | 0, _, _, _, _, _ => False
  | k + 1, 0, t, li, lj, Q => wbX7_greatest_0 (wpX7_greatest k) k t li lj Q
  | _ + 1, _, _, _, _, _ => False
def wqX7_greatest (k : Nat) (t : XT)  (Q : Int64 → XT → Prop) : Prop := wpX7_greatest k 0 t (fun _ => 0) (fun _ => 0) Q
set_option maxHeartbeats 8000000 in
set_option maxRecDepth 100000 in
theorem wkX7_greatest (l : Launch) (D : va_G) (cI cJ cB cZ : ClassId) (ad : Nat → Nat) (k : Nat) (t : XT)  (Q : Int64 → XT → Prop) (hR : wqX7_greatest k t  Q) : MetL l yX7_greatest wsX7_greatest 1 24 0 0 D (TYS cI cJ cB cZ) (wX cI cJ cB cZ ad t) [.ref (ad 5)] (fun r u => Q r u) (fun u : XT => (wX cI cJ cB cZ ad u)) := by
  refine x_startL (ty := .long) (cc := cX7_greatest) (by decide) rfl (Nat.le_of_ble_eq_true rfl) ?_
  intro p e s m args below meth c A ls B hr hnm h hl
  have hx := B.1.1
  have hb := B.1.2.1
  have hml := B.1.2.2.1
  have hts := B.1.2.2.2.2
  have hown : s.vm.findClass RX7 = some m.cls := B.1.2.2.2.1
  have hin7 : ∀ w ∈ u_ws RX7 TX7 3, w ∈ wsX7_greatest := by decide +kernel
  have hin9 : ∀ w ∈ u_ws RX9 TX9 7, w ∈ wsX7_greatest := by decide +kernel
  have main : ∀ k : Nat, (∀ (t : XT) (li : Nat → Int32) (lj : Nat → Int64) (H : Heap) (locs : List Loc) (ls : Array Slot), wpX7_greatest k 0 t li lj Q → lv_has ls 2 [(0, .ref (ad 5))] → Hp D A s.heap (wX cI cJ cB cZ ad t) H locs → W p l e { frames := 1, cells := 0, slots := 0, locals := 24 } s m args below meth c H locs 0 0 (MQ below (va_Ql (fun r u => Q r u) (fun u t => xEnd D ((fun u : XT => (wX cI cJ cB cZ ad u)) u) A t) A) args s 0 0 A) (F0 m 0 ls [])) := by
    intro k
    induction k with
    | zero => exact fun _ _ _ _ _ _ hR => False.elim hR
    | succ k ih =>
      intro t li lj H locs ls hR hl h
      have hR : wbX7_greatest_0 (wpX7_greatest k) k t li lj Q := hR
      unfold wbX7_greatest_0 at hR
      refine lv_aload_n hx hb dX7_greatest_0 rfl (lv_at hl 0 rfl) ?_
      refine x_get (ci := 7) (C := RX7) (T := TX7) (N := 3) (v := .ref (ad 3)) B h hin7 5 0 rfl rfl (by decide) (by decide +kernel) rfl dX7_greatest_1 ?_
      refine lv_aload_n hx hb dX7_greatest_4 rfl (lv_at hl 0 rfl) ?_
      refine x_get (ci := 7) (C := RX7) (T := TX7) (N := 3) (v := .long (t.2.1 3)) B h hin7 5 1 rfl rfl (by decide) (by decide +kernel) rfl dX7_greatest_5 ?_
      refine x_cVIF (n := 1) (As := [.long (t.2.1 3)]) (rest := []) B h (wkX9_greatestDim l D cI cJ cB cZ ad k t (t.2.1 3) _ hR) ⟨⟨_, rfl⟩, by decide +kernel, Nat.le_of_ble_eq_true rfl, Nat.le_of_ble_eq_true rfl⟩ gX7_greatest_X9_greatestDim (show ((wX cI cJ cB cZ ad t) : va_W)[3]? = some (_, .inr (9, _)) from rfl) rfl rfl hl.1 rfl (Nat.le_of_ble_eq_true rfl) dX7_greatest_8 ⟨Nat.le_of_ble_eq_true rfl, Nat.le_of_ble_eq_true rfl⟩ (fun r_1 t_1 H locs hR h => ?_)
      refine lv_istore_n (lv' := [(1, .int r_1), (0, .ref (ad 5))]) hx hb dX7_greatest_11 rfl hl (by decide) rfl (fun ls hl => ?_)
      refine lv_iload_n hx hb dX7_greatest_12 rfl (lv_at hl 0 rfl) ?_
      refine x_cNIE (n := 1) (As := [.int r_1]) (rest := []) B h (wkX11_isDim l D cI cJ cB cZ ad k r_1 _ hR) ⟨⟨_, rfl⟩, by decide +kernel, Nat.le_of_ble_eq_true rfl, Nat.le_of_ble_eq_true rfl⟩ gX7_greatest_X11_isDim_n48 (by decide +kernel) (by decide +kernel) (host := "MorseDesk") (by decide +kernel) rfl hl.1 rfl (Nat.le_of_ble_eq_true rfl) dX7_greatest_13 ⟨Nat.le_of_ble_eq_true rfl, Nat.le_of_ble_eq_true rfl⟩ (fun r_2 _ H locs hR h => ?_)
      refine lv_if_eq (tgt := 36) hx hb dX7_greatest_16 (by decide) (fun c_3 => ?_) (fun c_3 => ?_)
      · have hR := hR.1 c_3
        refine lv_lconst (v := 0) hx hb dX7_greatest_36 (by decide) ?_
        exact x_lret (w1 := (fun u : XT => (wX cI cJ cB cZ ad u))) t_1 B h hr hR dX7_greatest_37
      · have hR := hR.2 c_3
        refine lv_aload_n hx hb dX7_greatest_19 rfl (lv_at hl 1 rfl) ?_
        refine x_get (ci := 7) (C := RX7) (T := TX7) (N := 3) (v := .long (t_1.2.1 3)) B h hin7 5 1 rfl rfl (by decide) (by decide +kernel) rfl dX7_greatest_20 ?_
        refine lv_aload_n hx hb dX7_greatest_23 rfl (lv_at hl 1 rfl) ?_
        refine x_get (ci := 7) (C := RX7) (T := TX7) (N := 3) (v := .ref (ad 3)) B h hin7 5 0 rfl rfl (by decide) (by decide +kernel) rfl dX7_greatest_24 ?_
        refine x_get (ci := 9) (C := RX9) (T := TX9) (N := 7) (v := .ref (ad 19)) B h hin9 3 6 rfl rfl (by decide) (by decide +kernel) rfl dX7_greatest_27 ?_
        refine lv_iload_n hx hb dX7_greatest_30 rfl (lv_at hl 0 rfl) ?_
        obtain ⟨hb_4, hR⟩ := hR
        refine va_lald (f := (t_1.2.2.2 2)) hx hb B.2.1 h.1 19 1 rfl rfl hb_4 dX7_greatest_31 ?_
        refine lv_topl (fun v_4 ev_4 => ?_)
        have hR := hR v_4 ev_4
        refine lv_land hx hb dX7_greatest_32 ?_
        refine lv_topl (fun v_5 ev_5 => ?_)
        have hR := hR v_5 ev_5
        refine lv_goto (tgt := 37) hx hb dX7_greatest_33 (by decide) ?_
        exact x_lret (w1 := (fun u : XT => (wX cI cJ cB cZ ad u))) t_1 B h hr hR dX7_greatest_37
  exact (main k) t _ _ s.heap [] ls hR hl h
set_option maxRecDepth 20000 in
theorem ggX11_drawFrom_J13_bitCount_95d88 : GoodIn wsX11_drawFrom wsJ13_bitCount_95d88 := goodIn_r _ [9, 10, 11, 12] (by decide +kernel) (by decide +kernel)
set_option maxRecDepth 20000 in
theorem gX11_drawFrom_J13_bitCount_95d88 : GoodIn wsX11_drawFrom (va_wsS RX11 151 yJ13_bitCount_95d88 wsJ13_bitCount_95d88) := goodIn_app (goodIn_of _ (by decide +kernel)) ggX11_drawFrom_J13_bitCount_95d88
set_option maxRecDepth 20000 in
theorem ggX11_drawFrom_X11_nth : GoodIn wsX11_drawFrom wsX11_nth := goodIn_r _ [16, 17, 18, 15, 19, 6, 7, 8, 9, 10, 11, 12] (by decide +kernel) (by decide +kernel)
set_option maxRecDepth 20000 in
theorem gX11_drawFrom_X11_nth : GoodIn wsX11_drawFrom (va_wsS RX11 329 yX11_nth wsX11_nth) := goodIn_app (goodIn_of _ (by decide +kernel)) ggX11_drawFrom_X11_nth
def wbX11_drawFrom_0 (rec : Nat → XT → (Nat → Int32) → (Nat → Int64) → (Int32 → XT → Prop) → Prop) (k : Nat) (t : XT) (li : Nat → Int32) (lj : Nat → Int64) (Q : Int32 → XT → Prop) : Prop :=
  (wqJ13_bitCount_95d88 k (lj 1) (fun r_1 => (∀ v_2 : Int64, v_2 = (t.1 0).toInt64 → (∀ v_3 : Int64, v_3 = (v_2 * 1103515245) → (∀ v_4 : Int64, v_4 = (v_3 + 12345) → ((¬ (2147483648 : Int64) = 0) ∧ (∀ v_5 : Int64, v_5 = (v_4 - v_4 / 2147483648 * 2147483648) → (∀ v_6 : Int32, v_6 = v_5.toInt32 → (∀ t_7 : XT, t_7 = sI t 0 v_6 → ((r_1 ≤ 0) → Q 0 t_7) ∧ (¬ (r_1 ≤ 0) → ((¬ (65536 : Int32) = 0) ∧ (∀ v_9 : Int32, v_9 = ((t_7.1 0) / 65536) → ((¬ r_1 = 0) ∧ (∀ v_10 : Int32, v_10 = (v_9 - v_9 / r_1 * r_1) → (wqX11_nth k (lj 1) v_10 (fun r_11 => Q r_11 t_7))))))))))))))))
def wpX11_drawFrom : Nat → Nat → XT → (Nat → Int32) → (Nat → Int64) → (Int32 → XT → Prop) → Prop
  | 0, _, _, _, _, _ => False
  | k + 1, 0, t, li, lj, Q => wbX11_drawFrom_0 (wpX11_drawFrom k) k t li lj Q
  | _ + 1, _, _, _, _, _ => False
def wqX11_drawFrom (k : Nat) (t : XT) (a1 : Int64) (Q : Int32 → XT → Prop) : Prop := wpX11_drawFrom k 0 t (fun _ => 0) (uI (fun _ => 0) 1 a1) Q
set_option maxHeartbeats 8000000 in
set_option maxRecDepth 100000 in
theorem wkX11_drawFrom (l : Launch) (D : va_G) (cI cJ cB cZ : ClassId) (ad : Nat → Nat) (k : Nat) (t : XT) (a1 : Int64) (Q : Int32 → XT → Prop) (hR : wqX11_drawFrom k t a1 Q) : MetI l yX11_drawFrom wsX11_drawFrom 3 67 0 0 D (TYS cI cJ cB cZ) (wX cI cJ cB cZ ad t) [.ref (ad 0), .long a1] (fun r u => Q r u) (fun u : XT => (wX cI cJ cB cZ ad u)) := by
  refine x_startI (ty := .int) (cc := cX11_drawFrom) (by decide) rfl (Nat.le_of_ble_eq_true rfl) ?_
  intro p e s m args below meth c A ls B hr hnm h hl
  have hx := B.1.1
  have hb := B.1.2.1
  have hml := B.1.2.2.1
  have hts := B.1.2.2.2.2
  have hown : s.vm.findClass RX11 = some m.cls := B.1.2.2.2.1
  have hin11 : ∀ w ∈ u_ws RX11 TX11 11, w ∈ wsX11_drawFrom := by decide +kernel
  have main : ∀ k : Nat, (∀ (t : XT) (li : Nat → Int32) (lj : Nat → Int64) (H : Heap) (locs : List Loc) (ls : Array Slot), wpX11_drawFrom k 0 t li lj Q → lv_has ls 4 [(0, .ref (ad 0)), (1, .long (lj 1))] → Hp D A s.heap (wX cI cJ cB cZ ad t) H locs → W p l e { frames := 3, cells := 0, slots := 0, locals := 67 } s m args below meth c H locs 0 0 (MQ below (va_Qi (fun r u => Q r u) (fun u t => xEnd D ((fun u : XT => (wX cI cJ cB cZ ad u)) u) A t) A) args s 0 0 A) (F0 m 0 ls [])) := by
    intro k
    induction k with
    | zero => exact fun _ _ _ _ _ _ hR => False.elim hR
    | succ k ih =>
      intro t li lj H locs ls hR hl h
      have hR : wbX11_drawFrom_0 (wpX11_drawFrom k) k t li lj Q := hR
      unfold wbX11_drawFrom_0 at hR
      refine lv_lload_n hx hb dX11_drawFrom_0 rfl (lv_at hl 1 rfl) ?_
      refine x_cSIE (n := 1) (As := [.long (lj 1)]) (rest := []) B h (wkJ13_bitCount_95d88 l D cI cJ cB cZ ad k (lj 1) _ hR) ⟨⟨_, rfl⟩, by decide +kernel, Nat.le_of_ble_eq_true rfl, Nat.le_of_ble_eq_true rfl⟩ gX11_drawFrom_J13_bitCount_95d88 rfl hl.1 rfl (Nat.le_of_ble_eq_true rfl) dX11_drawFrom_1 ⟨Nat.le_of_ble_eq_true rfl, Nat.le_of_ble_eq_true rfl⟩ (fun r_1 _ H locs hR h => ?_)
      refine lv_istore_n (lv' := [(3, .int r_1), (0, .ref (ad 0)), (1, .long (lj 1))]) hx hb dX11_drawFrom_4 rfl hl (by decide) rfl (fun ls hl => ?_)
      refine lv_aload_n hx hb dX11_drawFrom_5 rfl (lv_at hl 1 rfl) ?_
      refine lv_aload_n hx hb dX11_drawFrom_6 rfl (lv_at hl 1 rfl) ?_
      refine x_get (ci := 11) (C := RX11) (T := TX11) (N := 11) (v := .int (t.1 0)) B h hin11 0 10 rfl rfl (by decide) (by decide +kernel) rfl dX11_drawFrom_7 ?_
      obtain ⟨v_2, ev_2⟩ : ∃ v : Int64, v = (t.1 0).toInt64 := ⟨_, rfl⟩
      have hR := hR v_2 ev_2
      refine lv_i2l (v := v_2) hx hb dX11_drawFrom_10 ev_2.symm ?_
      refine lv_ldc2 (v := 1103515245) hx hb hown (hts (.constantLong RX11 353 1103515245) (by decide +kernel)) dX11_drawFrom_11 ?_
      refine lv_lmul hx hb dX11_drawFrom_14 ?_
      refine lv_topl (fun v_3 ev_3 => ?_)
      have hR := hR v_3 ev_3
      refine lv_ldc2 (v := 12345) hx hb hown (hts (.constantLong RX11 355 12345) (by decide +kernel)) dX11_drawFrom_15 ?_
      refine lv_ladd hx hb dX11_drawFrom_18 ?_
      refine lv_topl (fun v_4 ev_4 => ?_)
      have hR := hR v_4 ev_4
      refine lv_ldc2 (v := 2147483648) hx hb hown (hts (.constantLong RX11 357 2147483648) (by decide +kernel)) dX11_drawFrom_19 ?_
      obtain ⟨hd_5, hR⟩ := hR
      refine lv_lrem hx hb dX11_drawFrom_22 hd_5 ?_
      refine lv_topl (fun v_5 ev_5 => ?_)
      have hR := hR v_5 ev_5
      obtain ⟨v_6, ev_6⟩ : ∃ v : Int32, v = v_5.toInt32 := ⟨_, rfl⟩
      have hR := hR v_6 ev_6
      refine lv_l2i (v := v_6) hx hb dX11_drawFrom_23 ev_6.symm ?_
      refine x_put (ci := 11) (C := RX11) (T := TX11) (N := 11) (v := .int v_6) (ty := .int) B h hin11 tyX11 tyX11_ok nmX11 0 10 rfl rfl (by decide) (by decide +kernel) rfl rfl rfl rfl (Nat.le_of_ble_eq_true rfl) dX11_drawFrom_24 (fun H locs h => ?_)
      obtain ⟨t_7, et_7⟩ : ∃ v : XT, v = sI t 0 v_6 := ⟨_, rfl⟩
      have hR := hR t_7 et_7
      have h : Hp D A s.heap (wX cI cJ cB cZ ad t_7) H locs := by rw [et_7]; exact h
      refine lv_iload_n hx hb dX11_drawFrom_27 rfl (lv_at hl 0 rfl) ?_
      refine lv_if_le (tgt := 48) hx hb dX11_drawFrom_28 (by decide) (fun c_8 => ?_) (fun c_8 => ?_)
      · have hR := hR.1 c_8
        refine lv_iconst (v := 0) hx hb dX11_drawFrom_48 (by decide) ?_
        exact x_iret (w1 := (fun u : XT => (wX cI cJ cB cZ ad u))) t_7 B h hr rfl hR dX11_drawFrom_49
      · have hR := hR.2 c_8
        refine lv_lload_n hx hb dX11_drawFrom_31 rfl (lv_at hl 2 rfl) ?_
        refine lv_aload_n hx hb dX11_drawFrom_32 rfl (lv_at hl 1 rfl) ?_
        refine x_get (ci := 11) (C := RX11) (T := TX11) (N := 11) (v := .int (t_7.1 0)) B h hin11 0 10 rfl rfl (by decide) (by decide +kernel) rfl dX11_drawFrom_33 ?_
        refine lv_ldcw (v := 65536) hx hb hown (hts (.constant RX11 359 65536) (by decide +kernel)) dX11_drawFrom_36 ?_
        obtain ⟨hd_9, hR⟩ := hR
        refine lv_idiv hx hb dX11_drawFrom_39 hd_9 ?_
        refine lv_topi (fun v_9 ev_9 => ?_)
        have hR := hR v_9 ev_9
        refine lv_iload_n hx hb dX11_drawFrom_40 rfl (lv_at hl 0 rfl) ?_
        obtain ⟨hd_10, hR⟩ := hR
        refine lv_irem hx hb dX11_drawFrom_41 hd_10 ?_
        refine lv_topi (fun v_10 ev_10 => ?_)
        have hR := hR v_10 ev_10
        refine x_cSIE (n := 2) (As := [.long (lj 1), .int v_10]) (rest := []) B h (wkX11_nth l D cI cJ cB cZ ad k (lj 1) v_10 _ hR) ⟨⟨_, rfl⟩, by decide +kernel, Nat.le_of_ble_eq_true rfl, Nat.le_of_ble_eq_true rfl⟩ gX11_drawFrom_X11_nth rfl hl.1 rfl (Nat.le_of_ble_eq_true rfl) dX11_drawFrom_42 ⟨Nat.le_of_ble_eq_true rfl, Nat.le_of_ble_eq_true rfl⟩ (fun r_11 _ H locs hR h => ?_)
        refine lv_goto (tgt := 49) hx hb dX11_drawFrom_45 (by decide) ?_
        exact x_iret (w1 := (fun u : XT => (wX cI cJ cB cZ ad u))) t_7 B h hr rfl hR dX11_drawFrom_49
  exact (main k) t _ _ s.heap [] ls hR hl h
set_option maxRecDepth 20000 in
theorem ggX11_peelByDraws_X7_begin : GoodIn wsX11_peelByDraws wsX7_begin := goodIn_r _ [10, 11, 12, 13, 14, 15, 9, 16, 17, 18, 19, 20, 21, 22, 23, 24, 25, 26, 27, 28, 29, 30, 31, 32, 85, 86, 87, 88, 89, 90, 91, 92, 93, 94] (by decide +kernel) (by decide +kernel)
set_option maxRecDepth 20000 in
theorem gX11_peelByDraws_X7_begin : GoodIn wsX11_peelByDraws (wsV RX11 332 RX7 yX7_begin wsX7_begin) := goodIn_app (goodIn_of _ (by decide +kernel)) ggX11_peelByDraws_X7_begin
set_option maxRecDepth 20000 in
theorem ggX11_peelByDraws_X11_drawFrom : GoodIn wsX11_peelByDraws wsX11_drawFrom := goodIn_r _ [36, 37, 38, 39, 40, 41, 23, 24, 25, 26, 27, 28, 29, 42, 43, 21, 44, 45, 20, 22, 68, 69, 70, 71, 72, 73, 74, 75, 76, 77, 78] (by decide +kernel) (by decide +kernel)
set_option maxRecDepth 20000 in
theorem gX11_peelByDraws_X11_drawFrom : GoodIn wsX11_peelByDraws (wsV RX11 347 RX11 yX11_drawFrom wsX11_drawFrom) := goodIn_app (goodIn_of _ (by decide +kernel)) ggX11_peelByDraws_X11_drawFrom
set_option maxRecDepth 20000 in
theorem ggX11_peelByDraws_X7_above : GoodIn wsX11_peelByDraws wsX7_above := goodIn_r _ [49, 17, 18, 11, 20, 21, 22, 23, 24, 25, 26, 27, 28, 29, 85, 86, 87, 88, 89, 90, 91, 92, 93, 94] (by decide +kernel) (by decide +kernel)
set_option maxRecDepth 20000 in
theorem gX11_peelByDraws_X7_above : GoodIn wsX11_peelByDraws (wsV RX11 341 RX7 yX7_above wsX7_above) := goodIn_app (goodIn_of _ (by decide +kernel)) ggX11_peelByDraws_X7_above
set_option maxRecDepth 20000 in
theorem ggX11_peelByDraws_X7_close : GoodIn wsX11_peelByDraws wsX7_close := goodIn_r _ [53, 11, 19, 12, 17, 54, 31, 21, 32, 13, 14, 15, 9, 16, 18, 20, 22, 23, 24, 25, 26, 27, 28, 29, 30, 85, 86, 87, 88, 89, 90, 91, 92, 93, 94] (by decide +kernel) (by decide +kernel)
set_option maxRecDepth 20000 in
theorem gX11_peelByDraws_X7_close : GoodIn wsX11_peelByDraws (wsV RX11 344 RX7 yX7_close wsX7_close) := goodIn_app (goodIn_of _ (by decide +kernel)) ggX11_peelByDraws_X7_close
set_option maxRecDepth 20000 in
theorem ggX11_peelByDraws_X7_greatest : GoodIn wsX11_peelByDraws wsX7_greatest := goodIn_r _ [58, 17, 11, 59, 60, 61, 62, 63, 64, 65, 66, 21, 67, 85, 86, 87, 88, 89, 90, 91, 92, 93, 94] (by decide +kernel) (by decide +kernel)
set_option maxRecDepth 20000 in
theorem gX11_peelByDraws_X7_greatest : GoodIn wsX11_peelByDraws (wsV RX11 350 RX7 yX7_greatest wsX7_greatest) := goodIn_app (goodIn_of _ (by decide +kernel)) ggX11_peelByDraws_X7_greatest
def wbX11_peelByDraws_0 (rec : Nat → XT → (Nat → Int32) → (Nat → Int64) → (Int32 → XT → Prop) → Prop) (k : Nat) (t : XT) (li : Nat → Int32) (lj : Nat → Int64) (Q : Int32 → XT → Prop) : Prop :=
  (wqX7_begin k t (t.2.1 0) (fun t_1 => rec 1 t_1 (uI (uI li 1 0) 2 0) lj Q))
def wbX11_peelByDraws_1 (rec : Nat → XT → (Nat → Int32) → (Nat → Int64) → (Int32 → XT → Prop) → Prop) (k : Nat) (t : XT) (li : Nat → Int32) (lj : Nat → Int64) (Q : Int32 → XT → Prop) : Prop :=
  (((60 : Int32) ≤ (li 2)) → rec 3 t li lj Q) ∧ (¬ ((60 : Int32) ≤ (li 2)) → (∀ v_3 : Int32, v_3 = (lg_cmp (t.2.1 3) 0) → ((v_3 = 0) → rec 3 t li lj Q) ∧ (¬ (v_3 = 0) → (∀ v_5 : Int32, v_5 = (lg_cmp (t.2.1 4) 0) → ((v_5 = 0) → (wqX7_greatest k t  (fun r_7 t_7 => (wqX11_drawFrom k t_7 r_7 (fun r_8 t_8 => (wqX7_close k t_8 r_8 (fun t_9 => (∀ v_10 : Int32, v_10 = (li 1) + Int32.ofInt 1 → rec 2 t_9 (uI li 1 v_10) lj Q)))))))) ∧ (¬ (v_5 = 0) → (wqX11_drawFrom k t (t.2.1 4) (fun r_11 t_11 => (wqX7_above k t_11 r_11 (fun r_12 t_12 => (wqX7_close k t_12 r_12 (fun t_13 => (wqX7_close k t_13 r_11 (fun t_14 => rec 2 t_14 li lj Q)))))))))))))
def wbX11_peelByDraws_2 (rec : Nat → XT → (Nat → Int32) → (Nat → Int64) → (Int32 → XT → Prop) → Prop) (k : Nat) (t : XT) (li : Nat → Int32) (lj : Nat → Int64) (Q : Int32 → XT → Prop) : Prop :=
  (∀ v_15 : Int32, v_15 = (li 2) + Int32.ofInt 1 → rec 1 t (uI li 2 v_15) lj Q)
def wbX11_peelByDraws_3 (rec : Nat → XT → (Nat → Int32) → (Nat → Int64) → (Int32 → XT → Prop) → Prop) (k : Nat) (t : XT) (li : Nat → Int32) (lj : Nat → Int64) (Q : Int32 → XT → Prop) : Prop :=
  Q (li 1) t
def wpX11_peelByDraws : Nat → Nat → XT → (Nat → Int32) → (Nat → Int64) → (Int32 → XT → Prop) → Prop
  | 0, _, _, _, _, _ => False
  | k + 1, 0, t, li, lj, Q => wbX11_peelByDraws_0 (wpX11_peelByDraws k) k t li lj Q
  | k + 1, 1, t, li, lj, Q => wbX11_peelByDraws_1 (wpX11_peelByDraws k) k t li lj Q
  | k + 1, 2, t, li, lj, Q => wbX11_peelByDraws_2 (wpX11_peelByDraws k) k t li lj Q
  | k + 1, 3, t, li, lj, Q => wbX11_peelByDraws_3 (wpX11_peelByDraws k) k t li lj Q
  | _ + 1, _, _, _, _, _ => False
def wqX11_peelByDraws (k : Nat) (t : XT)  (Q : Int32 → XT → Prop) : Prop := wpX11_peelByDraws k 0 t (fun _ => 0) (fun _ => 0) Q
set_option maxHeartbeats 8000000 in
set_option maxRecDepth 100000 in
theorem wkX11_peelByDraws (l : Launch) (D : va_G) (cI cJ cB cZ : ClassId) (ad : Nat → Nat) (k : Nat) (t : XT)  (Q : Int32 → XT → Prop) (hR : wqX11_peelByDraws k t  Q) : MetI l yX11_peelByDraws wsX11_peelByDraws 4 90 0 0 D (TYS cI cJ cB cZ) (wX cI cJ cB cZ ad t) [.ref (ad 0)] (fun r u => Q r u) (fun u : XT => (wX cI cJ cB cZ ad u)) := by
  refine x_startI (ty := .int) (cc := cX11_peelByDraws) (by decide) rfl (Nat.le_of_ble_eq_true rfl) ?_
  intro p e s m args below meth c A ls B hr hnm h hl
  have hx := B.1.1
  have hb := B.1.2.1
  have hml := B.1.2.2.1
  have hts := B.1.2.2.2.2
  have hown : s.vm.findClass RX11 = some m.cls := B.1.2.2.2.1
  have hin6 : ∀ w ∈ u_ws RX6 TX6 6, w ∈ wsX11_peelByDraws := by decide +kernel
  have hin7 : ∀ w ∈ u_ws RX7 TX7 3, w ∈ wsX11_peelByDraws := by decide +kernel
  have hin11 : ∀ w ∈ u_ws RX11 TX11 11, w ∈ wsX11_peelByDraws := by decide +kernel
  have main : ∀ k : Nat, (∀ (t : XT) (li : Nat → Int32) (lj : Nat → Int64) (H : Heap) (locs : List Loc) (ls : Array Slot), wpX11_peelByDraws k 0 t li lj Q → lv_has ls 4 [(0, .ref (ad 0))] → Hp D A s.heap (wX cI cJ cB cZ ad t) H locs → W p l e { frames := 4, cells := 0, slots := 0, locals := 90 } s m args below meth c H locs 0 0 (MQ below (va_Qi (fun r u => Q r u) (fun u t => xEnd D ((fun u : XT => (wX cI cJ cB cZ ad u)) u) A t) A) args s 0 0 A) (F0 m 0 ls [])) ∧
      (∀ (t : XT) (li : Nat → Int32) (lj : Nat → Int64) (H : Heap) (locs : List Loc) (ls : Array Slot), wpX11_peelByDraws k 1 t li lj Q → lv_has ls 4 [(0, .ref (ad 0)), (1, .int (li 1)), (2, .int (li 2))] → Hp D A s.heap (wX cI cJ cB cZ ad t) H locs → W p l e { frames := 4, cells := 0, slots := 0, locals := 90 } s m args below meth c H locs 0 0 (MQ below (va_Qi (fun r u => Q r u) (fun u t => xEnd D ((fun u : XT => (wX cI cJ cB cZ ad u)) u) A t) A) args s 0 0 A) (F0 m 18 ls [])) ∧
      (∀ (t : XT) (li : Nat → Int32) (lj : Nat → Int64) (H : Heap) (locs : List Loc) (ls : Array Slot), wpX11_peelByDraws k 2 t li lj Q → lv_has ls 4 [(0, .ref (ad 0)), (1, .int (li 1)), (2, .int (li 2))] → Hp D A s.heap (wX cI cJ cB cZ ad t) H locs → W p l e { frames := 4, cells := 0, slots := 0, locals := 90 } s m args below meth c H locs 0 0 (MQ below (va_Qi (fun r u => Q r u) (fun u t => xEnd D ((fun u : XT => (wX cI cJ cB cZ ad u)) u) A t) A) args s 0 0 A) (F0 m 107 ls [])) ∧
      (∀ (t : XT) (li : Nat → Int32) (lj : Nat → Int64) (H : Heap) (locs : List Loc) (ls : Array Slot), wpX11_peelByDraws k 3 t li lj Q → lv_has ls 4 [(0, .ref (ad 0)), (1, .int (li 1)), (2, .int (li 2))] → Hp D A s.heap (wX cI cJ cB cZ ad t) H locs → W p l e { frames := 4, cells := 0, slots := 0, locals := 90 } s m args below meth c H locs 0 0 (MQ below (va_Qi (fun r u => Q r u) (fun u t => xEnd D ((fun u : XT => (wX cI cJ cB cZ ad u)) u) A t) A) args s 0 0 A) (F0 m 113 ls [])) := by
    intro k
    induction k with
    | zero => exact ⟨fun _ _ _ _ _ _ hR => False.elim hR, fun _ _ _ _ _ _ hR => False.elim hR, fun _ _ _ _ _ _ hR => False.elim hR, fun _ _ _ _ _ _ hR => False.elim hR⟩
    | succ k ih =>
      refine ⟨?_, ?_, ?_, ?_⟩
      · intro t li lj H locs ls hR hl h
        have hR : wbX11_peelByDraws_0 (wpX11_peelByDraws k) k t li lj Q := hR
        unfold wbX11_peelByDraws_0 at hR
        refine lv_iconst (v := 0) hx hb dX11_peelByDraws_0 (by decide) ?_
        refine lv_istore_n (lv' := [(1, .int 0), (0, .ref (ad 0))]) hx hb dX11_peelByDraws_1 rfl hl (by decide) rfl (fun ls hl => ?_)
        refine lv_aload_n hx hb dX11_peelByDraws_2 rfl (lv_at hl 1 rfl) ?_
        refine x_get (ci := 11) (C := RX11) (T := TX11) (N := 11) (v := .ref (ad 5)) B h hin11 0 4 rfl rfl (by decide) (by decide +kernel) rfl dX11_peelByDraws_3 ?_
        refine lv_aload_n hx hb dX11_peelByDraws_6 rfl (lv_at hl 1 rfl) ?_
        refine x_get (ci := 11) (C := RX11) (T := TX11) (N := 11) (v := .ref (ad 4)) B h hin11 0 3 rfl rfl (by decide) (by decide +kernel) rfl dX11_peelByDraws_7 ?_
        refine x_get (ci := 6) (C := RX6) (T := TX6) (N := 6) (v := .long (t.2.1 0)) B h hin6 4 2 rfl rfl (by decide) (by decide +kernel) rfl dX11_peelByDraws_10 ?_
        refine x_cVVF (n := 1) (As := [.long (t.2.1 0)]) (rest := []) B h (wkX7_begin l D cI cJ cB cZ ad k t (t.2.1 0) _ hR) ⟨⟨_, rfl⟩, by decide +kernel, Nat.le_of_ble_eq_true rfl, Nat.le_of_ble_eq_true rfl⟩ gX11_peelByDraws_X7_begin (show ((wX cI cJ cB cZ ad t) : va_W)[5]? = some (_, .inr (7, _)) from rfl) rfl rfl hl.1 rfl (Nat.le_of_ble_eq_true rfl) dX11_peelByDraws_13 ⟨Nat.le_of_ble_eq_true rfl, Nat.le_of_ble_eq_true rfl⟩ (fun t_1 H locs hR h => ?_)
        refine lv_iconst (v := 0) hx hb dX11_peelByDraws_16 (by decide) ?_
        refine lv_istore_n (lv' := [(2, .int 0), (1, .int 0), (0, .ref (ad 0))]) hx hb dX11_peelByDraws_17 rfl hl (by decide) rfl (fun ls hl => ?_)
        exact ih.2.1 t_1 (uI (uI li 1 0) 2 0) lj H locs ls hR (lv_sub hl [2, 1, 0] rfl) h
      · intro t li lj H locs ls hR hl h
        have hR : wbX11_peelByDraws_1 (wpX11_peelByDraws k) k t li lj Q := hR
        unfold wbX11_peelByDraws_1 at hR
        refine lv_iload_n hx hb dX11_peelByDraws_18 rfl (lv_at hl 2 rfl) ?_
        refine lv_bipush (v := 60) hx hb dX11_peelByDraws_19 (by decide) ?_
        refine lv_icmp_ge (tgt := 113) hx hb dX11_peelByDraws_21 (by decide) (fun c_2 => ?_) (fun c_2 => ?_)
        · have hR := hR.1 c_2
          exact ih.2.2.2 t li lj H locs ls hR (lv_sub hl [0, 1, 2] rfl) h
        · have hR := hR.2 c_2
          refine lv_aload_n hx hb dX11_peelByDraws_24 rfl (lv_at hl 0 rfl) ?_
          refine x_get (ci := 11) (C := RX11) (T := TX11) (N := 11) (v := .ref (ad 5)) B h hin11 0 4 rfl rfl (by decide) (by decide +kernel) rfl dX11_peelByDraws_25 ?_
          refine x_get (ci := 7) (C := RX7) (T := TX7) (N := 3) (v := .long (t.2.1 3)) B h hin7 5 1 rfl rfl (by decide) (by decide +kernel) rfl dX11_peelByDraws_28 ?_
          refine lv_lconst (v := 0) hx hb dX11_peelByDraws_31 (by decide) ?_
          refine W.lcmp hx hb dX11_peelByDraws_32 ?_
          refine lv_topi (fun v_3 ev_3 => ?_)
          have hR := hR v_3 ev_3
          refine lv_if_eq (tgt := 113) hx hb dX11_peelByDraws_33 (by decide) (fun c_4 => ?_) (fun c_4 => ?_)
          · have hR := hR.1 c_4
            exact ih.2.2.2 t li lj H locs ls hR (lv_sub hl [0, 1, 2] rfl) h
          · have hR := hR.2 c_4
            refine lv_aload_n hx hb dX11_peelByDraws_36 rfl (lv_at hl 0 rfl) ?_
            refine x_get (ci := 11) (C := RX11) (T := TX11) (N := 11) (v := .ref (ad 5)) B h hin11 0 4 rfl rfl (by decide) (by decide +kernel) rfl dX11_peelByDraws_37 ?_
            refine x_get (ci := 7) (C := RX7) (T := TX7) (N := 3) (v := .long (t.2.1 4)) B h hin7 5 2 rfl rfl (by decide) (by decide +kernel) rfl dX11_peelByDraws_40 ?_
            refine lv_lconst (v := 0) hx hb dX11_peelByDraws_43 (by decide) ?_
            refine W.lcmp hx hb dX11_peelByDraws_44 ?_
            refine lv_topi (fun v_5 ev_5 => ?_)
            have hR := hR v_5 ev_5
            refine lv_if_eq (tgt := 86) hx hb dX11_peelByDraws_45 (by decide) (fun c_6 => ?_) (fun c_6 => ?_)
            · have hR := hR.1 c_6
              refine lv_aload_n hx hb dX11_peelByDraws_86 rfl (lv_at hl 0 rfl) ?_
              refine x_get (ci := 11) (C := RX11) (T := TX11) (N := 11) (v := .ref (ad 5)) B h hin11 0 4 rfl rfl (by decide) (by decide +kernel) rfl dX11_peelByDraws_87 ?_
              refine lv_aload_n hx hb dX11_peelByDraws_90 rfl (lv_at hl 0 rfl) ?_
              refine lv_aload_n hx hb dX11_peelByDraws_91 rfl (lv_at hl 0 rfl) ?_
              refine x_get (ci := 11) (C := RX11) (T := TX11) (N := 11) (v := .ref (ad 5)) B h hin11 0 4 rfl rfl (by decide) (by decide +kernel) rfl dX11_peelByDraws_92 ?_
              refine x_cVLF (n := 0) (As := []) (rest := [.ref (ad 0), .ref (ad 5)]) B h (wkX7_greatest l D cI cJ cB cZ ad k t  _ hR) ⟨⟨_, rfl⟩, by decide +kernel, Nat.le_of_ble_eq_true rfl, Nat.le_of_ble_eq_true rfl⟩ gX11_peelByDraws_X7_greatest (show ((wX cI cJ cB cZ ad t) : va_W)[5]? = some (_, .inr (7, _)) from rfl) rfl rfl hl.1 rfl (Nat.le_of_ble_eq_true rfl) dX11_peelByDraws_95 ⟨Nat.le_of_ble_eq_true rfl, Nat.le_of_ble_eq_true rfl⟩ (fun r_7 t_7 H locs hR h => ?_)
              refine x_cVIF (n := 1) (As := [.long r_7]) (rest := [.ref (ad 5)]) B h (wkX11_drawFrom l D cI cJ cB cZ ad k t_7 r_7 _ hR) ⟨⟨_, rfl⟩, by decide +kernel, Nat.le_of_ble_eq_true rfl, Nat.le_of_ble_eq_true rfl⟩ gX11_peelByDraws_X11_drawFrom (show ((wX cI cJ cB cZ ad t_7) : va_W)[0]? = some (_, .inr (11, _)) from rfl) rfl rfl hl.1 rfl (Nat.le_of_ble_eq_true rfl) dX11_peelByDraws_98 ⟨Nat.le_of_ble_eq_true rfl, Nat.le_of_ble_eq_true rfl⟩ (fun r_8 t_8 H locs hR h => ?_)
              refine x_cVVF (n := 1) (As := [.int r_8]) (rest := []) B h (wkX7_close l D cI cJ cB cZ ad k t_8 r_8 _ hR) ⟨⟨_, rfl⟩, by decide +kernel, Nat.le_of_ble_eq_true rfl, Nat.le_of_ble_eq_true rfl⟩ gX11_peelByDraws_X7_close (show ((wX cI cJ cB cZ ad t_8) : va_W)[5]? = some (_, .inr (7, _)) from rfl) rfl rfl hl.1 rfl (Nat.le_of_ble_eq_true rfl) dX11_peelByDraws_101 ⟨Nat.le_of_ble_eq_true rfl, Nat.le_of_ble_eq_true rfl⟩ (fun t_9 H locs hR h => ?_)
              obtain ⟨v_10, ev_10⟩ : ∃ v : Int32, v = (li 1) + Int32.ofInt 1 := ⟨_, rfl⟩
              have hR := hR v_10 ev_10
              refine lv_iinc (v := v_10) (lv' := [(1, .int v_10), (0, .ref (ad 0)), (2, .int (li 2))]) hx hb dX11_peelByDraws_104 hl (k := 1) rfl ev_10.symm (by decide) rfl (fun ls hl => ?_)
              exact ih.2.2.1 t_9 (uI li 1 v_10) lj H locs ls hR (lv_sub hl [1, 0, 2] rfl) h
            · have hR := hR.2 c_6
              refine lv_aload_n hx hb dX11_peelByDraws_48 rfl (lv_at hl 0 rfl) ?_
              refine lv_aload_n hx hb dX11_peelByDraws_49 rfl (lv_at hl 0 rfl) ?_
              refine x_get (ci := 11) (C := RX11) (T := TX11) (N := 11) (v := .ref (ad 5)) B h hin11 0 4 rfl rfl (by decide) (by decide +kernel) rfl dX11_peelByDraws_50 ?_
              refine x_get (ci := 7) (C := RX7) (T := TX7) (N := 3) (v := .long (t.2.1 4)) B h hin7 5 2 rfl rfl (by decide) (by decide +kernel) rfl dX11_peelByDraws_53 ?_
              refine x_cVIF (n := 1) (As := [.long (t.2.1 4)]) (rest := []) B h (wkX11_drawFrom l D cI cJ cB cZ ad k t (t.2.1 4) _ hR) ⟨⟨_, rfl⟩, by decide +kernel, Nat.le_of_ble_eq_true rfl, Nat.le_of_ble_eq_true rfl⟩ gX11_peelByDraws_X11_drawFrom (show ((wX cI cJ cB cZ ad t) : va_W)[0]? = some (_, .inr (11, _)) from rfl) rfl rfl hl.1 rfl (Nat.le_of_ble_eq_true rfl) dX11_peelByDraws_56 ⟨Nat.le_of_ble_eq_true rfl, Nat.le_of_ble_eq_true rfl⟩ (fun r_11 t_11 H locs hR h => ?_)
              refine lv_istore_n (lv' := [(3, .int r_11), (0, .ref (ad 0)), (1, .int (li 1)), (2, .int (li 2))]) hx hb dX11_peelByDraws_59 rfl hl (by decide) rfl (fun ls hl => ?_)
              refine lv_aload_n hx hb dX11_peelByDraws_60 rfl (lv_at hl 1 rfl) ?_
              refine x_get (ci := 11) (C := RX11) (T := TX11) (N := 11) (v := .ref (ad 5)) B h hin11 0 4 rfl rfl (by decide) (by decide +kernel) rfl dX11_peelByDraws_61 ?_
              refine lv_aload_n hx hb dX11_peelByDraws_64 rfl (lv_at hl 1 rfl) ?_
              refine x_get (ci := 11) (C := RX11) (T := TX11) (N := 11) (v := .ref (ad 5)) B h hin11 0 4 rfl rfl (by decide) (by decide +kernel) rfl dX11_peelByDraws_65 ?_
              refine lv_iload_n hx hb dX11_peelByDraws_68 rfl (lv_at hl 0 rfl) ?_
              refine x_cVIF (n := 1) (As := [.int r_11]) (rest := [.ref (ad 5)]) B h (wkX7_above l D cI cJ cB cZ ad k t_11 r_11 _ hR) ⟨⟨_, rfl⟩, by decide +kernel, Nat.le_of_ble_eq_true rfl, Nat.le_of_ble_eq_true rfl⟩ gX11_peelByDraws_X7_above (show ((wX cI cJ cB cZ ad t_11) : va_W)[5]? = some (_, .inr (7, _)) from rfl) rfl rfl hl.1 rfl (Nat.le_of_ble_eq_true rfl) dX11_peelByDraws_69 ⟨Nat.le_of_ble_eq_true rfl, Nat.le_of_ble_eq_true rfl⟩ (fun r_12 t_12 H locs hR h => ?_)
              refine x_cVVF (n := 1) (As := [.int r_12]) (rest := []) B h (wkX7_close l D cI cJ cB cZ ad k t_12 r_12 _ hR) ⟨⟨_, rfl⟩, by decide +kernel, Nat.le_of_ble_eq_true rfl, Nat.le_of_ble_eq_true rfl⟩ gX11_peelByDraws_X7_close (show ((wX cI cJ cB cZ ad t_12) : va_W)[5]? = some (_, .inr (7, _)) from rfl) rfl rfl hl.1 rfl (Nat.le_of_ble_eq_true rfl) dX11_peelByDraws_72 ⟨Nat.le_of_ble_eq_true rfl, Nat.le_of_ble_eq_true rfl⟩ (fun t_13 H locs hR h => ?_)
              refine lv_aload_n hx hb dX11_peelByDraws_75 rfl (lv_at hl 1 rfl) ?_
              refine x_get (ci := 11) (C := RX11) (T := TX11) (N := 11) (v := .ref (ad 5)) B h hin11 0 4 rfl rfl (by decide) (by decide +kernel) rfl dX11_peelByDraws_76 ?_
              refine lv_iload_n hx hb dX11_peelByDraws_79 rfl (lv_at hl 0 rfl) ?_
              refine x_cVVF (n := 1) (As := [.int r_11]) (rest := []) B h (wkX7_close l D cI cJ cB cZ ad k t_13 r_11 _ hR) ⟨⟨_, rfl⟩, by decide +kernel, Nat.le_of_ble_eq_true rfl, Nat.le_of_ble_eq_true rfl⟩ gX11_peelByDraws_X7_close (show ((wX cI cJ cB cZ ad t_13) : va_W)[5]? = some (_, .inr (7, _)) from rfl) rfl rfl hl.1 rfl (Nat.le_of_ble_eq_true rfl) dX11_peelByDraws_80 ⟨Nat.le_of_ble_eq_true rfl, Nat.le_of_ble_eq_true rfl⟩ (fun t_14 H locs hR h => ?_)
              refine lv_goto (tgt := 107) hx hb dX11_peelByDraws_83 (by decide) ?_
              exact ih.2.2.1 t_14 li lj H locs ls hR (lv_sub hl [1, 2, 3] rfl) h
      · intro t li lj H locs ls hR hl h
        have hR : wbX11_peelByDraws_2 (wpX11_peelByDraws k) k t li lj Q := hR
        unfold wbX11_peelByDraws_2 at hR
        obtain ⟨v_15, ev_15⟩ : ∃ v : Int32, v = (li 2) + Int32.ofInt 1 := ⟨_, rfl⟩
        have hR := hR v_15 ev_15
        refine lv_iinc (v := v_15) (lv' := [(2, .int v_15), (0, .ref (ad 0)), (1, .int (li 1))]) hx hb dX11_peelByDraws_107 hl (k := 2) rfl ev_15.symm (by decide) rfl (fun ls hl => ?_)
        refine lv_goto (tgt := 18) hx hb dX11_peelByDraws_110 (by decide) ?_
        exact ih.2.1 t (uI li 2 v_15) lj H locs ls hR (lv_sub hl [1, 2, 0] rfl) h
      · intro t li lj H locs ls hR hl h
        have hR : wbX11_peelByDraws_3 (wpX11_peelByDraws k) k t li lj Q := hR
        unfold wbX11_peelByDraws_3 at hR
        refine lv_iload_n hx hb dX11_peelByDraws_113 rfl (lv_at hl 1 rfl) ?_
        exact x_iret (w1 := (fun u : XT => (wX cI cJ cB cZ ad u))) t B h hr rfl hR dX11_peelByDraws_114
  exact (main k).1 t _ _ s.heap [] ls hR hl h
