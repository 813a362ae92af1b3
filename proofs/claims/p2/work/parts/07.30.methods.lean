set_option maxRecDepth 20000 in
theorem ggX8_readFacet_X10_at : GoodIn wsX8_readFacet wsX10_at := goodIn_r _ [8, 9, 10, 33, 34] (by decide +kernel) (by decide +kernel)
set_option maxRecDepth 20000 in
theorem gX8_readFacet_X10_at : GoodIn wsX8_readFacet (wsV RX8 41 RX10 yX10_at wsX10_at) := goodIn_app (goodIn_of _ (by decide +kernel)) ggX8_readFacet_X10_at
set_option maxRecDepth 20000 in
theorem ggX8_readFacet_X8_isLetter : GoodIn wsX8_readFacet wsX8_isLetter := goodIn_r _ [14] (by decide +kernel) (by decide +kernel)
set_option maxRecDepth 20000 in
theorem gX8_readFacet_X8_isLetter : GoodIn wsX8_readFacet (va_wsS RX8 49 yX8_isLetter wsX8_isLetter) := goodIn_app (goodIn_of _ (by decide +kernel)) ggX8_readFacet_X8_isLetter
set_option maxRecDepth 20000 in
theorem ggX8_readFacet_X8_fault : GoodIn wsX8_readFacet wsX8_fault := goodIn_r _ [17] (by decide +kernel) (by decide +kernel)
set_option maxRecDepth 20000 in
theorem gX8_readFacet_X8_fault : GoodIn wsX8_readFacet (va_wsS RX8 45 yX8_fault wsX8_fault) := goodIn_app (goodIn_of _ (by decide +kernel)) ggX8_readFacet_X8_fault
set_option maxRecDepth 20000 in
theorem ggX8_readFacet_J6_bitCount_0f7a4 : GoodIn wsX8_readFacet wsJ6_bitCount_0f7a4 := goodIn_r _ [21, 22, 23, 24] (by decide +kernel) (by decide +kernel)
set_option maxRecDepth 20000 in
theorem gX8_readFacet_J6_bitCount_0f7a4 : GoodIn wsX8_readFacet (va_wsS RX8 53 yJ6_bitCount_0f7a4 wsJ6_bitCount_0f7a4) := goodIn_app (goodIn_of _ (by decide +kernel)) ggX8_readFacet_J6_bitCount_0f7a4
set_option maxRecDepth 20000 in
theorem ggX8_readFacet_X8_tell : GoodIn wsX8_readFacet wsX8_tell := goodIn_r _ [28, 29, 3, 30, 31, 32] (by decide +kernel) (by decide +kernel)
set_option maxRecDepth 20000 in
theorem gX8_readFacet_X8_tell : GoodIn wsX8_readFacet (wsV RX8 58 RX8 yX8_tell wsX8_tell) := goodIn_app (goodIn_of _ (by decide +kernel)) ggX8_readFacet_X8_tell
def wbX8_readFacet_c1_0 (rec : Nat → XT → (Nat → Int32) → (Nat → Int64) → (Int32 → XT → Prop) → Prop) (k : Nat) (t : XT) (li : Nat → Int32) (lj : Nat → Int64) (Q : Int32 → XT → Prop) : Prop :=
  (wqX10_at k t (t.1 3) (fun r_1 t_1 => (wqX8_isLetter k r_1 (fun r_2 => ((¬ r_2 = 0) → ((¬ (li 2) = 24) → rec 1 t_1 (uI (uI li 3 (t.1 3)) 4 0) lj Q) ∧ (((li 2) = 24) → (wqX8_fault k (t_1.1 3) 4 (fun r_5 => Q r_5 t_1)))) ∧ ((r_2 = 0) → (wqX8_fault k (t_1.1 3) 1 (fun r_6 => Q r_6 t_1)))))))
def wbX8_readFacet_c1_1 (rec : Nat → XT → (Nat → Int32) → (Nat → Int64) → (Int32 → XT → Prop) → Prop) (k : Nat) (t : XT) (li : Nat → Int32) (lj : Nat → Int64) (Q : Int32 → XT → Prop) : Prop :=
  ((((t.1 1) : Int32) ≤ (t.1 3)) → rec 2 t li lj Q) ∧ (¬ (((t.1 1) : Int32) ≤ (t.1 3)) → (wqX10_at k t (t.1 3) (fun r_8 t_8 => (wqX8_isLetter k r_8 (fun r_9 => ((r_9 = 0) → rec 2 t_8 li lj Q) ∧ (¬ (r_9 = 0) → (wqX10_at k t_8 (t_8.1 3) (fun r_11 t_11 => (∀ v_12 : Int32, v_12 = (r_11 - 97) → (∀ v_13 : Int32, v_13 = (1 <<< (v_12 &&& 31)) → (∀ v_14 : Int32, v_14 = ((li 4) &&& v_13) → ((v_14 = 0) → (wqJ6_bitCount_0f7a4 k (li 4) (fun r_16 => ((¬ r_16 = 5) → (∀ v_18 : Int32, v_18 = ((li 4) ||| v_13) → (∀ v_19 : Int32, v_19 = ((t_11.1 3) + 1) → (∀ t_20 : XT, t_20 = sI t_11 3 v_19 → rec 1 t_20 (uI li 4 v_18) lj Q)))) ∧ ((r_16 = 5) → (wqX8_fault k (t_11.1 3) 3 (fun r_21 => Q r_21 t_11)))))) ∧ (¬ (v_14 = 0) → (wqX8_fault k (t_11.1 3) 2 (fun r_22 => Q r_22 t_11))))))))))))))
def wbX8_readFacet_c1_2 (rec : Nat → XT → (Nat → Int32) → (Nat → Int64) → (Int32 → XT → Prop) → Prop) (k : Nat) (t : XT) (li : Nat → Int32) (lj : Nat → Int64) (Q : Int32 → XT → Prop) : Prop :=
  (wqX8_tell k t (li 4) (fun t_23 => (((t_23.1 2) ≤ 60) → Q 0 t_23) ∧ (¬ ((t_23.1 2) ≤ 60) → (wqX8_fault k (li 3) 5 (fun r_25 => Q r_25 t_23)))))
def wpX8_readFacet_c1 : Nat → Nat → XT → (Nat → Int32) → (Nat → Int64) → (Int32 → XT → Prop) → Prop
  | 0, _, _, _, _, _ => False
  | k + 1, 0, t, li, lj, Q => wbX8_readFacet_c1_0 (wpX8_readFacet_c1 k) k t li lj Q
  | k + 1, 1, t, li, lj, Q => wbX8_readFacet_c1_1 (wpX8_readFacet_c1 k) k t li lj Q
  | k + 1, 2, t, li, lj, Q => wbX8_readFacet_c1_2 (wpX8_readFacet_c1 k) k t li lj Q
  | _ + 1, _, _, _, _, _ => False
def wqX8_readFacet_c1 (k : Nat) (t : XT) (a2 : Int32) (Q : Int32 → XT → Prop) : Prop := wpX8_readFacet_c1 k 0 t (uI (fun _ => 0) 2 a2) (fun _ => 0) Q
set_option maxHeartbeats 8000000 in
set_option maxRecDepth 100000 in
theorem wkX8_readFacet_c1 (l : Launch) (D : va_G) (cI cJ cB cZ : ClassId) (ad : Nat → Nat) (k : Nat) (t : XT) (a2 : Int32) (Q : Int32 → XT → Prop) (hR : wqX8_readFacet_c1 k t a2 Q) : MetI l yX8_readFacet wsX8_readFacet 1 22 0 0 D (TYS cI cJ cB cZ) (wX cI cJ cB cZ ad t) [.ref (ad 2), .ref (ad 1), .int a2] (fun r u => Q r u) (fun u : XT => (wX cI cJ cB cZ ad u)) := by
  refine x_startI (ty := .int) (cc := cX8_readFacet) (by decide) rfl (Nat.le_of_ble_eq_true rfl) ?_
  intro p e s m args below meth c A ls B hr hnm h hl
  have hx := B.1.1
  have hb := B.1.2.1
  have hml := B.1.2.2.1
  have hts := B.1.2.2.2.2
  have hown : s.vm.findClass RX8 = some m.cls := B.1.2.2.2.1
  have hin8 : ∀ w ∈ u_ws RX8 TX8 3, w ∈ wsX8_readFacet := by decide +kernel
  have hin10 : ∀ w ∈ u_ws RX10 TX10 2, w ∈ wsX8_readFacet := by decide +kernel
  have main : ∀ k : Nat, (∀ (t : XT) (li : Nat → Int32) (lj : Nat → Int64) (H : Heap) (locs : List Loc) (ls : Array Slot), wpX8_readFacet_c1 k 0 t li lj Q → lv_has ls 6 [(0, .ref (ad 2)), (1, .ref (ad 1)), (2, .int (li 2))] → Hp D A s.heap (wX cI cJ cB cZ ad t) H locs → W p l e { frames := 1, cells := 0, slots := 0, locals := 22 } s m args below meth c H locs 0 0 (MQ below (va_Qi (fun r u => Q r u) (fun u t => xEnd D ((fun u : XT => (wX cI cJ cB cZ ad u)) u) A t) A) args s 0 0 A) (F0 m 0 ls [])) ∧
      (∀ (t : XT) (li : Nat → Int32) (lj : Nat → Int64) (H : Heap) (locs : List Loc) (ls : Array Slot), wpX8_readFacet_c1 k 1 t li lj Q → lv_has ls 6 [(0, .ref (ad 2)), (1, .ref (ad 1)), (2, .int (li 2)), (3, .int (li 3)), (4, .int (li 4))] → Hp D A s.heap (wX cI cJ cB cZ ad t) H locs → W p l e { frames := 1, cells := 0, slots := 0, locals := 22 } s m args below meth c H locs 0 0 (MQ below (va_Qi (fun r u => Q r u) (fun u t => xEnd D ((fun u : XT => (wX cI cJ cB cZ ad u)) u) A t) A) args s 0 0 A) (F0 m 46 ls [])) ∧
      (∀ (t : XT) (li : Nat → Int32) (lj : Nat → Int64) (H : Heap) (locs : List Loc) (ls : Array Slot), wpX8_readFacet_c1 k 2 t li lj Q → lv_has ls 6 [(0, .ref (ad 2)), (1, .ref (ad 1)), (2, .int (li 2)), (3, .int (li 3)), (4, .int (li 4))] → Hp D A s.heap (wX cI cJ cB cZ ad t) H locs → W p l e { frames := 1, cells := 0, slots := 0, locals := 22 } s m args below meth c H locs 0 0 (MQ below (va_Qi (fun r u => Q r u) (fun u t => xEnd D ((fun u : XT => (wX cI cJ cB cZ ad u)) u) A t) A) args s 0 0 A) (F0 m 141 ls [])) := by
    intro k
    induction k with
    | zero => exact ⟨fun _ _ _ _ _ _ hR => False.elim hR, fun _ _ _ _ _ _ hR => False.elim hR, fun _ _ _ _ _ _ hR => False.elim hR⟩
    | succ k ih =>
      refine ⟨?_, ?_, ?_⟩
      · intro t li lj H locs ls hR hl h
        have hR : wbX8_readFacet_c1_0 (wpX8_readFacet_c1 k) k t li lj Q := hR
        unfold wbX8_readFacet_c1_0 at hR
        refine lv_aload_n hx hb dX8_readFacet_0 rfl (lv_at hl 0 rfl) ?_
        refine x_get (ci := 8) (C := RX8) (T := TX8) (N := 3) (v := .int (t.1 3)) B h hin8 2 2 rfl rfl (by decide) (by decide +kernel) rfl dX8_readFacet_1 ?_
        refine lv_istore_n (lv' := [(3, .int (t.1 3)), (0, .ref (ad 2)), (1, .ref (ad 1)), (2, .int (li 2))]) hx hb dX8_readFacet_4 rfl hl (by decide) rfl (fun ls hl => ?_)
        refine lv_aload_n hx hb dX8_readFacet_5 rfl (lv_at hl 2 rfl) ?_
        refine lv_aload_n hx hb dX8_readFacet_6 rfl (lv_at hl 1 rfl) ?_
        refine x_get (ci := 8) (C := RX8) (T := TX8) (N := 3) (v := .int (t.1 3)) B h hin8 2 2 rfl rfl (by decide) (by decide +kernel) rfl dX8_readFacet_7 ?_
        refine x_cVIF (n := 1) (As := [.int (t.1 3)]) (rest := []) B h (wkX10_at l D cI cJ cB cZ ad k t (t.1 3) _ hR) ⟨⟨_, rfl⟩, by decide +kernel, Nat.le_of_ble_eq_true rfl, Nat.le_of_ble_eq_true rfl⟩ gX8_readFacet_X10_at (show ((wX cI cJ cB cZ ad t) : va_W)[1]? = some (_, .inr (10, _)) from rfl) rfl rfl hl.1 rfl (Nat.le_of_ble_eq_true rfl) dX8_readFacet_10 ⟨Nat.le_of_ble_eq_true rfl, Nat.le_of_ble_eq_true rfl⟩ (fun r_1 t_1 H locs hR h => ?_)
        refine x_cSIE (n := 1) (As := [.int r_1]) (rest := []) B h (wkX8_isLetter l D cI cJ cB cZ ad k r_1 _ hR) ⟨⟨_, rfl⟩, by decide +kernel, Nat.le_of_ble_eq_true rfl, Nat.le_of_ble_eq_true rfl⟩ gX8_readFacet_X8_isLetter rfl hl.1 rfl (Nat.le_of_ble_eq_true rfl) dX8_readFacet_13 ⟨Nat.le_of_ble_eq_true rfl, Nat.le_of_ble_eq_true rfl⟩ (fun r_2 _ H locs hR h => ?_)
        refine lv_if_ne (tgt := 28) hx hb dX8_readFacet_16 (by decide) (fun c_3 => ?_) (fun c_3 => ?_)
        · have hR := hR.1 c_3
          refine lv_iload_n hx hb dX8_readFacet_28 rfl (lv_at hl 3 rfl) ?_
          refine lv_bipush (v := 24) hx hb dX8_readFacet_29 (by decide) ?_
          refine lv_icmp_ne (tgt := 43) hx hb dX8_readFacet_31 (by decide) (fun c_4 => ?_) (fun c_4 => ?_)
          · have hR := hR.1 c_4
            refine lv_iconst (v := 0) hx hb dX8_readFacet_43 (by decide) ?_
            refine lv_istore (lv' := [(4, .int 0), (3, .int (t.1 3)), (0, .ref (ad 2)), (1, .ref (ad 1)), (2, .int (li 2))]) hx hb dX8_readFacet_44 hl (by decide) rfl (fun ls hl => ?_)
            exact ih.2.1 t_1 (uI (uI li 3 (t.1 3)) 4 0) lj H locs ls hR (lv_sub hl [2, 3, 4, 1, 0] rfl) h
          · have hR := hR.2 c_4
            refine lv_aload_n hx hb dX8_readFacet_34 rfl (lv_at hl 1 rfl) ?_
            refine x_get (ci := 8) (C := RX8) (T := TX8) (N := 3) (v := .int (t_1.1 3)) B h hin8 2 2 rfl rfl (by decide) (by decide +kernel) rfl dX8_readFacet_35 ?_
            refine lv_iconst (v := 4) hx hb dX8_readFacet_38 (by decide) ?_
            refine x_cSIE (n := 2) (As := [.int (t_1.1 3), .int 4]) (rest := []) B h (wkX8_fault l D cI cJ cB cZ ad k (t_1.1 3) 4 _ hR) ⟨⟨_, rfl⟩, by decide +kernel, Nat.le_of_ble_eq_true rfl, Nat.le_of_ble_eq_true rfl⟩ gX8_readFacet_X8_fault rfl hl.1 rfl (Nat.le_of_ble_eq_true rfl) dX8_readFacet_39 ⟨Nat.le_of_ble_eq_true rfl, Nat.le_of_ble_eq_true rfl⟩ (fun r_5 _ H locs hR h => ?_)
            exact x_iret (w1 := (fun u : XT => (wX cI cJ cB cZ ad u))) t_1 B h hr rfl hR dX8_readFacet_42
        · have hR := hR.2 c_3
          refine lv_aload_n hx hb dX8_readFacet_19 rfl (lv_at hl 1 rfl) ?_
          refine x_get (ci := 8) (C := RX8) (T := TX8) (N := 3) (v := .int (t_1.1 3)) B h hin8 2 2 rfl rfl (by decide) (by decide +kernel) rfl dX8_readFacet_20 ?_
          refine lv_iconst (v := 1) hx hb dX8_readFacet_23 (by decide) ?_
          refine x_cSIE (n := 2) (As := [.int (t_1.1 3), .int 1]) (rest := []) B h (wkX8_fault l D cI cJ cB cZ ad k (t_1.1 3) 1 _ hR) ⟨⟨_, rfl⟩, by decide +kernel, Nat.le_of_ble_eq_true rfl, Nat.le_of_ble_eq_true rfl⟩ gX8_readFacet_X8_fault rfl hl.1 rfl (Nat.le_of_ble_eq_true rfl) dX8_readFacet_24 ⟨Nat.le_of_ble_eq_true rfl, Nat.le_of_ble_eq_true rfl⟩ (fun r_6 _ H locs hR h => ?_)
          exact x_iret (w1 := (fun u : XT => (wX cI cJ cB cZ ad u))) t_1 B h hr rfl hR dX8_readFacet_27
      · intro t li lj H locs ls hR hl h
        have hR : wbX8_readFacet_c1_1 (wpX8_readFacet_c1 k) k t li lj Q := hR
        unfold wbX8_readFacet_c1_1 at hR
        refine lv_aload_n hx hb dX8_readFacet_46 rfl (lv_at hl 0 rfl) ?_
        refine x_get (ci := 8) (C := RX8) (T := TX8) (N := 3) (v := .int (t.1 3)) B h hin8 2 2 rfl rfl (by decide) (by decide +kernel) rfl dX8_readFacet_47 ?_
        refine lv_aload_n hx hb dX8_readFacet_50 rfl (lv_at hl 1 rfl) ?_
        refine x_get (ci := 10) (C := RX10) (T := TX10) (N := 2) (v := .int (t.1 1)) B h hin10 1 1 rfl rfl (by decide) (by decide +kernel) rfl dX8_readFacet_51 ?_
        refine lv_icmp_ge (tgt := 141) hx hb dX8_readFacet_54 (by decide) (fun c_7 => ?_) (fun c_7 => ?_)
        · have hR := hR.1 c_7
          exact ih.2.2 t li lj H locs ls hR (lv_sub hl [0, 1, 2, 3, 4] rfl) h
        · have hR := hR.2 c_7
          refine lv_aload_n hx hb dX8_readFacet_57 rfl (lv_at hl 1 rfl) ?_
          refine lv_aload_n hx hb dX8_readFacet_58 rfl (lv_at hl 0 rfl) ?_
          refine x_get (ci := 8) (C := RX8) (T := TX8) (N := 3) (v := .int (t.1 3)) B h hin8 2 2 rfl rfl (by decide) (by decide +kernel) rfl dX8_readFacet_59 ?_
          refine x_cVIF (n := 1) (As := [.int (t.1 3)]) (rest := []) B h (wkX10_at l D cI cJ cB cZ ad k t (t.1 3) _ hR) ⟨⟨_, rfl⟩, by decide +kernel, Nat.le_of_ble_eq_true rfl, Nat.le_of_ble_eq_true rfl⟩ gX8_readFacet_X10_at (show ((wX cI cJ cB cZ ad t) : va_W)[1]? = some (_, .inr (10, _)) from rfl) rfl rfl hl.1 rfl (Nat.le_of_ble_eq_true rfl) dX8_readFacet_62 ⟨Nat.le_of_ble_eq_true rfl, Nat.le_of_ble_eq_true rfl⟩ (fun r_8 t_8 H locs hR h => ?_)
          refine x_cSIE (n := 1) (As := [.int r_8]) (rest := []) B h (wkX8_isLetter l D cI cJ cB cZ ad k r_8 _ hR) ⟨⟨_, rfl⟩, by decide +kernel, Nat.le_of_ble_eq_true rfl, Nat.le_of_ble_eq_true rfl⟩ gX8_readFacet_X8_isLetter rfl hl.1 rfl (Nat.le_of_ble_eq_true rfl) dX8_readFacet_65 ⟨Nat.le_of_ble_eq_true rfl, Nat.le_of_ble_eq_true rfl⟩ (fun r_9 _ H locs hR h => ?_)
          refine lv_if_eq (tgt := 141) hx hb dX8_readFacet_68 (by decide) (fun c_10 => ?_) (fun c_10 => ?_)
          · have hR := hR.1 c_10
            exact ih.2.2 t_8 li lj H locs ls hR (lv_sub hl [0, 1, 2, 3, 4] rfl) h
          · have hR := hR.2 c_10
            refine lv_iconst (v := 1) hx hb dX8_readFacet_71 (by decide) ?_
            refine lv_aload_n hx hb dX8_readFacet_72 rfl (lv_at hl 1 rfl) ?_
            refine lv_aload_n hx hb dX8_readFacet_73 rfl (lv_at hl 0 rfl) ?_
            refine x_get (ci := 8) (C := RX8) (T := TX8) (N := 3) (v := .int (t_8.1 3)) B h hin8 2 2 rfl rfl (by decide) (by decide +kernel) rfl dX8_readFacet_74 ?_
            refine x_cVIF (n := 1) (As := [.int (t_8.1 3)]) (rest := [.int 1]) B h (wkX10_at l D cI cJ cB cZ ad k t_8 (t_8.1 3) _ hR) ⟨⟨_, rfl⟩, by decide +kernel, Nat.le_of_ble_eq_true rfl, Nat.le_of_ble_eq_true rfl⟩ gX8_readFacet_X10_at (show ((wX cI cJ cB cZ ad t_8) : va_W)[1]? = some (_, .inr (10, _)) from rfl) rfl rfl hl.1 rfl (Nat.le_of_ble_eq_true rfl) dX8_readFacet_77 ⟨Nat.le_of_ble_eq_true rfl, Nat.le_of_ble_eq_true rfl⟩ (fun r_11 t_11 H locs hR h => ?_)
            refine lv_bipush (v := 97) hx hb dX8_readFacet_80 (by decide) ?_
            refine lv_isub hx hb dX8_readFacet_82 ?_
            refine lv_topi (fun v_12 ev_12 => ?_)
            have hR := hR v_12 ev_12
            refine lv_ishl hx hb dX8_readFacet_83 ?_
            refine lv_topi (fun v_13 ev_13 => ?_)
            have hR := hR v_13 ev_13
            refine lv_istore (lv' := [(5, .int v_13), (0, .ref (ad 2)), (1, .ref (ad 1)), (2, .int (li 2)), (3, .int (li 3)), (4, .int (li 4))]) hx hb dX8_readFacet_84 hl (by decide) rfl (fun ls hl => ?_)
            refine lv_iload hx hb dX8_readFacet_86 (lv_at hl 5 rfl) ?_
            refine lv_iload hx hb dX8_readFacet_88 (lv_at hl 0 rfl) ?_
            refine lv_iand hx hb dX8_readFacet_90 ?_
            refine lv_topi (fun v_14 ev_14 => ?_)
            have hR := hR v_14 ev_14
            refine lv_if_eq (tgt := 103) hx hb dX8_readFacet_91 (by decide) (fun c_15 => ?_) (fun c_15 => ?_)
            · have hR := hR.1 c_15
              refine lv_iload hx hb dX8_readFacet_103 (lv_at hl 5 rfl) ?_
              refine x_cSIE (n := 1) (As := [.int (li 4)]) (rest := []) B h (wkJ6_bitCount_0f7a4 l D cI cJ cB cZ ad k (li 4) _ hR) ⟨⟨_, rfl⟩, by decide +kernel, Nat.le_of_ble_eq_true rfl, Nat.le_of_ble_eq_true rfl⟩ gX8_readFacet_J6_bitCount_0f7a4 rfl hl.1 rfl (Nat.le_of_ble_eq_true rfl) dX8_readFacet_105 ⟨Nat.le_of_ble_eq_true rfl, Nat.le_of_ble_eq_true rfl⟩ (fun r_16 _ H locs hR h => ?_)
              refine lv_iconst (v := 5) hx hb dX8_readFacet_108 (by decide) ?_
              refine lv_icmp_ne (tgt := 121) hx hb dX8_readFacet_109 (by decide) (fun c_17 => ?_) (fun c_17 => ?_)
              · have hR := hR.1 c_17
                refine lv_iload hx hb dX8_readFacet_121 (lv_at hl 5 rfl) ?_
                refine lv_iload hx hb dX8_readFacet_123 (lv_at hl 0 rfl) ?_
                refine lv_ior hx hb dX8_readFacet_125 ?_
                refine lv_topi (fun v_18 ev_18 => ?_)
                have hR := hR v_18 ev_18
                refine lv_istore (lv' := [(4, .int v_18), (5, .int v_13), (0, .ref (ad 2)), (1, .ref (ad 1)), (2, .int (li 2)), (3, .int (li 3))]) hx hb dX8_readFacet_126 hl (by decide) rfl (fun ls hl => ?_)
                refine lv_aload_n hx hb dX8_readFacet_128 rfl (lv_at hl 2 rfl) ?_
                refine lv_dup hx hb dX8_readFacet_129 rfl ?_
                refine x_get (ci := 8) (C := RX8) (T := TX8) (N := 3) (v := .int (t_11.1 3)) B h hin8 2 2 rfl rfl (by decide) (by decide +kernel) rfl dX8_readFacet_130 ?_
                refine lv_iconst (v := 1) hx hb dX8_readFacet_133 (by decide) ?_
                refine lv_iadd hx hb dX8_readFacet_134 ?_
                refine lv_topi (fun v_19 ev_19 => ?_)
                have hR := hR v_19 ev_19
                refine x_put (ci := 8) (C := RX8) (T := TX8) (N := 3) (v := .int v_19) (ty := .int) B h hin8 tyX8 tyX8_ok nmX8 2 2 rfl rfl (by decide) (by decide +kernel) rfl rfl rfl rfl (Nat.le_of_ble_eq_true rfl) dX8_readFacet_135 (fun H locs h => ?_)
                obtain ⟨t_20, et_20⟩ : ∃ v : XT, v = sI t_11 3 v_19 := ⟨_, rfl⟩
                have hR := hR t_20 et_20
                have h : Hp D A s.heap (wX cI cJ cB cZ ad t_20) H locs := by rw [et_20]; exact h
                refine lv_goto (tgt := 46) hx hb dX8_readFacet_138 (by decide) ?_
                exact ih.2.1 t_20 (uI li 4 v_18) lj H locs ls hR (lv_sub hl [2, 3, 4, 5, 0] rfl) h
              · have hR := hR.2 c_17
                refine lv_aload_n hx hb dX8_readFacet_112 rfl (lv_at hl 1 rfl) ?_
                refine x_get (ci := 8) (C := RX8) (T := TX8) (N := 3) (v := .int (t_11.1 3)) B h hin8 2 2 rfl rfl (by decide) (by decide +kernel) rfl dX8_readFacet_113 ?_
                refine lv_iconst (v := 3) hx hb dX8_readFacet_116 (by decide) ?_
                refine x_cSIE (n := 2) (As := [.int (t_11.1 3), .int 3]) (rest := []) B h (wkX8_fault l D cI cJ cB cZ ad k (t_11.1 3) 3 _ hR) ⟨⟨_, rfl⟩, by decide +kernel, Nat.le_of_ble_eq_true rfl, Nat.le_of_ble_eq_true rfl⟩ gX8_readFacet_X8_fault rfl hl.1 rfl (Nat.le_of_ble_eq_true rfl) dX8_readFacet_117 ⟨Nat.le_of_ble_eq_true rfl, Nat.le_of_ble_eq_true rfl⟩ (fun r_21 _ H locs hR h => ?_)
                exact x_iret (w1 := (fun u : XT => (wX cI cJ cB cZ ad u))) t_11 B h hr rfl hR dX8_readFacet_120
            · have hR := hR.2 c_15
              refine lv_aload_n hx hb dX8_readFacet_94 rfl (lv_at hl 1 rfl) ?_
              refine x_get (ci := 8) (C := RX8) (T := TX8) (N := 3) (v := .int (t_11.1 3)) B h hin8 2 2 rfl rfl (by decide) (by decide +kernel) rfl dX8_readFacet_95 ?_
              refine lv_iconst (v := 2) hx hb dX8_readFacet_98 (by decide) ?_
              refine x_cSIE (n := 2) (As := [.int (t_11.1 3), .int 2]) (rest := []) B h (wkX8_fault l D cI cJ cB cZ ad k (t_11.1 3) 2 _ hR) ⟨⟨_, rfl⟩, by decide +kernel, Nat.le_of_ble_eq_true rfl, Nat.le_of_ble_eq_true rfl⟩ gX8_readFacet_X8_fault rfl hl.1 rfl (Nat.le_of_ble_eq_true rfl) dX8_readFacet_99 ⟨Nat.le_of_ble_eq_true rfl, Nat.le_of_ble_eq_true rfl⟩ (fun r_22 _ H locs hR h => ?_)
              exact x_iret (w1 := (fun u : XT => (wX cI cJ cB cZ ad u))) t_11 B h hr rfl hR dX8_readFacet_102
      · intro t li lj H locs ls hR hl h
        have hR : wbX8_readFacet_c1_2 (wpX8_readFacet_c1 k) k t li lj Q := hR
        unfold wbX8_readFacet_c1_2 at hR
        refine lv_aload_n hx hb dX8_readFacet_141 rfl (lv_at hl 0 rfl) ?_
        refine lv_iload hx hb dX8_readFacet_142 (lv_at hl 4 rfl) ?_
        refine x_cVVF (n := 1) (As := [.int (li 4)]) (rest := []) B h (wkX8_tell l D cI cJ cB cZ ad k t (li 4) _ hR) ⟨⟨_, rfl⟩, by decide +kernel, Nat.le_of_ble_eq_true rfl, Nat.le_of_ble_eq_true rfl⟩ gX8_readFacet_X8_tell (show ((wX cI cJ cB cZ ad t) : va_W)[2]? = some (_, .inr (8, _)) from rfl) rfl rfl hl.1 rfl (Nat.le_of_ble_eq_true rfl) dX8_readFacet_144 ⟨Nat.le_of_ble_eq_true rfl, Nat.le_of_ble_eq_true rfl⟩ (fun t_23 H locs hR h => ?_)
        refine lv_aload_n hx hb dX8_readFacet_147 rfl (lv_at hl 0 rfl) ?_
        refine x_get (ci := 8) (C := RX8) (T := TX8) (N := 3) (v := .int (t_23.1 2)) B h hin8 2 1 rfl rfl (by decide) (by decide +kernel) rfl dX8_readFacet_148 ?_
        refine lv_bipush (v := 60) hx hb dX8_readFacet_151 (by decide) ?_
        refine lv_icmp_le (tgt := 164) hx hb dX8_readFacet_153 (by decide) (fun c_24 => ?_) (fun c_24 => ?_)
        · have hR := hR.1 c_24
          refine lv_iconst (v := 0) hx hb dX8_readFacet_164 (by decide) ?_
          exact x_iret (w1 := (fun u : XT => (wX cI cJ cB cZ ad u))) t_23 B h hr rfl hR dX8_readFacet_165
        · have hR := hR.2 c_24
          refine lv_iload_n hx hb dX8_readFacet_156 rfl (lv_at hl 3 rfl) ?_
          refine lv_iconst (v := 5) hx hb dX8_readFacet_157 (by decide) ?_
          refine x_cSIE (n := 2) (As := [.int (li 3), .int 5]) (rest := []) B h (wkX8_fault l D cI cJ cB cZ ad k (li 3) 5 _ hR) ⟨⟨_, rfl⟩, by decide +kernel, Nat.le_of_ble_eq_true rfl, Nat.le_of_ble_eq_true rfl⟩ gX8_readFacet_X8_fault rfl hl.1 rfl (Nat.le_of_ble_eq_true rfl) dX8_readFacet_158 ⟨Nat.le_of_ble_eq_true rfl, Nat.le_of_ble_eq_true rfl⟩ (fun r_25 _ H locs hR h => ?_)
          refine lv_goto (tgt := 165) hx hb dX8_readFacet_161 (by decide) ?_
          exact x_iret (w1 := (fun u : XT => (wX cI cJ cB cZ ad u))) t_23 B h hr rfl hR dX8_readFacet_165
  exact (main k).1 t _ _ s.heap [] ls hR hl h
set_option maxRecDepth 20000 in
theorem ggX8_read_J7_fill_53178 : GoodIn wsX8_read wsJ7_fill_53178 := goodIn_r _ [8] (by decide +kernel) (by decide +kernel)
set_option maxRecDepth 20000 in
theorem gX8_read_J7_fill_53178 : GoodIn wsX8_read (va_wsS RX8 15 yJ7_fill_53178 wsJ7_fill_53178) := goodIn_app (goodIn_of _ (by decide +kernel)) ggX8_read_J7_fill_53178
set_option maxRecDepth 20000 in
theorem ggX8_read_X8_skipBlanks : GoodIn wsX8_read wsX8_skipBlanks := goodIn_r _ [13, 3, 4, 14, 15, 16, 17, 18, 19, 20, 42, 43, 44, 45, 46] (by decide +kernel) (by decide +kernel)
set_option maxRecDepth 20000 in
theorem gX8_read_X8_skipBlanks : GoodIn wsX8_read (wsV RX8 28 RX8 yX8_skipBlanks wsX8_skipBlanks) := goodIn_app (goodIn_of _ (by decide +kernel)) ggX8_read_X8_skipBlanks
set_option maxRecDepth 20000 in
theorem ggX8_read_X8_readFacet : GoodIn wsX8_read wsX8_readFacet := goodIn_r _ [24, 3, 4, 2, 14, 15, 16, 17, 18, 19, 20, 25, 26, 12, 27, 28, 29, 30, 31, 32, 33, 34, 35, 36, 37, 38, 39, 40, 41, 1, 42, 43, 44, 45, 46] (by decide +kernel) (by decide +kernel)
set_option maxRecDepth 20000 in
theorem gX8_read_X8_readFacet : GoodIn wsX8_read (wsV RX8 32 RX8 yX8_readFacet wsX8_readFacet) := goodIn_app (goodIn_of _ (by decide +kernel)) ggX8_read_X8_readFacet
set_option maxRecDepth 20000 in
theorem ggX8_read_X10_at : GoodIn wsX8_read wsX10_at := goodIn_r _ [18, 19, 20, 45, 46] (by decide +kernel) (by decide +kernel)
set_option maxRecDepth 20000 in
theorem gX8_read_X10_at : GoodIn wsX8_read (wsV RX8 41 RX10 yX10_at wsX10_at) := goodIn_app (goodIn_of _ (by decide +kernel)) ggX8_read_X10_at
set_option maxRecDepth 20000 in
theorem ggX8_read_X8_fault : GoodIn wsX8_read wsX8_fault := goodIn_r _ [30] (by decide +kernel) (by decide +kernel)
set_option maxRecDepth 20000 in
theorem gX8_read_X8_fault : GoodIn wsX8_read (va_wsS RX8 45 yX8_fault wsX8_fault) := goodIn_app (goodIn_of _ (by decide +kernel)) ggX8_read_X8_fault
def wbX8_read_c1_0 (rec : Nat → XT → (Nat → Int32) → (Nat → Int64) → (Int32 → XT → Prop) → Prop) (k : Nat) (t : XT) (li : Nat → Int32) (lj : Nat → Int64) (Q : Int32 → XT → Prop) : Prop :=
  (∀ t_1 : XT, t_1 = sA t 1 (fun _ => 0) → (∀ t_2 : XT, t_2 = sI t_1 2 0 → (∀ t_3 : XT, t_3 = sI t_2 3 0 → rec 1 t_3 (uI li 2 0) lj Q)))
def wbX8_read_c1_1 (rec : Nat → XT → (Nat → Int32) → (Nat → Int64) → (Int32 → XT → Prop) → Prop) (k : Nat) (t : XT) (li : Nat → Int32) (lj : Nat → Int64) (Q : Int32 → XT → Prop) : Prop :=
  (((24 : Int32) < (li 2)) → (wqX8_fault k (t.1 3) 4 (fun r_5 => Q r_5 t))) ∧ (¬ ((24 : Int32) < (li 2)) → (wqX8_skipBlanks_c1 k t  (fun t_6 => (wqX8_readFacet_c1 k t_6 (li 2) (fun r_7 t_7 => ((r_7 = 0) → (wqX8_skipBlanks_c1 k t_7  (fun t_9 => ((¬ (t_9.1 3) = (t_9.1 1)) → (wqX10_at k t_9 (t_9.1 3) (fun r_11 t_11 => ((r_11 = 44) → (∀ v_13 : Int32, v_13 = ((t_11.1 3) + 1) → (∀ t_14 : XT, t_14 = sI t_11 3 v_13 → (∀ v_15 : Int32, v_15 = (li 2) + Int32.ofInt 1 → rec 1 t_14 (uI li 2 v_15) lj Q)))) ∧ (¬ (r_11 = 44) → (wqX8_fault k (t_11.1 3) 1 (fun r_16 => Q r_16 t_11)))))) ∧ (((t_9.1 3) = (t_9.1 1)) → Q 0 t_9)))) ∧ (¬ (r_7 = 0) → Q r_7 t_7))))))
def wpX8_read_c1 : Nat → Nat → XT → (Nat → Int32) → (Nat → Int64) → (Int32 → XT → Prop) → Prop
  | 0, _, _, _, _, _ => False
  | k + 1, 0, t, li, lj, Q => wbX8_read_c1_0 (wpX8_read_c1 k) k t li lj Q
  | k + 1, 1, t, li, lj, Q => wbX8_read_c1_1 (wpX8_read_c1 k) k t li lj Q
  | _ + 1, _, _, _, _, _ => False
def wqX8_read_c1 (k : Nat) (t : XT)  (Q : Int32 → XT → Prop) : Prop := wpX8_read_c1 k 0 t (fun _ => 0) (fun _ => 0) Q
set_option maxHeartbeats 8000000 in
set_option maxRecDepth 100000 in
theorem wkX8_read_c1 (l : Launch) (D : va_G) (cI cJ cB cZ : ClassId) (ad : Nat → Nat) (k : Nat) (t : XT)  (Q : Int32 → XT → Prop) (hR : wqX8_read_c1 k t  Q) : MetI l yX8_read wsX8_read 2 47 0 0 D (TYS cI cJ cB cZ) (wX cI cJ cB cZ ad t) [.ref (ad 2), .ref (ad 1)] (fun r u => Q r u) (fun u : XT => (wX cI cJ cB cZ ad u)) := by
  refine x_startI (ty := .int) (cc := cX8_read) (by decide) rfl (Nat.le_of_ble_eq_true rfl) ?_
  intro p e s m args below meth c A ls B hr hnm h hl
  have hx := B.1.1
  have hb := B.1.2.1
  have hml := B.1.2.2.1
  have hts := B.1.2.2.2.2
  have hown : s.vm.findClass RX8 = some m.cls := B.1.2.2.2.1
  have hin8 : ∀ w ∈ u_ws RX8 TX8 3, w ∈ wsX8_read := by decide +kernel
  have hin10 : ∀ w ∈ u_ws RX10 TX10 2, w ∈ wsX8_read := by decide +kernel
  have main : ∀ k : Nat, (∀ (t : XT) (li : Nat → Int32) (lj : Nat → Int64) (H : Heap) (locs : List Loc) (ls : Array Slot), wpX8_read_c1 k 0 t li lj Q → lv_has ls 4 [(0, .ref (ad 2)), (1, .ref (ad 1))] → Hp D A s.heap (wX cI cJ cB cZ ad t) H locs → W p l e { frames := 2, cells := 0, slots := 0, locals := 47 } s m args below meth c H locs 0 0 (MQ below (va_Qi (fun r u => Q r u) (fun u t => xEnd D ((fun u : XT => (wX cI cJ cB cZ ad u)) u) A t) A) args s 0 0 A) (F0 m 0 ls [])) ∧
      (∀ (t : XT) (li : Nat → Int32) (lj : Nat → Int64) (H : Heap) (locs : List Loc) (ls : Array Slot), wpX8_read_c1 k 1 t li lj Q → lv_has ls 4 [(0, .ref (ad 2)), (1, .ref (ad 1)), (2, .int (li 2))] → Hp D A s.heap (wX cI cJ cB cZ ad t) H locs → W p l e { frames := 2, cells := 0, slots := 0, locals := 47 } s m args below meth c H locs 0 0 (MQ below (va_Qi (fun r u => Q r u) (fun u t => xEnd D ((fun u : XT => (wX cI cJ cB cZ ad u)) u) A t) A) args s 0 0 A) (F0 m 20 ls [])) := by
    intro k
    induction k with
    | zero => exact ⟨fun _ _ _ _ _ _ hR => False.elim hR, fun _ _ _ _ _ _ hR => False.elim hR⟩
    | succ k ih =>
      refine ⟨?_, ?_⟩
      · intro t li lj H locs ls hR hl h
        have hR : wbX8_read_c1_0 (wpX8_read_c1 k) k t li lj Q := hR
        unfold wbX8_read_c1_0 at hR
        refine lv_aload_n hx hb dX8_read_0 rfl (lv_at hl 0 rfl) ?_
        refine x_get (ci := 8) (C := RX8) (T := TX8) (N := 3) (v := .ref (ad 13)) B h hin8 2 0 rfl rfl (by decide) (by decide +kernel) rfl dX8_read_1 ?_
        refine lv_iconst (v := 0) hx hb dX8_read_4 (by decide) ?_
        refine x_cSV (n := 2) (pre := ((wX cI cJ cB cZ ad t) : va_W).take 13) (post := ((wX cI cJ cB cZ ad t) : va_W).drop 14) (wc := [((ad 13), .inl (cI, 256, .inl (t.2.2.1 1)))]) (As := [.ref (ad 13), .int 0]) (rest := []) B h (c_fillI l D (TYS cI cJ cB cZ) cI 0 rfl (ad 13) 256 (by decide) (t.2.2.1 1) 0) ⟨⟨_, rfl⟩, by decide +kernel, Nat.le_of_ble_eq_true rfl, Nat.le_of_ble_eq_true rfl⟩ gX8_read_J7_fill_53178 rfl hl.1 rfl (Nat.le_of_ble_eq_true rfl) dX8_read_5 ⟨Nat.le_of_ble_eq_true rfl, Nat.le_of_ble_eq_true rfl⟩ (fun _ H locs _ h => ?_)
        obtain ⟨t_1, et_1⟩ : ∃ v : XT, v = sA t 1 (fun _ => 0) := ⟨_, rfl⟩
        have hR := hR t_1 et_1
        have h : Hp D A s.heap (wX cI cJ cB cZ ad t_1) H locs := by rw [et_1]; exact h
        refine lv_aload_n hx hb dX8_read_8 rfl (lv_at hl 0 rfl) ?_
        refine lv_iconst (v := 0) hx hb dX8_read_9 (by decide) ?_
        refine x_put (ci := 8) (C := RX8) (T := TX8) (N := 3) (v := .int 0) (ty := .int) B h hin8 tyX8 tyX8_ok nmX8 2 1 rfl rfl (by decide) (by decide +kernel) rfl rfl rfl rfl (Nat.le_of_ble_eq_true rfl) dX8_read_10 (fun H locs h => ?_)
        obtain ⟨t_2, et_2⟩ : ∃ v : XT, v = sI t_1 2 0 := ⟨_, rfl⟩
        have hR := hR t_2 et_2
        have h : Hp D A s.heap (wX cI cJ cB cZ ad t_2) H locs := by rw [et_2]; exact h
        refine lv_aload_n hx hb dX8_read_13 rfl (lv_at hl 0 rfl) ?_
        refine lv_iconst (v := 0) hx hb dX8_read_14 (by decide) ?_
        refine x_put (ci := 8) (C := RX8) (T := TX8) (N := 3) (v := .int 0) (ty := .int) B h hin8 tyX8 tyX8_ok nmX8 2 2 rfl rfl (by decide) (by decide +kernel) rfl rfl rfl rfl (Nat.le_of_ble_eq_true rfl) dX8_read_15 (fun H locs h => ?_)
        obtain ⟨t_3, et_3⟩ : ∃ v : XT, v = sI t_2 3 0 := ⟨_, rfl⟩
        have hR := hR t_3 et_3
        have h : Hp D A s.heap (wX cI cJ cB cZ ad t_3) H locs := by rw [et_3]; exact h
        refine lv_iconst (v := 0) hx hb dX8_read_18 (by decide) ?_
        refine lv_istore_n (lv' := [(2, .int 0), (0, .ref (ad 2)), (1, .ref (ad 1))]) hx hb dX8_read_19 rfl hl (by decide) rfl (fun ls hl => ?_)
        exact ih.2 t_3 (uI li 2 0) lj H locs ls hR (lv_sub hl [1, 2, 0] rfl) h
      · intro t li lj H locs ls hR hl h
        have hR : wbX8_read_c1_1 (wpX8_read_c1 k) k t li lj Q := hR
        unfold wbX8_read_c1_1 at hR
        refine lv_iload_n hx hb dX8_read_20 rfl (lv_at hl 2 rfl) ?_
        refine lv_bipush (v := 24) hx hb dX8_read_21 (by decide) ?_
        refine lv_icmp_gt (tgt := 100) hx hb dX8_read_23 (by decide) (fun c_4 => ?_) (fun c_4 => ?_)
        · have hR := hR.1 c_4
          refine lv_aload_n hx hb dX8_read_100 rfl (lv_at hl 0 rfl) ?_
          refine x_get (ci := 8) (C := RX8) (T := TX8) (N := 3) (v := .int (t.1 3)) B h hin8 2 2 rfl rfl (by decide) (by decide +kernel) rfl dX8_read_101 ?_
          refine lv_iconst (v := 4) hx hb dX8_read_104 (by decide) ?_
          refine x_cSIE (n := 2) (As := [.int (t.1 3), .int 4]) (rest := []) B h (wkX8_fault l D cI cJ cB cZ ad k (t.1 3) 4 _ hR) ⟨⟨_, rfl⟩, by decide +kernel, Nat.le_of_ble_eq_true rfl, Nat.le_of_ble_eq_true rfl⟩ gX8_read_X8_fault rfl hl.1 rfl (Nat.le_of_ble_eq_true rfl) dX8_read_105 ⟨Nat.le_of_ble_eq_true rfl, Nat.le_of_ble_eq_true rfl⟩ (fun r_5 _ H locs hR h => ?_)
          exact x_iret (w1 := (fun u : XT => (wX cI cJ cB cZ ad u))) t B h hr rfl hR dX8_read_108
        · have hR := hR.2 c_4
          refine lv_aload_n hx hb dX8_read_26 rfl (lv_at hl 0 rfl) ?_
          refine lv_aload_n hx hb dX8_read_27 rfl (lv_at hl 1 rfl) ?_
          refine x_cVVF (n := 1) (As := [.ref (ad 1)]) (rest := []) B h (wkX8_skipBlanks_c1 l D cI cJ cB cZ ad k t  _ hR) ⟨⟨_, rfl⟩, by decide +kernel, Nat.le_of_ble_eq_true rfl, Nat.le_of_ble_eq_true rfl⟩ gX8_read_X8_skipBlanks (show ((wX cI cJ cB cZ ad t) : va_W)[2]? = some (_, .inr (8, _)) from rfl) rfl rfl hl.1 rfl (Nat.le_of_ble_eq_true rfl) dX8_read_28 ⟨Nat.le_of_ble_eq_true rfl, Nat.le_of_ble_eq_true rfl⟩ (fun t_6 H locs hR h => ?_)
          refine lv_aload_n hx hb dX8_read_31 rfl (lv_at hl 0 rfl) ?_
          refine lv_aload_n hx hb dX8_read_32 rfl (lv_at hl 1 rfl) ?_
          refine lv_iload_n hx hb dX8_read_33 rfl (lv_at hl 2 rfl) ?_
          refine x_cVIF (n := 2) (As := [.ref (ad 1), .int (li 2)]) (rest := []) B h (wkX8_readFacet_c1 l D cI cJ cB cZ ad k t_6 (li 2) _ hR) ⟨⟨_, rfl⟩, by decide +kernel, Nat.le_of_ble_eq_true rfl, Nat.le_of_ble_eq_true rfl⟩ gX8_read_X8_readFacet (show ((wX cI cJ cB cZ ad t_6) : va_W)[2]? = some (_, .inr (8, _)) from rfl) rfl rfl hl.1 rfl (Nat.le_of_ble_eq_true rfl) dX8_read_34 ⟨Nat.le_of_ble_eq_true rfl, Nat.le_of_ble_eq_true rfl⟩ (fun r_7 t_7 H locs hR h => ?_)
          refine lv_istore_n (lv' := [(3, .int r_7), (0, .ref (ad 2)), (1, .ref (ad 1)), (2, .int (li 2))]) hx hb dX8_read_37 rfl hl (by decide) rfl (fun ls hl => ?_)
          refine lv_iload_n hx hb dX8_read_38 rfl (lv_at hl 0 rfl) ?_
          refine lv_if_eq (tgt := 44) hx hb dX8_read_39 (by decide) (fun c_8 => ?_) (fun c_8 => ?_)
          · have hR := hR.1 c_8
            refine lv_aload_n hx hb dX8_read_44 rfl (lv_at hl 1 rfl) ?_
            refine lv_aload_n hx hb dX8_read_45 rfl (lv_at hl 2 rfl) ?_
            refine x_cVVF (n := 1) (As := [.ref (ad 1)]) (rest := []) B h (wkX8_skipBlanks_c1 l D cI cJ cB cZ ad k t_7  _ hR) ⟨⟨_, rfl⟩, by decide +kernel, Nat.le_of_ble_eq_true rfl, Nat.le_of_ble_eq_true rfl⟩ gX8_read_X8_skipBlanks (show ((wX cI cJ cB cZ ad t_7) : va_W)[2]? = some (_, .inr (8, _)) from rfl) rfl rfl hl.1 rfl (Nat.le_of_ble_eq_true rfl) dX8_read_46 ⟨Nat.le_of_ble_eq_true rfl, Nat.le_of_ble_eq_true rfl⟩ (fun t_9 H locs hR h => ?_)
            refine lv_aload_n hx hb dX8_read_49 rfl (lv_at hl 1 rfl) ?_
            refine x_get (ci := 8) (C := RX8) (T := TX8) (N := 3) (v := .int (t_9.1 3)) B h hin8 2 2 rfl rfl (by decide) (by decide +kernel) rfl dX8_read_50 ?_
            refine lv_aload_n hx hb dX8_read_53 rfl (lv_at hl 2 rfl) ?_
            refine x_get (ci := 10) (C := RX10) (T := TX10) (N := 2) (v := .int (t_9.1 1)) B h hin10 1 1 rfl rfl (by decide) (by decide +kernel) rfl dX8_read_54 ?_
            refine lv_icmp_ne (tgt := 62) hx hb dX8_read_57 (by decide) (fun c_10 => ?_) (fun c_10 => ?_)
            · have hR := hR.1 c_10
              refine lv_aload_n hx hb dX8_read_62 rfl (lv_at hl 2 rfl) ?_
              refine lv_aload_n hx hb dX8_read_63 rfl (lv_at hl 1 rfl) ?_
              refine x_get (ci := 8) (C := RX8) (T := TX8) (N := 3) (v := .int (t_9.1 3)) B h hin8 2 2 rfl rfl (by decide) (by decide +kernel) rfl dX8_read_64 ?_
              refine x_cVIF (n := 1) (As := [.int (t_9.1 3)]) (rest := []) B h (wkX10_at l D cI cJ cB cZ ad k t_9 (t_9.1 3) _ hR) ⟨⟨_, rfl⟩, by decide +kernel, Nat.le_of_ble_eq_true rfl, Nat.le_of_ble_eq_true rfl⟩ gX8_read_X10_at (show ((wX cI cJ cB cZ ad t_9) : va_W)[1]? = some (_, .inr (10, _)) from rfl) rfl rfl hl.1 rfl (Nat.le_of_ble_eq_true rfl) dX8_read_67 ⟨Nat.le_of_ble_eq_true rfl, Nat.le_of_ble_eq_true rfl⟩ (fun r_11 t_11 H locs hR h => ?_)
              refine lv_bipush (v := 44) hx hb dX8_read_70 (by decide) ?_
              refine lv_icmp_eq (tgt := 84) hx hb dX8_read_72 (by decide) (fun c_12 => ?_) (fun c_12 => ?_)
              · have hR := hR.1 c_12
                refine lv_aload_n hx hb dX8_read_84 rfl (lv_at hl 1 rfl) ?_
                refine lv_dup hx hb dX8_read_85 rfl ?_
                refine x_get (ci := 8) (C := RX8) (T := TX8) (N := 3) (v := .int (t_11.1 3)) B h hin8 2 2 rfl rfl (by decide) (by decide +kernel) rfl dX8_read_86 ?_
                refine lv_iconst (v := 1) hx hb dX8_read_89 (by decide) ?_
                refine lv_iadd hx hb dX8_read_90 ?_
                refine lv_topi (fun v_13 ev_13 => ?_)
                have hR := hR v_13 ev_13
                refine x_put (ci := 8) (C := RX8) (T := TX8) (N := 3) (v := .int v_13) (ty := .int) B h hin8 tyX8 tyX8_ok nmX8 2 2 rfl rfl (by decide) (by decide +kernel) rfl rfl rfl rfl (Nat.le_of_ble_eq_true rfl) dX8_read_91 (fun H locs h => ?_)
                obtain ⟨t_14, et_14⟩ : ∃ v : XT, v = sI t_11 3 v_13 := ⟨_, rfl⟩
                have hR := hR t_14 et_14
                have h : Hp D A s.heap (wX cI cJ cB cZ ad t_14) H locs := by rw [et_14]; exact h
                obtain ⟨v_15, ev_15⟩ : ∃ v : Int32, v = (li 2) + Int32.ofInt 1 := ⟨_, rfl⟩
                have hR := hR v_15 ev_15
                refine lv_iinc (v := v_15) (lv' := [(2, .int v_15), (3, .int r_7), (0, .ref (ad 2)), (1, .ref (ad 1))]) hx hb dX8_read_94 hl (k := 3) rfl ev_15.symm (by decide) rfl (fun ls hl => ?_)
                refine lv_goto (tgt := 20) hx hb dX8_read_97 (by decide) ?_
                exact ih.2 t_14 (uI li 2 v_15) lj H locs ls hR (lv_sub hl [2, 3, 0] rfl) h
              · have hR := hR.2 c_12
                refine lv_aload_n hx hb dX8_read_75 rfl (lv_at hl 1 rfl) ?_
                refine x_get (ci := 8) (C := RX8) (T := TX8) (N := 3) (v := .int (t_11.1 3)) B h hin8 2 2 rfl rfl (by decide) (by decide +kernel) rfl dX8_read_76 ?_
                refine lv_iconst (v := 1) hx hb dX8_read_79 (by decide) ?_
                refine x_cSIE (n := 2) (As := [.int (t_11.1 3), .int 1]) (rest := []) B h (wkX8_fault l D cI cJ cB cZ ad k (t_11.1 3) 1 _ hR) ⟨⟨_, rfl⟩, by decide +kernel, Nat.le_of_ble_eq_true rfl, Nat.le_of_ble_eq_true rfl⟩ gX8_read_X8_fault rfl hl.1 rfl (Nat.le_of_ble_eq_true rfl) dX8_read_80 ⟨Nat.le_of_ble_eq_true rfl, Nat.le_of_ble_eq_true rfl⟩ (fun r_16 _ H locs hR h => ?_)
                exact x_iret (w1 := (fun u : XT => (wX cI cJ cB cZ ad u))) t_11 B h hr rfl hR dX8_read_83
            · have hR := hR.2 c_10
              refine lv_iconst (v := 0) hx hb dX8_read_60 (by decide) ?_
              exact x_iret (w1 := (fun u : XT => (wX cI cJ cB cZ ad u))) t_9 B h hr rfl hR dX8_read_61
          · have hR := hR.2 c_8
            refine lv_iload_n hx hb dX8_read_42 rfl (lv_at hl 0 rfl) ?_
            exact x_iret (w1 := (fun u : XT => (wX cI cJ cB cZ ad u))) t_7 B h hr rfl hR dX8_read_43
  exact (main k).1 t _ _ s.heap [] ls hR hl h
def wbX11_bit_0 (rec : Nat → (Nat → Int32) → (Nat → Int64) → (Int64 → Prop) → Prop) (k : Nat) (li : Nat → Int32) (lj : Nat → Int64) (Q : Int64 → Prop) : Prop :=
  (∀ v_1 : Int64, v_1 = ((1 : Int64) <<< ((li 0).toInt64 &&& 63)) → Q v_1)
def wpX11_bit : Nat → Nat → (Nat → Int32) → (Nat → Int64) → (Int64 → Prop) → Prop
  | 0, _, _, _, _ => False
  | k + 1, 0, li, lj, Q => wbX11_bit_0 (wpX11_bit k) k li lj Q
  | _ + 1, _, _, _, _ => False
def wqX11_bit (k : Nat) (a0 : Int32) (Q : Int64 → Prop) : Prop := wpX11_bit k 0 (uI (fun _ => 0) 0 a0) (fun _ => 0) Q
set_option maxHeartbeats 8000000 in
set_option maxRecDepth 100000 in
theorem wkX11_bit (l : Launch) (D : va_G) (cI cJ cB cZ : ClassId) (ad : Nat → Nat) (k : Nat) (a0 : Int32) (Q : Int64 → Prop) (hR : wqX11_bit k a0 Q) : MetL l yX11_bit wsX11_bit 0 0 0 0 D (TYS cI cJ cB cZ) [] [.int a0] (fun r _ => Q r) (fun _ : Unit => []) := by
  refine x_startL (ty := .long) (cc := cX11_bit) (by decide) rfl (Nat.le_of_ble_eq_true rfl) ?_
  intro p e s m args below meth c A ls B hr hnm h hl
  have hx := B.1.1
  have hb := B.1.2.1
  have hml := B.1.2.2.1
  have hts := B.1.2.2.2.2
  have hown : s.vm.findClass RX11 = some m.cls := B.1.2.2.2.1
  have main : ∀ k : Nat, (∀ (li : Nat → Int32) (lj : Nat → Int64) (H : Heap) (locs : List Loc) (ls : Array Slot), wpX11_bit k 0 li lj Q → lv_has ls 1 [(0, .int (li 0))] → Hp D A s.heap [] H locs → W p l e { frames := 0, cells := 0, slots := 0, locals := 0 } s m args below meth c H locs 0 0 (MQ below (va_Ql (fun r _ => Q r) (fun u t => xEnd D ((fun _ : Unit => []) u) A t) A) args s 0 0 A) (F0 m 0 ls [])) := by
    intro k
    induction k with
    | zero => exact fun _ _ _ _ _ hR => False.elim hR
    | succ k ih =>
      intro li lj H locs ls hR hl h
      have hR : wbX11_bit_0 (wpX11_bit k) k li lj Q := hR
      unfold wbX11_bit_0 at hR
      refine lv_lconst (v := 1) hx hb dX11_bit_0 (by decide) ?_
      refine lv_iload_n hx hb dX11_bit_1 rfl (lv_at hl 0 rfl) ?_
      obtain ⟨v_1, ev_1⟩ : ∃ v : Int64, v = ((1 : Int64) <<< ((li 0).toInt64 &&& 63)) := ⟨_, rfl⟩
      have hR := hR v_1 ev_1
      refine lv_lshl (v := v_1) hx hb dX11_bit_2 ev_1.symm ?_
      exact x_lret (w1 := (fun _ : Unit => [])) () B h hr hR dX11_bit_3
  exact (main k) _ _ s.heap [] ls hR hl h
set_option maxRecDepth 20000 in
theorem ggX9_add_X11_bit : GoodIn wsX9_add wsX11_bit := goodIn_r _ [10] (by decide +kernel) (by decide +kernel)
set_option maxRecDepth 20000 in
theorem gX9_add_X11_bit_n41 : GoodIn wsX9_add (wsX11_bit) := ggX9_add_X11_bit
def wbX9_add_0 (rec : Nat → XT → (Nat → Int32) → (Nat → Int64) → (XT → Prop) → Prop) (k : Nat) (t : XT) (li : Nat → Int32) (lj : Nat → Int64) (Q : XT → Prop) : Prop :=
  (vp_in (t.1 4) 64 ∧ (∀ t_1 : XT, t_1 = sA t 2 (upd (t.2.2.1 2) (t.1 4).toNatClampNeg (li 1)) → (vp_in (t_1.1 4) 64 ∧ (∀ t_2 : XT, t_2 = sA t_1 3 (upd (t_1.2.2.1 3) (t_1.1 4).toNatClampNeg (li 2)) → (vp_in (li 1) 256 ∧ (∀ t_3 : XT, t_3 = sA t_2 4 (upd (t_2.2.2.1 4) (li 1).toNatClampNeg (t_2.1 4)) → (vp_in (li 2) 5 ∧ (∀ v_4 : Int64, v_4 = (t_3.2.2.2 2) (li 2).toNatClampNeg → (wqX11_bit k (t_3.1 4) (fun r_5 => (∀ v_6 : Int64, v_6 = (v_4 ||| r_5) → (vp_in (li 2) 5 ∧ (∀ t_7 : XT, t_7 = sB t_3 2 (vp_updL (t_3.2.2.2 2) (li 2).toNatClampNeg v_6) → rec 1 t_7 (uI li 3 0) lj Q)))))))))))))
def wbX9_add_1 (rec : Nat → XT → (Nat → Int32) → (Nat → Int64) → (XT → Prop) → Prop) (k : Nat) (t : XT) (li : Nat → Int32) (lj : Nat → Int64) (Q : XT → Prop) : Prop :=
  (((8 : Int32) ≤ (li 3)) → (∀ v_9 : Int32, v_9 = ((t.1 4) + 1) → (∀ t_10 : XT, t_10 = sI t 4 v_9 → Q t_10))) ∧ (¬ ((8 : Int32) ≤ (li 3)) → (∀ v_11 : Int32, v_11 = (1 <<< ((li 3) &&& 31)) → (∀ v_12 : Int32, v_12 = (v_11 ^^^ (-1)) → (∀ v_13 : Int32, v_13 = ((li 1) &&& v_12) → ((v_13 = (li 1)) → rec 2 t (uI (uI li 4 v_13) 100 (-1)) lj Q) ∧ (¬ (v_13 = (li 1)) → (vp_in v_13 256 ∧ (∀ v_15 : Int32, v_15 = (t.2.2.1 4) v_13.toNatClampNeg → rec 2 t (uI (uI li 4 v_13) 100 v_15) lj Q)))))))
def wbX9_add_2 (rec : Nat → XT → (Nat → Int32) → (Nat → Int64) → (XT → Prop) → Prop) (k : Nat) (t : XT) (li : Nat → Int32) (lj : Nat → Int64) (Q : XT → Prop) : Prop :=
  (((li 100) = (-1)) → rec 3 t (uI li 5 (li 100)) lj Q) ∧ (¬ ((li 100) = (-1)) → (vp_in (t.1 4) 64 ∧ (∀ v_17 : Int64, v_17 = (t.2.2.2 0) (t.1 4).toNatClampNeg → (wqX11_bit k (li 100) (fun r_18 => (∀ v_19 : Int64, v_19 = (v_17 ||| r_18) → (vp_in (t.1 4) 64 ∧ (∀ t_20 : XT, t_20 = sB t 0 (vp_updL (t.2.2.2 0) (t.1 4).toNatClampNeg v_19) → (vp_in (li 100) 64 ∧ (∀ v_21 : Int64, v_21 = (t_20.2.2.2 1) (li 100).toNatClampNeg → (wqX11_bit k (t_20.1 4) (fun r_22 => (∀ v_23 : Int64, v_23 = (v_21 ||| r_22) → (vp_in (li 100) 64 ∧ (∀ t_24 : XT, t_24 = sB t_20 1 (vp_updL (t_20.2.2.2 1) (li 100).toNatClampNeg v_23) → rec 3 t_24 (uI li 5 (li 100)) lj Q)))))))))))))))
def wbX9_add_3 (rec : Nat → XT → (Nat → Int32) → (Nat → Int64) → (XT → Prop) → Prop) (k : Nat) (t : XT) (li : Nat → Int32) (lj : Nat → Int64) (Q : XT → Prop) : Prop :=
  (∀ v_25 : Int32, v_25 = (li 3) + Int32.ofInt 1 → rec 1 t (uI li 3 v_25) lj Q)
def wpX9_add : Nat → Nat → XT → (Nat → Int32) → (Nat → Int64) → (XT → Prop) → Prop
  | 0, _, _, _, _, _ => False
  | k + 1, 0, t, li, lj, Q => wbX9_add_0 (wpX9_add k) k t li lj Q
  | k + 1, 1, t, li, lj, Q => wbX9_add_1 (wpX9_add k) k t li lj Q
  | k + 1, 2, t, li, lj, Q => wbX9_add_2 (wpX9_add k) k t li lj Q
  | k + 1, 3, t, li, lj, Q => wbX9_add_3 (wpX9_add k) k t li lj Q
  | _ + 1, _, _, _, _, _ => False
def wqX9_add (k : Nat) (t : XT) (a1 : Int32) (a2 : Int32) (Q : XT → Prop) : Prop := wpX9_add k 0 t (uI (uI (fun _ => 0) 1 a1) 2 a2) (fun _ => 0) Q
set_option maxHeartbeats 8000000 in
set_option maxRecDepth 100000 in
theorem wkX9_add (l : Launch) (D : va_G) (cI cJ cB cZ : ClassId) (ad : Nat → Nat) (k : Nat) (t : XT) (a1 : Int32) (a2 : Int32) (Q : XT → Prop) (hR : wqX9_add k t a1 a2 Q) : MetV l yX9_add wsX9_add 1 20 0 0 D (TYS cI cJ cB cZ) (wX cI cJ cB cZ ad t) [.ref (ad 3), .int a1, .int a2] (fun u => Q u) (fun u : XT => (wX cI cJ cB cZ ad u)) := by
  refine x_startV (ty := .int) (cc := cX9_add) (by decide) rfl (Nat.le_of_ble_eq_true rfl) ?_
  intro p e s m args below meth c A ls B hr hnm h hl
  have hx := B.1.1
  have hb := B.1.2.1
  have hml := B.1.2.2.1
  have hts := B.1.2.2.2.2
  have hown : s.vm.findClass RX9 = some m.cls := B.1.2.2.2.1
  have hin9 : ∀ w ∈ u_ws RX9 TX9 7, w ∈ wsX9_add := by decide +kernel
  have main : ∀ k : Nat, (∀ (t : XT) (li : Nat → Int32) (lj : Nat → Int64) (H : Heap) (locs : List Loc) (ls : Array Slot), wpX9_add k 0 t li lj Q → lv_has ls 6 [(0, .ref (ad 3)), (1, .int (li 1)), (2, .int (li 2))] → Hp D A s.heap (wX cI cJ cB cZ ad t) H locs → W p l e { frames := 1, cells := 0, slots := 0, locals := 20 } s m args below meth c H locs 0 0 (MQ below (va_Qv (fun u => Q u) (fun u t => xEnd D ((fun u : XT => (wX cI cJ cB cZ ad u)) u) A t) A) args s 0 0 A) (F0 m 0 ls [])) ∧
      (∀ (t : XT) (li : Nat → Int32) (lj : Nat → Int64) (H : Heap) (locs : List Loc) (ls : Array Slot), wpX9_add k 1 t li lj Q → lv_has ls 6 [(0, .ref (ad 3)), (1, .int (li 1)), (2, .int (li 2)), (3, .int (li 3))] → Hp D A s.heap (wX cI cJ cB cZ ad t) H locs → W p l e { frames := 1, cells := 0, slots := 0, locals := 20 } s m args below meth c H locs 0 0 (MQ below (va_Qv (fun u => Q u) (fun u t => xEnd D ((fun u : XT => (wX cI cJ cB cZ ad u)) u) A t) A) args s 0 0 A) (F0 m 48 ls [])) ∧
      (∀ (t : XT) (li : Nat → Int32) (lj : Nat → Int64) (H : Heap) (locs : List Loc) (ls : Array Slot), wpX9_add k 2 t li lj Q → lv_has ls 6 [(0, .ref (ad 3)), (1, .int (li 1)), (2, .int (li 2)), (3, .int (li 3)), (4, .int (li 4))] → Hp D A s.heap (wX cI cJ cB cZ ad t) H locs → W p l e { frames := 1, cells := 0, slots := 0, locals := 20 } s m args below meth c H locs 0 0 (MQ below (va_Qv (fun u => Q u) (fun u t => xEnd D ((fun u : XT => (wX cI cJ cB cZ ad u)) u) A t) A) args s 0 0 A) (F0 m 80 ls [.int (li 100)])) ∧
      (∀ (t : XT) (li : Nat → Int32) (lj : Nat → Int64) (H : Heap) (locs : List Loc) (ls : Array Slot), wpX9_add k 3 t li lj Q → lv_has ls 6 [(0, .ref (ad 3)), (1, .int (li 1)), (2, .int (li 2)), (3, .int (li 3)), (4, .int (li 4)), (5, .int (li 5))] → Hp D A s.heap (wX cI cJ cB cZ ad t) H locs → W p l e { frames := 1, cells := 0, slots := 0, locals := 20 } s m args below meth c H locs 0 0 (MQ below (va_Qv (fun u => Q u) (fun u t => xEnd D ((fun u : XT => (wX cI cJ cB cZ ad u)) u) A t) A) args s 0 0 A) (F0 m 122 ls [])) := by
    intro k
    induction k with
    | zero => exact ⟨fun _ _ _ _ _ _ hR => False.elim hR, fun _ _ _ _ _ _ hR => False.elim hR, fun _ _ _ _ _ _ hR => False.elim hR, fun _ _ _ _ _ _ hR => False.elim hR⟩
    | succ k ih =>
      refine ⟨?_, ?_, ?_, ?_⟩
      · intro t li lj H locs ls hR hl h
        have hR : wbX9_add_0 (wpX9_add k) k t li lj Q := hR
        unfold wbX9_add_0 at hR
        refine lv_aload_n hx hb dX9_add_0 rfl (lv_at hl 0 rfl) ?_
        refine x_get (ci := 9) (C := RX9) (T := TX9) (N := 7) (v := .ref (ad 14)) B h hin9 3 1 rfl rfl (by decide) (by decide +kernel) rfl dX9_add_1 ?_
        refine lv_aload_n hx hb dX9_add_4 rfl (lv_at hl 0 rfl) ?_
        refine x_get (ci := 9) (C := RX9) (T := TX9) (N := 7) (v := .int (t.1 4)) B h hin9 3 0 rfl rfl (by decide) (by decide +kernel) rfl dX9_add_5 ?_
        refine lv_iload_n hx hb dX9_add_8 rfl (lv_at hl 1 rfl) ?_
        obtain ⟨hb_1, hR⟩ := hR
        refine z_iast (f := (t.2.2.1 2)) B h 14 0 rfl rfl hb_1 dX9_add_9 (fun H locs h => ?_)
        obtain ⟨t_1, et_1⟩ : ∃ v : XT, v = sA t 2 (upd (t.2.2.1 2) (t.1 4).toNatClampNeg (li 1)) := ⟨_, rfl⟩
        have hR := hR t_1 et_1
        have h : Hp D A s.heap (wX cI cJ cB cZ ad t_1) H locs := by rw [et_1]; exact h
        refine lv_aload_n hx hb dX9_add_10 rfl (lv_at hl 0 rfl) ?_
        refine x_get (ci := 9) (C := RX9) (T := TX9) (N := 7) (v := .ref (ad 15)) B h hin9 3 2 rfl rfl (by decide) (by decide +kernel) rfl dX9_add_11 ?_
        refine lv_aload_n hx hb dX9_add_14 rfl (lv_at hl 0 rfl) ?_
        refine x_get (ci := 9) (C := RX9) (T := TX9) (N := 7) (v := .int (t_1.1 4)) B h hin9 3 0 rfl rfl (by decide) (by decide +kernel) rfl dX9_add_15 ?_
        refine lv_iload_n hx hb dX9_add_18 rfl (lv_at hl 2 rfl) ?_
        obtain ⟨hb_2, hR⟩ := hR
        refine z_iast (f := (t_1.2.2.1 3)) B h 15 0 rfl rfl hb_2 dX9_add_19 (fun H locs h => ?_)
        obtain ⟨t_2, et_2⟩ : ∃ v : XT, v = sA t_1 3 (upd (t_1.2.2.1 3) (t_1.1 4).toNatClampNeg (li 2)) := ⟨_, rfl⟩
        have hR := hR t_2 et_2
        have h : Hp D A s.heap (wX cI cJ cB cZ ad t_2) H locs := by rw [et_2]; exact h
        refine lv_aload_n hx hb dX9_add_20 rfl (lv_at hl 0 rfl) ?_
        refine x_get (ci := 9) (C := RX9) (T := TX9) (N := 7) (v := .ref (ad 16)) B h hin9 3 3 rfl rfl (by decide) (by decide +kernel) rfl dX9_add_21 ?_
        refine lv_iload_n hx hb dX9_add_24 rfl (lv_at hl 1 rfl) ?_
        refine lv_aload_n hx hb dX9_add_25 rfl (lv_at hl 0 rfl) ?_
        refine x_get (ci := 9) (C := RX9) (T := TX9) (N := 7) (v := .int (t_2.1 4)) B h hin9 3 0 rfl rfl (by decide) (by decide +kernel) rfl dX9_add_26 ?_
        obtain ⟨hb_3, hR⟩ := hR
        refine z_iast (f := (t_2.2.2.1 4)) B h 16 0 rfl rfl hb_3 dX9_add_29 (fun H locs h => ?_)
        obtain ⟨t_3, et_3⟩ : ∃ v : XT, v = sA t_2 4 (upd (t_2.2.2.1 4) (li 1).toNatClampNeg (t_2.1 4)) := ⟨_, rfl⟩
        have hR := hR t_3 et_3
        have h : Hp D A s.heap (wX cI cJ cB cZ ad t_3) H locs := by rw [et_3]; exact h
        refine lv_aload_n hx hb dX9_add_30 rfl (lv_at hl 0 rfl) ?_
        refine x_get (ci := 9) (C := RX9) (T := TX9) (N := 7) (v := .ref (ad 19)) B h hin9 3 6 rfl rfl (by decide) (by decide +kernel) rfl dX9_add_31 ?_
        refine lv_iload_n hx hb dX9_add_34 rfl (lv_at hl 2 rfl) ?_
        refine lv_dup2_11 hx hb dX9_add_35 rfl rfl ?_
        obtain ⟨hb_4, hR⟩ := hR
        refine va_lald (f := (t_3.2.2.2 2)) hx hb B.2.1 h.1 19 1 rfl rfl hb_4 dX9_add_36 ?_
        refine lv_topl (fun v_4 ev_4 => ?_)
        have hR := hR v_4 ev_4
        refine lv_aload_n hx hb dX9_add_37 rfl (lv_at hl 0 rfl) ?_
        refine x_get (ci := 9) (C := RX9) (T := TX9) (N := 7) (v := .int (t_3.1 4)) B h hin9 3 0 rfl rfl (by decide) (by decide +kernel) rfl dX9_add_38 ?_
        refine x_cNLE (n := 1) (As := [.int (t_3.1 4)]) (rest := [.long v_4, .int (li 2), .ref (ad 19)]) B h (wkX11_bit l D cI cJ cB cZ ad k (t_3.1 4) _ hR) ⟨⟨_, rfl⟩, by decide +kernel, Nat.le_of_ble_eq_true rfl, Nat.le_of_ble_eq_true rfl⟩ gX9_add_X11_bit_n41 (by decide +kernel) (by decide +kernel) (host := "MorseDesk") (by decide +kernel) rfl hl.1 rfl (Nat.le_of_ble_eq_true rfl) dX9_add_41 ⟨Nat.le_of_ble_eq_true rfl, Nat.le_of_ble_eq_true rfl⟩ (fun r_5 _ H locs hR h => ?_)
        refine lv_lor hx hb dX9_add_44 ?_
        refine lv_topl (fun v_6 ev_6 => ?_)
        have hR := hR v_6 ev_6
        obtain ⟨hb_7, hR⟩ := hR
        refine z_last (f := (t_3.2.2.2 2)) B h 19 1 rfl rfl hb_7 dX9_add_45 (fun H locs h => ?_)
        obtain ⟨t_7, et_7⟩ : ∃ v : XT, v = sB t_3 2 (vp_updL (t_3.2.2.2 2) (li 2).toNatClampNeg v_6) := ⟨_, rfl⟩
        have hR := hR t_7 et_7
        have h : Hp D A s.heap (wX cI cJ cB cZ ad t_7) H locs := by rw [et_7]; exact h
        refine lv_iconst (v := 0) hx hb dX9_add_46 (by decide) ?_
        refine lv_istore_n (lv' := [(3, .int 0), (0, .ref (ad 3)), (1, .int (li 1)), (2, .int (li 2))]) hx hb dX9_add_47 rfl hl (by decide) rfl (fun ls hl => ?_)
        exact ih.2.1 t_7 (uI li 3 0) lj H locs ls hR (lv_sub hl [1, 2, 3, 0] rfl) h
      · intro t li lj H locs ls hR hl h
        have hR : wbX9_add_1 (wpX9_add k) k t li lj Q := hR
        unfold wbX9_add_1 at hR
        refine lv_iload_n hx hb dX9_add_48 rfl (lv_at hl 3 rfl) ?_
        refine lv_bipush (v := 8) hx hb dX9_add_49 (by decide) ?_
        refine lv_icmp_ge (tgt := 128) hx hb dX9_add_51 (by decide) (fun c_8 => ?_) (fun c_8 => ?_)
        · have hR := hR.1 c_8
          refine lv_aload_n hx hb dX9_add_128 rfl (lv_at hl 0 rfl) ?_
          refine lv_dup hx hb dX9_add_129 rfl ?_
          refine x_get (ci := 9) (C := RX9) (T := TX9) (N := 7) (v := .int (t.1 4)) B h hin9 3 0 rfl rfl (by decide) (by decide +kernel) rfl dX9_add_130 ?_
          refine lv_iconst (v := 1) hx hb dX9_add_133 (by decide) ?_
          refine lv_iadd hx hb dX9_add_134 ?_
          refine lv_topi (fun v_9 ev_9 => ?_)
          have hR := hR v_9 ev_9
          refine x_put (ci := 9) (C := RX9) (T := TX9) (N := 7) (v := .int v_9) (ty := .int) B h hin9 tyX9 tyX9_ok nmX9 3 0 rfl rfl (by decide) (by decide +kernel) rfl rfl rfl rfl (Nat.le_of_ble_eq_true rfl) dX9_add_135 (fun H locs h => ?_)
          obtain ⟨t_10, et_10⟩ : ∃ v : XT, v = sI t 4 v_9 := ⟨_, rfl⟩
          have hR := hR t_10 et_10
          have h : Hp D A s.heap (wX cI cJ cB cZ ad t_10) H locs := by rw [et_10]; exact h
          exact x_vret (w1 := (fun u : XT => (wX cI cJ cB cZ ad u))) t_10 B h hr hR dX9_add_138
        · have hR := hR.2 c_8
          refine lv_iload_n hx hb dX9_add_54 rfl (lv_at hl 1 rfl) ?_
          refine lv_iconst (v := 1) hx hb dX9_add_55 (by decide) ?_
          refine lv_iload_n hx hb dX9_add_56 rfl (lv_at hl 3 rfl) ?_
          refine lv_ishl hx hb dX9_add_57 ?_
          refine lv_topi (fun v_11 ev_11 => ?_)
          have hR := hR v_11 ev_11
          refine lv_iconst (v := (-1)) hx hb dX9_add_58 (by decide) ?_
          refine lv_ixor hx hb dX9_add_59 ?_
          refine lv_topi (fun v_12 ev_12 => ?_)
          have hR := hR v_12 ev_12
          refine lv_iand hx hb dX9_add_60 ?_
          refine lv_topi (fun v_13 ev_13 => ?_)
          have hR := hR v_13 ev_13
          refine lv_istore (lv' := [(4, .int v_13), (0, .ref (ad 3)), (1, .int (li 1)), (2, .int (li 2)), (3, .int (li 3))]) hx hb dX9_add_61 hl (by decide) rfl (fun ls hl => ?_)
          refine lv_iload hx hb dX9_add_63 (lv_at hl 0 rfl) ?_
          refine lv_iload_n hx hb dX9_add_65 rfl (lv_at hl 2 rfl) ?_
          refine lv_icmp_eq (tgt := 79) hx hb dX9_add_66 (by decide) (fun c_14 => ?_) (fun c_14 => ?_)
          · have hR := hR.1 c_14
            refine lv_iconst (v := (-1)) hx hb dX9_add_79 (by decide) ?_
            exact ih.2.2.1 t (uI (uI li 4 v_13) 100 (-1)) lj H locs ls hR (lv_sub hl [1, 2, 3, 4, 0] rfl) h
          · have hR := hR.2 c_14
            refine lv_aload_n hx hb dX9_add_69 rfl (lv_at hl 1 rfl) ?_
            refine x_get (ci := 9) (C := RX9) (T := TX9) (N := 7) (v := .ref (ad 16)) B h hin9 3 3 rfl rfl (by decide) (by decide +kernel) rfl dX9_add_70 ?_
            refine lv_iload hx hb dX9_add_73 (lv_at hl 0 rfl) ?_
            obtain ⟨hb_15, hR⟩ := hR
            refine va_iald (f := (t.2.2.1 4)) hx hb B.2.1 h.1 16 0 rfl rfl hb_15 dX9_add_75 ?_
            refine lv_topi (fun v_15 ev_15 => ?_)
            have hR := hR v_15 ev_15
            refine lv_goto (tgt := 80) hx hb dX9_add_76 (by decide) ?_
            exact ih.2.2.1 t (uI (uI li 4 v_13) 100 v_15) lj H locs ls hR (lv_sub hl [1, 2, 3, 4, 0] rfl) h
      · intro t li lj H locs ls hR hl h
        have hR : wbX9_add_2 (wpX9_add k) k t li lj Q := hR
        unfold wbX9_add_2 at hR
        refine lv_istore (lv' := [(5, .int (li 100)), (0, .ref (ad 3)), (1, .int (li 1)), (2, .int (li 2)), (3, .int (li 3)), (4, .int (li 4))]) hx hb dX9_add_80 hl (by decide) rfl (fun ls hl => ?_)
        refine lv_iload hx hb dX9_add_82 (lv_at hl 0 rfl) ?_
        refine lv_iconst (v := (-1)) hx hb dX9_add_84 (by decide) ?_
        refine lv_icmp_eq (tgt := 122) hx hb dX9_add_85 (by decide) (fun c_16 => ?_) (fun c_16 => ?_)
        · have hR := hR.1 c_16
          exact ih.2.2.2 t (uI li 5 (li 100)) lj H locs ls hR (lv_sub hl [1, 2, 3, 4, 5, 0] rfl) h
        · have hR := hR.2 c_16
          refine lv_aload_n hx hb dX9_add_88 rfl (lv_at hl 1 rfl) ?_
          refine x_get (ci := 9) (C := RX9) (T := TX9) (N := 7) (v := .ref (ad 17)) B h hin9 3 4 rfl rfl (by decide) (by decide +kernel) rfl dX9_add_89 ?_
          refine lv_aload_n hx hb dX9_add_92 rfl (lv_at hl 1 rfl) ?_
          refine x_get (ci := 9) (C := RX9) (T := TX9) (N := 7) (v := .int (t.1 4)) B h hin9 3 0 rfl rfl (by decide) (by decide +kernel) rfl dX9_add_93 ?_
          refine lv_dup2_11 hx hb dX9_add_96 rfl rfl ?_
          obtain ⟨hb_17, hR⟩ := hR
          refine va_lald (f := (t.2.2.2 0)) hx hb B.2.1 h.1 17 1 rfl rfl hb_17 dX9_add_97 ?_
          refine lv_topl (fun v_17 ev_17 => ?_)
          have hR := hR v_17 ev_17
          refine lv_iload hx hb dX9_add_98 (lv_at hl 0 rfl) ?_
          refine x_cNLE (n := 1) (As := [.int (li 100)]) (rest := [.long v_17, .int (t.1 4), .ref (ad 17)]) B h (wkX11_bit l D cI cJ cB cZ ad k (li 100) _ hR) ⟨⟨_, rfl⟩, by decide +kernel, Nat.le_of_ble_eq_true rfl, Nat.le_of_ble_eq_true rfl⟩ gX9_add_X11_bit_n41 (by decide +kernel) (by decide +kernel) (host := "MorseDesk") (by decide +kernel) rfl hl.1 rfl (Nat.le_of_ble_eq_true rfl) dX9_add_100 ⟨Nat.le_of_ble_eq_true rfl, Nat.le_of_ble_eq_true rfl⟩ (fun r_18 _ H locs hR h => ?_)
          refine lv_lor hx hb dX9_add_103 ?_
          refine lv_topl (fun v_19 ev_19 => ?_)
          have hR := hR v_19 ev_19
          obtain ⟨hb_20, hR⟩ := hR
          refine z_last (f := (t.2.2.2 0)) B h 17 1 rfl rfl hb_20 dX9_add_104 (fun H locs h => ?_)
          obtain ⟨t_20, et_20⟩ : ∃ v : XT, v = sB t 0 (vp_updL (t.2.2.2 0) (t.1 4).toNatClampNeg v_19) := ⟨_, rfl⟩
          have hR := hR t_20 et_20
          have h : Hp D A s.heap (wX cI cJ cB cZ ad t_20) H locs := by rw [et_20]; exact h
          refine lv_aload_n hx hb dX9_add_105 rfl (lv_at hl 1 rfl) ?_
          refine x_get (ci := 9) (C := RX9) (T := TX9) (N := 7) (v := .ref (ad 18)) B h hin9 3 5 rfl rfl (by decide) (by decide +kernel) rfl dX9_add_106 ?_
          refine lv_iload hx hb dX9_add_109 (lv_at hl 0 rfl) ?_
          refine lv_dup2_11 hx hb dX9_add_111 rfl rfl ?_
          obtain ⟨hb_21, hR⟩ := hR
          refine va_lald (f := (t_20.2.2.2 1)) hx hb B.2.1 h.1 18 1 rfl rfl hb_21 dX9_add_112 ?_
          refine lv_topl (fun v_21 ev_21 => ?_)
          have hR := hR v_21 ev_21
          refine lv_aload_n hx hb dX9_add_113 rfl (lv_at hl 1 rfl) ?_
          refine x_get (ci := 9) (C := RX9) (T := TX9) (N := 7) (v := .int (t_20.1 4)) B h hin9 3 0 rfl rfl (by decide) (by decide +kernel) rfl dX9_add_114 ?_
          refine x_cNLE (n := 1) (As := [.int (t_20.1 4)]) (rest := [.long v_21, .int (li 100), .ref (ad 18)]) B h (wkX11_bit l D cI cJ cB cZ ad k (t_20.1 4) _ hR) ⟨⟨_, rfl⟩, by decide +kernel, Nat.le_of_ble_eq_true rfl, Nat.le_of_ble_eq_true rfl⟩ gX9_add_X11_bit_n41 (by decide +kernel) (by decide +kernel) (host := "MorseDesk") (by decide +kernel) rfl hl.1 rfl (Nat.le_of_ble_eq_true rfl) dX9_add_117 ⟨Nat.le_of_ble_eq_true rfl, Nat.le_of_ble_eq_true rfl⟩ (fun r_22 _ H locs hR h => ?_)
          refine lv_lor hx hb dX9_add_120 ?_
          refine lv_topl (fun v_23 ev_23 => ?_)
          have hR := hR v_23 ev_23
          obtain ⟨hb_24, hR⟩ := hR
          refine z_last (f := (t_20.2.2.2 1)) B h 18 1 rfl rfl hb_24 dX9_add_121 (fun H locs h => ?_)
          obtain ⟨t_24, et_24⟩ : ∃ v : XT, v = sB t_20 1 (vp_updL (t_20.2.2.2 1) (li 100).toNatClampNeg v_23) := ⟨_, rfl⟩
          have hR := hR t_24 et_24
          have h : Hp D A s.heap (wX cI cJ cB cZ ad t_24) H locs := by rw [et_24]; exact h
          exact ih.2.2.2 t_24 (uI li 5 (li 100)) lj H locs ls hR (lv_sub hl [1, 2, 3, 4, 5, 0] rfl) h
      · intro t li lj H locs ls hR hl h
        have hR : wbX9_add_3 (wpX9_add k) k t li lj Q := hR
        unfold wbX9_add_3 at hR
        obtain ⟨v_25, ev_25⟩ : ∃ v : Int32, v = (li 3) + Int32.ofInt 1 := ⟨_, rfl⟩
        have hR := hR v_25 ev_25
        refine lv_iinc (v := v_25) (lv' := [(3, .int v_25), (0, .ref (ad 3)), (1, .int (li 1)), (2, .int (li 2)), (4, .int (li 4)), (5, .int (li 5))]) hx hb dX9_add_122 hl (k := 3) rfl ev_25.symm (by decide) rfl (fun ls hl => ?_)
        refine lv_goto (tgt := 48) hx hb dX9_add_125 (by decide) ?_
        exact ih.2.1 t (uI li 3 v_25) lj H locs ls hR (lv_sub hl [1, 2, 3, 0] rfl) h
  exact (main k).1 t _ _ s.heap [] ls hR hl h
set_option maxRecDepth 20000 in
theorem ggX9_build_J7_fill_53178 : GoodIn wsX9_build wsJ7_fill_53178 := goodIn_r _ [9] (by decide +kernel) (by decide +kernel)
set_option maxRecDepth 20000 in
theorem gX9_build_J7_fill_53178 : GoodIn wsX9_build (va_wsS RX9 31 yJ7_fill_53178 wsJ7_fill_53178) := goodIn_app (goodIn_of _ (by decide +kernel)) ggX9_build_J7_fill_53178
set_option maxRecDepth 20000 in
theorem ggX9_build_J7_fill_d0a16 : GoodIn wsX9_build wsJ7_fill_d0a16 := goodIn_r _ [12] (by decide +kernel) (by decide +kernel)
set_option maxRecDepth 20000 in
theorem gX9_build_J7_fill_d0a16 : GoodIn wsX9_build (va_wsS RX9 45 yJ7_fill_d0a16 wsJ7_fill_d0a16) := goodIn_app (goodIn_of _ (by decide +kernel)) ggX9_build_J7_fill_d0a16
set_option maxRecDepth 20000 in
theorem ggX9_build_J6_bitCount_0f7a4 : GoodIn wsX9_build wsJ6_bitCount_0f7a4 := goodIn_r _ [16, 17, 18, 19] (by decide +kernel) (by decide +kernel)
set_option maxRecDepth 20000 in
theorem gX9_build_J6_bitCount_0f7a4 : GoodIn wsX9_build (va_wsS RX9 48 yJ6_bitCount_0f7a4 wsJ6_bitCount_0f7a4) := goodIn_app (goodIn_of _ (by decide +kernel)) ggX9_build_J6_bitCount_0f7a4
set_option maxRecDepth 20000 in
theorem ggX9_build_X9_add : GoodIn wsX9_build wsX9_add := goodIn_r _ [24, 25, 1, 26, 2, 5, 3, 4, 27, 28, 29, 30, 31, 32, 33, 34, 35, 36] (by decide +kernel) (by decide +kernel)
set_option maxRecDepth 20000 in
theorem gX9_build_X9_add : GoodIn wsX9_build (wsV RX9 54 RX9 yX9_add wsX9_add) := goodIn_app (goodIn_of _ (by decide +kernel)) ggX9_build_X9_add
def wbX9_build_c13_0 (rec : Nat → XT → (Nat → Int32) → (Nat → Int64) → (XT → Prop) → Prop) (k : Nat) (t : XT) (li : Nat → Int32) (lj : Nat → Int64) (Q : XT → Prop) : Prop :=
  (∀ t_1 : XT, t_1 = sI t 4 0 → (∀ t_2 : XT, t_2 = sA t_1 4 (fun _ => (-1)) → (∀ t_3 : XT, t_3 = sB t_2 0 (fun _ => 0) → (∀ t_4 : XT, t_4 = sB t_3 1 (fun _ => 0) → (∀ t_5 : XT, t_5 = sB t_4 2 (fun _ => 0) → rec 1 t_5 (uI li 2 0) lj Q)))))
def wbX9_build_c13_1 (rec : Nat → XT → (Nat → Int32) → (Nat → Int64) → (XT → Prop) → Prop) (k : Nat) (t : XT) (li : Nat → Int32) (lj : Nat → Int64) (Q : XT → Prop) : Prop :=
  (((5 : Int32) ≤ (li 2)) → Q t) ∧ (¬ ((5 : Int32) ≤ (li 2)) → rec 2 t (uI li 3 1) lj Q)
def wbX9_build_c13_2 (rec : Nat → XT → (Nat → Int32) → (Nat → Int64) → (XT → Prop) → Prop) (k : Nat) (t : XT) (li : Nat → Int32) (lj : Nat → Int64) (Q : XT → Prop) : Prop :=
  (((256 : Int32) ≤ (li 3)) → rec 4 t li lj Q) ∧ (¬ ((256 : Int32) ≤ (li 3)) → (((256 : Int32) ≤ (li 3)) → rec 4 t li lj Q) ∧ (¬ ((256 : Int32) ≤ (li 3)) → (vp_in (li 3) 256 ∧ (∀ v_9 : Int32, v_9 = (t.2.2.1 1) (li 3).toNatClampNeg → ((v_9 = 0) → rec 3 t li lj Q) ∧ (¬ (v_9 = 0) → (wqJ6_bitCount_0f7a4 k (li 3) (fun r_11 => (∀ v_12 : Int32, v_12 = ((li 2) + 1) → ((¬ r_11 = v_12) → rec 3 t li lj Q) ∧ ((r_11 = v_12) → (((60 : Int32) ≤ (t.1 4)) → rec 3 t li lj Q) ∧ (¬ ((60 : Int32) ≤ (t.1 4)) → (wqX9_add k t (li 3) (li 2) (fun t_15 => rec 3 t_15 li lj Q))))))))))))
def wbX9_build_c13_3 (rec : Nat → XT → (Nat → Int32) → (Nat → Int64) → (XT → Prop) → Prop) (k : Nat) (t : XT) (li : Nat → Int32) (lj : Nat → Int64) (Q : XT → Prop) : Prop :=
  (∀ v_16 : Int32, v_16 = (li 3) + Int32.ofInt 1 → rec 2 t (uI li 3 v_16) lj Q)
def wbX9_build_c13_4 (rec : Nat → XT → (Nat → Int32) → (Nat → Int64) → (XT → Prop) → Prop) (k : Nat) (t : XT) (li : Nat → Int32) (lj : Nat → Int64) (Q : XT → Prop) : Prop :=
  (∀ v_17 : Int32, v_17 = (li 2) + Int32.ofInt 1 → rec 1 t (uI li 2 v_17) lj Q)
def wpX9_build_c13 : Nat → Nat → XT → (Nat → Int32) → (Nat → Int64) → (XT → Prop) → Prop
  | 0, _, _, _, _, _ => False
  | k + 1, 0, t, li, lj, Q => wbX9_build_c13_0 (wpX9_build_c13 k) k t li lj Q
  | k + 1, 1, t, li, lj, Q => wbX9_build_c13_1 (wpX9_build_c13 k) k t li lj Q
  | k + 1, 2, t, li, lj, Q => wbX9_build_c13_2 (wpX9_build_c13 k) k t li lj Q
  | k + 1, 3, t, li, lj, Q => wbX9_build_c13_3 (wpX9_build_c13 k) k t li lj Q
  | k + 1, 4, t, li, lj, Q => wbX9_build_c13_4 (wpX9_build_c13 k) k t li lj Q
  | _ + 1, _, _, _, _, _ => False
def wqX9_build_c13 (k : Nat) (t : XT)  (Q : XT → Prop) : Prop := wpX9_build_c13 k 0 t (fun _ => 0) (fun _ => 0) Q
set_option maxHeartbeats 8000000 in
set_option maxRecDepth 100000 in
theorem wkX9_build_c13 (l : Launch) (D : va_G) (cI cJ cB cZ : ClassId) (ad : Nat → Nat) (k : Nat) (t : XT)  (Q : XT → Prop) (hR : wqX9_build_c13 k t  Q) : MetV l yX9_build wsX9_build 2 45 0 0 D (TYS cI cJ cB cZ) (wX cI cJ cB cZ ad t) [.ref (ad 3), .ref (ad 13)] (fun u => Q u) (fun u : XT => (wX cI cJ cB cZ ad u)) := by
  refine x_startV (ty := .int) (cc := cX9_build) (by decide) rfl (Nat.le_of_ble_eq_true rfl) ?_
  intro p e s m args below meth c A ls B hr hnm h hl
  have hx := B.1.1
  have hb := B.1.2.1
  have hml := B.1.2.2.1
  have hts := B.1.2.2.2.2
  have hown : s.vm.findClass RX9 = some m.cls := B.1.2.2.2.1
  have hin9 : ∀ w ∈ u_ws RX9 TX9 7, w ∈ wsX9_build := by decide +kernel
  have main : ∀ k : Nat, (∀ (t : XT) (li : Nat → Int32) (lj : Nat → Int64) (H : Heap) (locs : List Loc) (ls : Array Slot), wpX9_build_c13 k 0 t li lj Q → lv_has ls 4 [(0, .ref (ad 3)), (1, .ref (ad 13))] → Hp D A s.heap (wX cI cJ cB cZ ad t) H locs → W p l e { frames := 2, cells := 0, slots := 0, locals := 45 } s m args below meth c H locs 0 0 (MQ below (va_Qv (fun u => Q u) (fun u t => xEnd D ((fun u : XT => (wX cI cJ cB cZ ad u)) u) A t) A) args s 0 0 A) (F0 m 0 ls [])) ∧
      (∀ (t : XT) (li : Nat → Int32) (lj : Nat → Int64) (H : Heap) (locs : List Loc) (ls : Array Slot), wpX9_build_c13 k 1 t li lj Q → lv_has ls 4 [(0, .ref (ad 3)), (1, .ref (ad 13)), (2, .int (li 2))] → Hp D A s.heap (wX cI cJ cB cZ ad t) H locs → W p l e { frames := 2, cells := 0, slots := 0, locals := 45 } s m args below meth c H locs 0 0 (MQ below (va_Qv (fun u => Q u) (fun u t => xEnd D ((fun u : XT => (wX cI cJ cB cZ ad u)) u) A t) A) args s 0 0 A) (F0 m 39 ls [])) ∧
      (∀ (t : XT) (li : Nat → Int32) (lj : Nat → Int64) (H : Heap) (locs : List Loc) (ls : Array Slot), wpX9_build_c13 k 2 t li lj Q → lv_has ls 4 [(0, .ref (ad 3)), (1, .ref (ad 13)), (2, .int (li 2)), (3, .int (li 3))] → Hp D A s.heap (wX cI cJ cB cZ ad t) H locs → W p l e { frames := 2, cells := 0, slots := 0, locals := 45 } s m args below meth c H locs 0 0 (MQ below (va_Qv (fun u => Q u) (fun u t => xEnd D ((fun u : XT => (wX cI cJ cB cZ ad u)) u) A t) A) args s 0 0 A) (F0 m 46 ls [])) ∧
      (∀ (t : XT) (li : Nat → Int32) (lj : Nat → Int64) (H : Heap) (locs : List Loc) (ls : Array Slot), wpX9_build_c13 k 3 t li lj Q → lv_has ls 4 [(0, .ref (ad 3)), (1, .ref (ad 13)), (2, .int (li 2)), (3, .int (li 3))] → Hp D A s.heap (wX cI cJ cB cZ ad t) H locs → W p l e { frames := 2, cells := 0, slots := 0, locals := 45 } s m args below meth c H locs 0 0 (MQ below (va_Qv (fun u => Q u) (fun u t => xEnd D ((fun u : XT => (wX cI cJ cB cZ ad u)) u) A t) A) args s 0 0 A) (F0 m 90 ls [])) ∧
      (∀ (t : XT) (li : Nat → Int32) (lj : Nat → Int64) (H : Heap) (locs : List Loc) (ls : Array Slot), wpX9_build_c13 k 4 t li lj Q → lv_has ls 4 [(0, .ref (ad 3)), (1, .ref (ad 13)), (2, .int (li 2)), (3, .int (li 3))] → Hp D A s.heap (wX cI cJ cB cZ ad t) H locs → W p l e { frames := 2, cells := 0, slots := 0, locals := 45 } s m args below meth c H locs 0 0 (MQ below (va_Qv (fun u => Q u) (fun u t => xEnd D ((fun u : XT => (wX cI cJ cB cZ ad u)) u) A t) A) args s 0 0 A) (F0 m 96 ls [])) := by
    intro k
    induction k with
    | zero => exact ⟨fun _ _ _ _ _ _ hR => False.elim hR, fun _ _ _ _ _ _ hR => False.elim hR, fun _ _ _ _ _ _ hR => False.elim hR, fun _ _ _ _ _ _ hR => False.elim hR, fun _ _ _ _ _ _ hR => False.elim hR⟩
    | succ k ih =>
      refine ⟨?_, ?_, ?_, ?_, ?_⟩
      · intro t li lj H locs ls hR hl h
        have hR : wbX9_build_c13_0 (wpX9_build_c13 k) k t li lj Q := hR
        unfold wbX9_build_c13_0 at hR
        refine lv_aload_n hx hb dX9_build_0 rfl (lv_at hl 0 rfl) ?_
        refine lv_iconst (v := 0) hx hb dX9_build_1 (by decide) ?_
        refine x_put (ci := 9) (C := RX9) (T := TX9) (N := 7) (v := .int 0) (ty := .int) B h hin9 tyX9 tyX9_ok nmX9 3 0 rfl rfl (by decide) (by decide +kernel) rfl rfl rfl rfl (Nat.le_of_ble_eq_true rfl) dX9_build_2 (fun H locs h => ?_)
        obtain ⟨t_1, et_1⟩ : ∃ v : XT, v = sI t 4 0 := ⟨_, rfl⟩
        have hR := hR t_1 et_1
        have h : Hp D A s.heap (wX cI cJ cB cZ ad t_1) H locs := by rw [et_1]; exact h
        refine lv_aload_n hx hb dX9_build_5 rfl (lv_at hl 0 rfl) ?_
        refine x_get (ci := 9) (C := RX9) (T := TX9) (N := 7) (v := .ref (ad 16)) B h hin9 3 3 rfl rfl (by decide) (by decide +kernel) rfl dX9_build_6 ?_
        refine lv_iconst (v := (-1)) hx hb dX9_build_9 (by decide) ?_
        refine x_cSV (n := 2) (pre := ((wX cI cJ cB cZ ad t_1) : va_W).take 16) (post := ((wX cI cJ cB cZ ad t_1) : va_W).drop 17) (wc := [((ad 16), .inl (cI, 256, .inl (t_1.2.2.1 4)))]) (As := [.ref (ad 16), .int (-1)]) (rest := []) B h (c_fillI l D (TYS cI cJ cB cZ) cI 0 rfl (ad 16) 256 (by decide) (t_1.2.2.1 4) (-1)) ⟨⟨_, rfl⟩, by decide +kernel, Nat.le_of_ble_eq_true rfl, Nat.le_of_ble_eq_true rfl⟩ gX9_build_J7_fill_53178 rfl hl.1 rfl (Nat.le_of_ble_eq_true rfl) dX9_build_10 ⟨Nat.le_of_ble_eq_true rfl, Nat.le_of_ble_eq_true rfl⟩ (fun _ H locs _ h => ?_)
        obtain ⟨t_2, et_2⟩ : ∃ v : XT, v = sA t_1 4 (fun _ => (-1)) := ⟨_, rfl⟩
        have hR := hR t_2 et_2
        have h : Hp D A s.heap (wX cI cJ cB cZ ad t_2) H locs := by rw [et_2]; exact h
        refine lv_aload_n hx hb dX9_build_13 rfl (lv_at hl 0 rfl) ?_
        refine x_get (ci := 9) (C := RX9) (T := TX9) (N := 7) (v := .ref (ad 17)) B h hin9 3 4 rfl rfl (by decide) (by decide +kernel) rfl dX9_build_14 ?_
        refine lv_lconst (v := 0) hx hb dX9_build_17 (by decide) ?_
        refine x_cSV (n := 2) (pre := ((wX cI cJ cB cZ ad t_2) : va_W).take 17) (post := ((wX cI cJ cB cZ ad t_2) : va_W).drop 18) (wc := [((ad 17), .inl (cJ, 64, .inr (.inl (t_2.2.2.2 0))))]) (As := [.ref (ad 17), .long 0]) (rest := []) B h (c_fillL l D (TYS cI cJ cB cZ) cJ 1 rfl (ad 17) 64 (by decide) (t_2.2.2.2 0) 0) ⟨⟨_, rfl⟩, by decide +kernel, Nat.le_of_ble_eq_true rfl, Nat.le_of_ble_eq_true rfl⟩ gX9_build_J7_fill_d0a16 rfl hl.1 rfl (Nat.le_of_ble_eq_true rfl) dX9_build_18 ⟨Nat.le_of_ble_eq_true rfl, Nat.le_of_ble_eq_true rfl⟩ (fun _ H locs _ h => ?_)
        obtain ⟨t_3, et_3⟩ : ∃ v : XT, v = sB t_2 0 (fun _ => 0) := ⟨_, rfl⟩
        have hR := hR t_3 et_3
        have h : Hp D A s.heap (wX cI cJ cB cZ ad t_3) H locs := by rw [et_3]; exact h
        refine lv_aload_n hx hb dX9_build_21 rfl (lv_at hl 0 rfl) ?_
        refine x_get (ci := 9) (C := RX9) (T := TX9) (N := 7) (v := .ref (ad 18)) B h hin9 3 5 rfl rfl (by decide) (by decide +kernel) rfl dX9_build_22 ?_
        refine lv_lconst (v := 0) hx hb dX9_build_25 (by decide) ?_
        refine x_cSV (n := 2) (pre := ((wX cI cJ cB cZ ad t_3) : va_W).take 18) (post := ((wX cI cJ cB cZ ad t_3) : va_W).drop 19) (wc := [((ad 18), .inl (cJ, 64, .inr (.inl (t_3.2.2.2 1))))]) (As := [.ref (ad 18), .long 0]) (rest := []) B h (c_fillL l D (TYS cI cJ cB cZ) cJ 1 rfl (ad 18) 64 (by decide) (t_3.2.2.2 1) 0) ⟨⟨_, rfl⟩, by decide +kernel, Nat.le_of_ble_eq_true rfl, Nat.le_of_ble_eq_true rfl⟩ gX9_build_J7_fill_d0a16 rfl hl.1 rfl (Nat.le_of_ble_eq_true rfl) dX9_build_26 ⟨Nat.le_of_ble_eq_true rfl, Nat.le_of_ble_eq_true rfl⟩ (fun _ H locs _ h => ?_)
        obtain ⟨t_4, et_4⟩ : ∃ v : XT, v = sB t_3 1 (fun _ => 0) := ⟨_, rfl⟩
        have hR := hR t_4 et_4
        have h : Hp D A s.heap (wX cI cJ cB cZ ad t_4) H locs := by rw [et_4]; exact h
        refine lv_aload_n hx hb dX9_build_29 rfl (lv_at hl 0 rfl) ?_
        refine x_get (ci := 9) (C := RX9) (T := TX9) (N := 7) (v := .ref (ad 19)) B h hin9 3 6 rfl rfl (by decide) (by decide +kernel) rfl dX9_build_30 ?_
        refine lv_lconst (v := 0) hx hb dX9_build_33 (by decide) ?_
        refine x_cSV (n := 2) (pre := ((wX cI cJ cB cZ ad t_4) : va_W).take 19) (post := ((wX cI cJ cB cZ ad t_4) : va_W).drop 20) (wc := [((ad 19), .inl (cJ, 5, .inr (.inl (t_4.2.2.2 2))))]) (As := [.ref (ad 19), .long 0]) (rest := []) B h (c_fillL l D (TYS cI cJ cB cZ) cJ 1 rfl (ad 19) 5 (by decide) (t_4.2.2.2 2) 0) ⟨⟨_, rfl⟩, by decide +kernel, Nat.le_of_ble_eq_true rfl, Nat.le_of_ble_eq_true rfl⟩ gX9_build_J7_fill_d0a16 rfl hl.1 rfl (Nat.le_of_ble_eq_true rfl) dX9_build_34 ⟨Nat.le_of_ble_eq_true rfl, Nat.le_of_ble_eq_true rfl⟩ (fun _ H locs _ h => ?_)
        obtain ⟨t_5, et_5⟩ : ∃ v : XT, v = sB t_4 2 (fun _ => 0) := ⟨_, rfl⟩
        have hR := hR t_5 et_5
        have h : Hp D A s.heap (wX cI cJ cB cZ ad t_5) H locs := by rw [et_5]; exact h
        refine lv_iconst (v := 0) hx hb dX9_build_37 (by decide) ?_
        refine lv_istore_n (lv' := [(2, .int 0), (0, .ref (ad 3)), (1, .ref (ad 13))]) hx hb dX9_build_38 rfl hl (by decide) rfl (fun ls hl => ?_)
        exact ih.2.1 t_5 (uI li 2 0) lj H locs ls hR (lv_sub hl [1, 2, 0] rfl) h
      · intro t li lj H locs ls hR hl h
        have hR : wbX9_build_c13_1 (wpX9_build_c13 k) k t li lj Q := hR
        unfold wbX9_build_c13_1 at hR
        refine lv_iload_n hx hb dX9_build_39 rfl (lv_at hl 2 rfl) ?_
        refine lv_iconst (v := 5) hx hb dX9_build_40 (by decide) ?_
        refine lv_icmp_ge (tgt := 102) hx hb dX9_build_41 (by decide) (fun c_6 => ?_) (fun c_6 => ?_)
        · have hR := hR.1 c_6
          exact x_vret (w1 := (fun u : XT => (wX cI cJ cB cZ ad u))) t B h hr hR dX9_build_102
        · have hR := hR.2 c_6
          refine lv_iconst (v := 1) hx hb dX9_build_44 (by decide) ?_
          refine lv_istore_n (lv' := [(3, .int 1), (0, .ref (ad 3)), (1, .ref (ad 13)), (2, .int (li 2))]) hx hb dX9_build_45 rfl hl (by decide) rfl (fun ls hl => ?_)
          exact ih.2.2.1 t (uI li 3 1) lj H locs ls hR (lv_sub hl [1, 2, 3, 0] rfl) h
      · intro t li lj H locs ls hR hl h
        have hR : wbX9_build_c13_2 (wpX9_build_c13 k) k t li lj Q := hR
        unfold wbX9_build_c13_2 at hR
        refine lv_iload_n hx hb dX9_build_46 rfl (lv_at hl 3 rfl) ?_
        refine lv_sipush (v := 256) hx hb dX9_build_47 (by decide) ?_
        refine lv_icmp_ge (tgt := 96) hx hb dX9_build_50 (by decide) (fun c_7 => ?_) (fun c_7 => ?_)
        · have hR := hR.1 c_7
          exact ih.2.2.2.2 t li lj H locs ls hR (lv_sub hl [0, 1, 2, 3] rfl) h
        · have hR := hR.2 c_7
          refine lv_iload_n hx hb dX9_build_53 rfl (lv_at hl 3 rfl) ?_
          refine lv_aload_n hx hb dX9_build_54 rfl (lv_at hl 1 rfl) ?_
          refine va_alen (v := 256) hx hb B.2.1 h.1 13 0 rfl rfl (show Int32.ofNat 256 = 256 from by decide) dX9_build_55 ?_
          refine lv_icmp_ge (tgt := 96) hx hb dX9_build_56 (by decide) (fun c_8 => ?_) (fun c_8 => ?_)
          · have hR := hR.1 c_8
            exact ih.2.2.2.2 t li lj H locs ls hR (lv_sub hl [0, 1, 2, 3] rfl) h
          · have hR := hR.2 c_8
            refine lv_aload_n hx hb dX9_build_59 rfl (lv_at hl 1 rfl) ?_
            refine lv_iload_n hx hb dX9_build_60 rfl (lv_at hl 3 rfl) ?_
            obtain ⟨hb_9, hR⟩ := hR
            refine va_iald (f := (t.2.2.1 1)) hx hb B.2.1 h.1 13 0 rfl rfl hb_9 dX9_build_61 ?_
            refine lv_topi (fun v_9 ev_9 => ?_)
            have hR := hR v_9 ev_9
            refine lv_if_eq (tgt := 90) hx hb dX9_build_62 (by decide) (fun c_10 => ?_) (fun c_10 => ?_)
            · have hR := hR.1 c_10
              exact ih.2.2.2.1 t li lj H locs ls hR (lv_sub hl [0, 1, 2, 3] rfl) h
            · have hR := hR.2 c_10
              refine lv_iload_n hx hb dX9_build_65 rfl (lv_at hl 3 rfl) ?_
              refine x_cSIE (n := 1) (As := [.int (li 3)]) (rest := []) B h (wkJ6_bitCount_0f7a4 l D cI cJ cB cZ ad k (li 3) _ hR) ⟨⟨_, rfl⟩, by decide +kernel, Nat.le_of_ble_eq_true rfl, Nat.le_of_ble_eq_true rfl⟩ gX9_build_J6_bitCount_0f7a4 rfl hl.1 rfl (Nat.le_of_ble_eq_true rfl) dX9_build_66 ⟨Nat.le_of_ble_eq_true rfl, Nat.le_of_ble_eq_true rfl⟩ (fun r_11 _ H locs hR h => ?_)
              refine lv_iload_n hx hb dX9_build_69 rfl (lv_at hl 2 rfl) ?_
              refine lv_iconst (v := 1) hx hb dX9_build_70 (by decide) ?_
              refine lv_iadd hx hb dX9_build_71 ?_
              refine lv_topi (fun v_12 ev_12 => ?_)
              have hR := hR v_12 ev_12
              refine lv_icmp_ne (tgt := 90) hx hb dX9_build_72 (by decide) (fun c_13 => ?_) (fun c_13 => ?_)
              · have hR := hR.1 c_13
                exact ih.2.2.2.1 t li lj H locs ls hR (lv_sub hl [0, 1, 2, 3] rfl) h
              · have hR := hR.2 c_13
                refine lv_aload_n hx hb dX9_build_75 rfl (lv_at hl 0 rfl) ?_
                refine x_get (ci := 9) (C := RX9) (T := TX9) (N := 7) (v := .int (t.1 4)) B h hin9 3 0 rfl rfl (by decide) (by decide +kernel) rfl dX9_build_76 ?_
                refine lv_bipush (v := 60) hx hb dX9_build_79 (by decide) ?_
                refine lv_icmp_ge (tgt := 90) hx hb dX9_build_81 (by decide) (fun c_14 => ?_) (fun c_14 => ?_)
                · have hR := hR.1 c_14
                  exact ih.2.2.2.1 t li lj H locs ls hR (lv_sub hl [0, 1, 2, 3] rfl) h
                · have hR := hR.2 c_14
                  refine lv_aload_n hx hb dX9_build_84 rfl (lv_at hl 0 rfl) ?_
                  refine lv_iload_n hx hb dX9_build_85 rfl (lv_at hl 3 rfl) ?_
                  refine lv_iload_n hx hb dX9_build_86 rfl (lv_at hl 2 rfl) ?_
                  refine x_cVVF (n := 2) (As := [.int (li 3), .int (li 2)]) (rest := []) B h (wkX9_add l D cI cJ cB cZ ad k t (li 3) (li 2) _ hR) ⟨⟨_, rfl⟩, by decide +kernel, Nat.le_of_ble_eq_true rfl, Nat.le_of_ble_eq_true rfl⟩ gX9_build_X9_add (show ((wX cI cJ cB cZ ad t) : va_W)[3]? = some (_, .inr (9, _)) from rfl) rfl rfl hl.1 rfl (Nat.le_of_ble_eq_true rfl) dX9_build_87 ⟨Nat.le_of_ble_eq_true rfl, Nat.le_of_ble_eq_true rfl⟩ (fun t_15 H locs hR h => ?_)
                  exact ih.2.2.2.1 t_15 li lj H locs ls hR (lv_sub hl [0, 1, 2, 3] rfl) h
      · intro t li lj H locs ls hR hl h
        have hR : wbX9_build_c13_3 (wpX9_build_c13 k) k t li lj Q := hR
        unfold wbX9_build_c13_3 at hR
        obtain ⟨v_16, ev_16⟩ : ∃ v : Int32, v = (li 3) + Int32.ofInt 1 := ⟨_, rfl⟩
        have hR := hR v_16 ev_16
        refine lv_iinc (v := v_16) (lv' := [(3, .int v_16), (0, .ref (ad 3)), (1, .ref (ad 13)), (2, .int (li 2))]) hx hb dX9_build_90 hl (k := 3) rfl ev_16.symm (by decide) rfl (fun ls hl => ?_)
        refine lv_goto (tgt := 46) hx hb dX9_build_93 (by decide) ?_
        exact ih.2.2.1 t (uI li 3 v_16) lj H locs ls hR (lv_sub hl [1, 2, 3, 0] rfl) h
      · intro t li lj H locs ls hR hl h
        have hR : wbX9_build_c13_4 (wpX9_build_c13 k) k t li lj Q := hR
        unfold wbX9_build_c13_4 at hR
        obtain ⟨v_17, ev_17⟩ : ∃ v : Int32, v = (li 2) + Int32.ofInt 1 := ⟨_, rfl⟩
        have hR := hR v_17 ev_17
        refine lv_iinc (v := v_17) (lv' := [(2, .int v_17), (0, .ref (ad 3)), (1, .ref (ad 13)), (3, .int (li 3))]) hx hb dX9_build_96 hl (k := 2) rfl ev_17.symm (by decide) rfl (fun ls hl => ?_)
        refine lv_goto (tgt := 39) hx hb dX9_build_99 (by decide) ?_
        exact ih.2.1 t (uI li 2 v_17) lj H locs ls hR (lv_sub hl [1, 2, 0] rfl) h
  exact (main k).1 t _ _ s.heap [] ls hR hl h
