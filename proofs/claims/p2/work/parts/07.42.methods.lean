def wbX5_clearBelow_0 (rec : Nat → XT → (Nat → Int32) → (Nat → Int64) → (XT → Prop) → Prop) (k : Nat) (t : XT) (li : Nat → Int32) (lj : Nat → Int64) (Q : XT → Prop) : Prop :=
  (∀ v_1 : Int32, v_1 = ((li 1) * (t.1 11)) → (∀ v_2 : Int32, v_2 = (v_1 + (li 2)) → (vp_in v_2 900 ∧ (∀ v_3 : Int64, v_3 = (t.2.2.2 8) v_2.toNatClampNeg → (∀ v_4 : Int32, v_4 = (lg_cmp (lj 3) 0) → ((¬ v_4 = 0) → (∀ v_6 : Int32, v_6 = ((li 1) + 1) → rec 1 t (uI li 7 v_6) (uI lj 5 v_3) Q)) ∧ ((v_4 = 0) → Q t))))))
def wbX5_clearBelow_1 (rec : Nat → XT → (Nat → Int32) → (Nat → Int64) → (XT → Prop) → Prop) (k : Nat) (t : XT) (li : Nat → Int32) (lj : Nat → Int64) (Q : XT → Prop) : Prop :=
  ((((t.1 10) : Int32) ≤ (li 7)) → Q t) ∧ (¬ (((t.1 10) : Int32) ≤ (li 7)) → (∀ v_8 : Int32, v_8 = ((li 7) * (t.1 11)) → (∀ v_9 : Int32, v_9 = (v_8 + (li 2)) → (vp_in v_9 900 ∧ (∀ v_10 : Int64, v_10 = (t.2.2.2 8) v_9.toNatClampNeg → (∀ v_11 : Int32, v_11 = (lg_cmp v_10 0) → ((¬ v_11 = 0) → rec 2 t li (uI lj 8 v_10) Q) ∧ ((v_11 = 0) → (∀ v_13 : Int32, v_13 = (lg_cmp (lj 5) (lj 3)) → ((v_13 = 0) → rec 3 t (uI li 100 0) (uI lj 8 v_10) Q) ∧ (¬ (v_13 = 0) → rec 2 t li (uI lj 8 v_10) Q)))))))))
def wbX5_clearBelow_2 (rec : Nat → XT → (Nat → Int32) → (Nat → Int64) → (XT → Prop) → Prop) (k : Nat) (t : XT) (li : Nat → Int32) (lj : Nat → Int64) (Q : XT → Prop) : Prop :=
  rec 3 t (uI li 100 1) lj Q
def wbX5_clearBelow_3 (rec : Nat → XT → (Nat → Int32) → (Nat → Int64) → (XT → Prop) → Prop) (k : Nat) (t : XT) (li : Nat → Int32) (lj : Nat → Int64) (Q : XT → Prop) : Prop :=
  rec 4 t (uI (uI li 10 (li 100)) 11 (li 2)) lj Q
def wbX5_clearBelow_4 (rec : Nat → XT → (Nat → Int32) → (Nat → Int64) → (XT → Prop) → Prop) (k : Nat) (t : XT) (li : Nat → Int32) (lj : Nat → Int64) (Q : XT → Prop) : Prop :=
  ((((t.1 11) : Int32) ≤ (li 11)) → rec 5 t li lj Q) ∧ (¬ (((t.1 11) : Int32) ≤ (li 11)) → (((li 10) = 0) → rec 5 t li lj Q) ∧ (¬ ((li 10) = 0) → (∀ v_17 : Int32, v_17 = ((li 7) * (t.1 11)) → (∀ v_18 : Int32, v_18 = (v_17 + (li 11)) → (vp_in v_18 900 ∧ (∀ v_19 : Int64, v_19 = (t.2.2.2 8) v_18.toNatClampNeg → (∀ v_20 : Int64, v_20 = (v_19 * (lj 5)) → (∀ v_21 : Int32, v_21 = ((li 1) * (t.1 11)) → (∀ v_22 : Int32, v_22 = (v_21 + (li 11)) → (vp_in v_22 900 ∧ (∀ v_23 : Int64, v_23 = (t.2.2.2 8) v_22.toNatClampNeg → (∀ v_24 : Int64, v_24 = ((lj 8) * v_23) → (∀ v_25 : Int64, v_25 = (v_20 - v_24) → ((¬ (lj 3) = 0) ∧ (∀ v_26 : Int64, v_26 = (v_25 / (lj 3)) → (vp_in v_18 900 ∧ (∀ t_27 : XT, t_27 = sB t 8 (vp_updL (t.2.2.2 8) v_18.toNatClampNeg v_26) → (∀ v_28 : Int32, v_28 = (li 11) + Int32.ofInt 1 → rec 4 t_27 (uI li 11 v_28) lj Q))))))))))))))))))
def wbX5_clearBelow_5 (rec : Nat → XT → (Nat → Int32) → (Nat → Int64) → (XT → Prop) → Prop) (k : Nat) (t : XT) (li : Nat → Int32) (lj : Nat → Int64) (Q : XT → Prop) : Prop :=
  (∀ v_29 : Int32, v_29 = (li 7) + Int32.ofInt 1 → rec 1 t (uI li 7 v_29) lj Q)
def wpX5_clearBelow : Nat → Nat → XT → (Nat → Int32) → (Nat → Int64) → (XT → Prop) → Prop
  | 0, _, _, _, _, _ => False
  | k + 1, 0, t, li, lj, Q => wbX5_clearBelow_0 (wpX5_clearBelow k) k t li lj Q
  | k + 1, 1, t, li, lj, Q => wbX5_clearBelow_1 (wpX5_clearBelow k) k t li lj Q
  | k + 1, 2, t, li, lj, Q => wbX5_clearBelow_2 (wpX5_clearBelow k) k t li lj Q
  | k + 1, 3, t, li, lj, Q => wbX5_clearBelow_3 (wpX5_clearBelow k) k t li lj Q
  | k + 1, 4, t, li, lj, Q => wbX5_clearBelow_4 (wpX5_clearBelow k) k t li lj Q
  | k + 1, 5, t, li, lj, Q => wbX5_clearBelow_5 (wpX5_clearBelow k) k t li lj Q
  | _ + 1, _, _, _, _, _ => False
def wqX5_clearBelow (k : Nat) (t : XT) (a1 : Int32) (a2 : Int32) (a3 : Int64) (Q : XT → Prop) : Prop := wpX5_clearBelow k 0 t (uI (uI (fun _ => 0) 1 a1) 2 a2) (uI (fun _ => 0) 3 a3) Q
set_option maxHeartbeats 8000000 in
set_option maxRecDepth 100000 in
theorem wkX5_clearBelow (l : Launch) (D : va_G) (cI cJ cB cZ : ClassId) (ad : Nat → Nat) (k : Nat) (t : XT) (a1 : Int32) (a2 : Int32) (a3 : Int64) (Q : XT → Prop) (hR : wqX5_clearBelow k t a1 a2 a3 Q) : MetV l yX5_clearBelow wsX5_clearBelow 0 0 0 0 D (TYS cI cJ cB cZ) (wX cI cJ cB cZ ad t) [.ref (ad 11), .int a1, .int a2, .long a3] (fun u => Q u) (fun u : XT => (wX cI cJ cB cZ ad u)) := by
  refine x_startV (ty := .int) (cc := cX5_clearBelow) (by decide) rfl (Nat.le_of_ble_eq_true rfl) ?_
  intro p e s m args below meth c A ls B hr hnm h hl
  have hx := B.1.1
  have hb := B.1.2.1
  have hml := B.1.2.2.1
  have hts := B.1.2.2.2.2
  have hown : s.vm.findClass RX5 = some m.cls := B.1.2.2.2.1
  have hin5 : ∀ w ∈ u_ws RX5 TX5 6, w ∈ wsX5_clearBelow := by decide +kernel
  have main : ∀ k : Nat, (∀ (t : XT) (li : Nat → Int32) (lj : Nat → Int64) (H : Heap) (locs : List Loc) (ls : Array Slot), wpX5_clearBelow k 0 t li lj Q → lv_has ls 13 [(0, .ref (ad 11)), (1, .int (li 1)), (2, .int (li 2)), (3, .long (lj 3))] → Hp D A s.heap (wX cI cJ cB cZ ad t) H locs → W p l e { frames := 0, cells := 0, slots := 0, locals := 0 } s m args below meth c H locs 0 0 (MQ below (va_Qv (fun u => Q u) (fun u t => xEnd D ((fun u : XT => (wX cI cJ cB cZ ad u)) u) A t) A) args s 0 0 A) (F0 m 0 ls [])) ∧
      (∀ (t : XT) (li : Nat → Int32) (lj : Nat → Int64) (H : Heap) (locs : List Loc) (ls : Array Slot), wpX5_clearBelow k 1 t li lj Q → lv_has ls 13 [(0, .ref (ad 11)), (1, .int (li 1)), (2, .int (li 2)), (3, .long (lj 3)), (5, .long (lj 5)), (7, .int (li 7))] → Hp D A s.heap (wX cI cJ cB cZ ad t) H locs → W p l e { frames := 0, cells := 0, slots := 0, locals := 0 } s m args below meth c H locs 0 0 (MQ below (va_Qv (fun u => Q u) (fun u t => xEnd D ((fun u : XT => (wX cI cJ cB cZ ad u)) u) A t) A) args s 0 0 A) (F0 m 27 ls [])) ∧
      (∀ (t : XT) (li : Nat → Int32) (lj : Nat → Int64) (H : Heap) (locs : List Loc) (ls : Array Slot), wpX5_clearBelow k 2 t li lj Q → lv_has ls 13 [(0, .ref (ad 11)), (1, .int (li 1)), (2, .int (li 2)), (3, .long (lj 3)), (5, .long (lj 5)), (7, .int (li 7)), (8, .long (lj 8))] → Hp D A s.heap (wX cI cJ cB cZ ad t) H locs → W p l e { frames := 0, cells := 0, slots := 0, locals := 0 } s m args below meth c H locs 0 0 (MQ below (va_Qv (fun u => Q u) (fun u t => xEnd D ((fun u : XT => (wX cI cJ cB cZ ad u)) u) A t) A) args s 0 0 A) (F0 m 66 ls [])) ∧
      (∀ (t : XT) (li : Nat → Int32) (lj : Nat → Int64) (H : Heap) (locs : List Loc) (ls : Array Slot), wpX5_clearBelow k 3 t li lj Q → lv_has ls 13 [(0, .ref (ad 11)), (1, .int (li 1)), (2, .int (li 2)), (3, .long (lj 3)), (5, .long (lj 5)), (7, .int (li 7)), (8, .long (lj 8))] → Hp D A s.heap (wX cI cJ cB cZ ad t) H locs → W p l e { frames := 0, cells := 0, slots := 0, locals := 0 } s m args below meth c H locs 0 0 (MQ below (va_Qv (fun u => Q u) (fun u t => xEnd D ((fun u : XT => (wX cI cJ cB cZ ad u)) u) A t) A) args s 0 0 A) (F0 m 71 ls [.int (li 100)])) ∧
      (∀ (t : XT) (li : Nat → Int32) (lj : Nat → Int64) (H : Heap) (locs : List Loc) (ls : Array Slot), wpX5_clearBelow k 4 t li lj Q → lv_has ls 13 [(0, .ref (ad 11)), (1, .int (li 1)), (2, .int (li 2)), (3, .long (lj 3)), (5, .long (lj 5)), (7, .int (li 7)), (8, .long (lj 8)), (10, .int (li 10)), (11, .int (li 11))] → Hp D A s.heap (wX cI cJ cB cZ ad t) H locs → W p l e { frames := 0, cells := 0, slots := 0, locals := 0 } s m args below meth c H locs 0 0 (MQ below (va_Qv (fun u => Q u) (fun u t => xEnd D ((fun u : XT => (wX cI cJ cB cZ ad u)) u) A t) A) args s 0 0 A) (F0 m 76 ls [])) ∧
      (∀ (t : XT) (li : Nat → Int32) (lj : Nat → Int64) (H : Heap) (locs : List Loc) (ls : Array Slot), wpX5_clearBelow k 5 t li lj Q → lv_has ls 13 [(0, .ref (ad 11)), (1, .int (li 1)), (2, .int (li 2)), (3, .long (lj 3)), (5, .long (lj 5)), (7, .int (li 7)), (8, .long (lj 8)), (10, .int (li 10)), (11, .int (li 11))] → Hp D A s.heap (wX cI cJ cB cZ ad t) H locs → W p l e { frames := 0, cells := 0, slots := 0, locals := 0 } s m args below meth c H locs 0 0 (MQ below (va_Qv (fun u => Q u) (fun u t => xEnd D ((fun u : XT => (wX cI cJ cB cZ ad u)) u) A t) A) args s 0 0 A) (F0 m 145 ls [])) := by
    intro k
    induction k with
    | zero => exact ⟨fun _ _ _ _ _ _ hR => False.elim hR, fun _ _ _ _ _ _ hR => False.elim hR, fun _ _ _ _ _ _ hR => False.elim hR, fun _ _ _ _ _ _ hR => False.elim hR, fun _ _ _ _ _ _ hR => False.elim hR, fun _ _ _ _ _ _ hR => False.elim hR⟩
    | succ k ih =>
      refine ⟨?_, ?_, ?_, ?_, ?_, ?_⟩
      · intro t li lj H locs ls hR hl h
        have hR : wbX5_clearBelow_0 (wpX5_clearBelow k) k t li lj Q := hR
        unfold wbX5_clearBelow_0 at hR
        refine lv_aload_n hx hb dX5_clearBelow_0 rfl (lv_at hl 0 rfl) ?_
        refine x_get (ci := 5) (C := RX5) (T := TX5) (N := 6) (v := .ref (ad 31)) B h hin5 11 1 rfl rfl (by decide) (by decide +kernel) rfl dX5_clearBelow_1 ?_
        refine lv_iload_n hx hb dX5_clearBelow_4 rfl (lv_at hl 1 rfl) ?_
        refine lv_aload_n hx hb dX5_clearBelow_5 rfl (lv_at hl 0 rfl) ?_
        refine x_get (ci := 5) (C := RX5) (T := TX5) (N := 6) (v := .int (t.1 11)) B h hin5 11 4 rfl rfl (by decide) (by decide +kernel) rfl dX5_clearBelow_6 ?_
        refine lv_imul hx hb dX5_clearBelow_9 ?_
        refine lv_topi (fun v_1 ev_1 => ?_)
        have hR := hR v_1 ev_1
        refine lv_iload_n hx hb dX5_clearBelow_10 rfl (lv_at hl 2 rfl) ?_
        refine lv_iadd hx hb dX5_clearBelow_11 ?_
        refine lv_topi (fun v_2 ev_2 => ?_)
        have hR := hR v_2 ev_2
        obtain ⟨hb_3, hR⟩ := hR
        refine va_lald (f := (t.2.2.2 8)) hx hb B.2.1 h.1 31 1 rfl rfl hb_3 dX5_clearBelow_12 ?_
        refine lv_topl (fun v_3 ev_3 => ?_)
        have hR := hR v_3 ev_3
        refine lv_lstore (lv' := [(5, .long v_3), (0, .ref (ad 11)), (1, .int (li 1)), (2, .int (li 2)), (3, .long (lj 3))]) hx hb dX5_clearBelow_13 hl (by decide) rfl (fun ls hl => ?_)
        refine lv_lload_n hx hb dX5_clearBelow_15 rfl (lv_at hl 4 rfl) ?_
        refine lv_lconst (v := 0) hx hb dX5_clearBelow_16 (by decide) ?_
        refine W.lcmp hx hb dX5_clearBelow_17 ?_
        refine lv_topi (fun v_4 ev_4 => ?_)
        have hR := hR v_4 ev_4
        refine lv_if_ne (tgt := 22) hx hb dX5_clearBelow_18 (by decide) (fun c_5 => ?_) (fun c_5 => ?_)
        · have hR := hR.1 c_5
          refine lv_iload_n hx hb dX5_clearBelow_22 rfl (lv_at hl 2 rfl) ?_
          refine lv_iconst (v := 1) hx hb dX5_clearBelow_23 (by decide) ?_
          refine lv_iadd hx hb dX5_clearBelow_24 ?_
          refine lv_topi (fun v_6 ev_6 => ?_)
          have hR := hR v_6 ev_6
          refine lv_istore (lv' := [(7, .int v_6), (5, .long v_3), (0, .ref (ad 11)), (1, .int (li 1)), (2, .int (li 2)), (3, .long (lj 3))]) hx hb dX5_clearBelow_25 hl (by decide) rfl (fun ls hl => ?_)
          exact ih.2.1 t (uI li 7 v_6) (uI lj 5 v_3) H locs ls hR (lv_sub hl [2, 3, 4, 5, 1, 0] rfl) h
        · have hR := hR.2 c_5
          exact x_vret (w1 := (fun u : XT => (wX cI cJ cB cZ ad u))) t B h hr hR dX5_clearBelow_21
      · intro t li lj H locs ls hR hl h
        have hR : wbX5_clearBelow_1 (wpX5_clearBelow k) k t li lj Q := hR
        unfold wbX5_clearBelow_1 at hR
        refine lv_iload hx hb dX5_clearBelow_27 (lv_at hl 5 rfl) ?_
        refine lv_aload_n hx hb dX5_clearBelow_29 rfl (lv_at hl 0 rfl) ?_
        refine x_get (ci := 5) (C := RX5) (T := TX5) (N := 6) (v := .int (t.1 10)) B h hin5 11 3 rfl rfl (by decide) (by decide +kernel) rfl dX5_clearBelow_30 ?_
        refine lv_icmp_ge (tgt := 151) hx hb dX5_clearBelow_33 (by decide) (fun c_7 => ?_) (fun c_7 => ?_)
        · have hR := hR.1 c_7
          exact x_vret (w1 := (fun u : XT => (wX cI cJ cB cZ ad u))) t B h hr hR dX5_clearBelow_151
        · have hR := hR.2 c_7
          refine lv_aload_n hx hb dX5_clearBelow_36 rfl (lv_at hl 0 rfl) ?_
          refine x_get (ci := 5) (C := RX5) (T := TX5) (N := 6) (v := .ref (ad 31)) B h hin5 11 1 rfl rfl (by decide) (by decide +kernel) rfl dX5_clearBelow_37 ?_
          refine lv_iload hx hb dX5_clearBelow_40 (lv_at hl 5 rfl) ?_
          refine lv_aload_n hx hb dX5_clearBelow_42 rfl (lv_at hl 0 rfl) ?_
          refine x_get (ci := 5) (C := RX5) (T := TX5) (N := 6) (v := .int (t.1 11)) B h hin5 11 4 rfl rfl (by decide) (by decide +kernel) rfl dX5_clearBelow_43 ?_
          refine lv_imul hx hb dX5_clearBelow_46 ?_
          refine lv_topi (fun v_8 ev_8 => ?_)
          have hR := hR v_8 ev_8
          refine lv_iload_n hx hb dX5_clearBelow_47 rfl (lv_at hl 2 rfl) ?_
          refine lv_iadd hx hb dX5_clearBelow_48 ?_
          refine lv_topi (fun v_9 ev_9 => ?_)
          have hR := hR v_9 ev_9
          obtain ⟨hb_10, hR⟩ := hR
          refine va_lald (f := (t.2.2.2 8)) hx hb B.2.1 h.1 31 1 rfl rfl hb_10 dX5_clearBelow_49 ?_
          refine lv_topl (fun v_10 ev_10 => ?_)
          have hR := hR v_10 ev_10
          refine lv_lstore (lv' := [(8, .long v_10), (0, .ref (ad 11)), (1, .int (li 1)), (2, .int (li 2)), (3, .long (lj 3)), (5, .long (lj 5)), (7, .int (li 7))]) hx hb dX5_clearBelow_50 hl (by decide) rfl (fun ls hl => ?_)
          refine lv_lload hx hb dX5_clearBelow_52 (lv_at hl 0 rfl) ?_
          refine lv_lconst (v := 0) hx hb dX5_clearBelow_54 (by decide) ?_
          refine W.lcmp hx hb dX5_clearBelow_55 ?_
          refine lv_topi (fun v_11 ev_11 => ?_)
          have hR := hR v_11 ev_11
          refine lv_if_ne (tgt := 66) hx hb dX5_clearBelow_56 (by decide) (fun c_12 => ?_) (fun c_12 => ?_)
          · have hR := hR.1 c_12
            exact ih.2.2.1 t li (uI lj 8 v_10) H locs ls hR (lv_sub hl [1, 2, 3, 4, 5, 6, 0] rfl) h
          · have hR := hR.2 c_12
            refine lv_lload hx hb dX5_clearBelow_59 (lv_at hl 5 rfl) ?_
            refine lv_lload_n hx hb dX5_clearBelow_61 rfl (lv_at hl 4 rfl) ?_
            refine W.lcmp hx hb dX5_clearBelow_62 ?_
            refine lv_topi (fun v_13 ev_13 => ?_)
            have hR := hR v_13 ev_13
            refine lv_if_eq (tgt := 70) hx hb dX5_clearBelow_63 (by decide) (fun c_14 => ?_) (fun c_14 => ?_)
            · have hR := hR.1 c_14
              refine lv_iconst (v := 0) hx hb dX5_clearBelow_70 (by decide) ?_
              exact ih.2.2.2.1 t (uI li 100 0) (uI lj 8 v_10) H locs ls hR (lv_sub hl [1, 2, 3, 4, 5, 6, 0] rfl) h
            · have hR := hR.2 c_14
              exact ih.2.2.1 t li (uI lj 8 v_10) H locs ls hR (lv_sub hl [1, 2, 3, 4, 5, 6, 0] rfl) h
      · intro t li lj H locs ls hR hl h
        have hR : wbX5_clearBelow_2 (wpX5_clearBelow k) k t li lj Q := hR
        unfold wbX5_clearBelow_2 at hR
        refine lv_iconst (v := 1) hx hb dX5_clearBelow_66 (by decide) ?_
        refine lv_goto (tgt := 71) hx hb dX5_clearBelow_67 (by decide) ?_
        exact ih.2.2.2.1 t (uI li 100 1) lj H locs ls hR (lv_sub hl [0, 1, 2, 3, 4, 5, 6] rfl) h
      · intro t li lj H locs ls hR hl h
        have hR : wbX5_clearBelow_3 (wpX5_clearBelow k) k t li lj Q := hR
        unfold wbX5_clearBelow_3 at hR
        refine lv_istore (lv' := [(10, .int (li 100)), (0, .ref (ad 11)), (1, .int (li 1)), (2, .int (li 2)), (3, .long (lj 3)), (5, .long (lj 5)), (7, .int (li 7)), (8, .long (lj 8))]) hx hb dX5_clearBelow_71 hl (by decide) rfl (fun ls hl => ?_)
        refine lv_iload_n hx hb dX5_clearBelow_73 rfl (lv_at hl 3 rfl) ?_
        refine lv_istore (lv' := [(11, .int (li 2)), (10, .int (li 100)), (0, .ref (ad 11)), (1, .int (li 1)), (2, .int (li 2)), (3, .long (lj 3)), (5, .long (lj 5)), (7, .int (li 7)), (8, .long (lj 8))]) hx hb dX5_clearBelow_74 hl (by decide) rfl (fun ls hl => ?_)
        exact ih.2.2.2.2.1 t (uI (uI li 10 (li 100)) 11 (li 2)) lj H locs ls hR (lv_sub hl [2, 3, 4, 5, 6, 7, 8, 1, 0] rfl) h
      · intro t li lj H locs ls hR hl h
        have hR : wbX5_clearBelow_4 (wpX5_clearBelow k) k t li lj Q := hR
        unfold wbX5_clearBelow_4 at hR
        refine lv_iload hx hb dX5_clearBelow_76 (lv_at hl 8 rfl) ?_
        refine lv_aload_n hx hb dX5_clearBelow_78 rfl (lv_at hl 0 rfl) ?_
        refine x_get (ci := 5) (C := RX5) (T := TX5) (N := 6) (v := .int (t.1 11)) B h hin5 11 4 rfl rfl (by decide) (by decide +kernel) rfl dX5_clearBelow_79 ?_
        refine lv_icmp_ge (tgt := 145) hx hb dX5_clearBelow_82 (by decide) (fun c_15 => ?_) (fun c_15 => ?_)
        · have hR := hR.1 c_15
          exact ih.2.2.2.2.2 t li lj H locs ls hR (lv_sub hl [0, 1, 2, 3, 4, 5, 6, 7, 8] rfl) h
        · have hR := hR.2 c_15
          refine lv_iload hx hb dX5_clearBelow_85 (lv_at hl 7 rfl) ?_
          refine lv_if_eq (tgt := 145) hx hb dX5_clearBelow_87 (by decide) (fun c_16 => ?_) (fun c_16 => ?_)
          · have hR := hR.1 c_16
            exact ih.2.2.2.2.2 t li lj H locs ls hR (lv_sub hl [0, 1, 2, 3, 4, 5, 6, 7, 8] rfl) h
          · have hR := hR.2 c_16
            refine lv_iload hx hb dX5_clearBelow_90 (lv_at hl 5 rfl) ?_
            refine lv_aload_n hx hb dX5_clearBelow_92 rfl (lv_at hl 0 rfl) ?_
            refine x_get (ci := 5) (C := RX5) (T := TX5) (N := 6) (v := .int (t.1 11)) B h hin5 11 4 rfl rfl (by decide) (by decide +kernel) rfl dX5_clearBelow_93 ?_
            refine lv_imul hx hb dX5_clearBelow_96 ?_
            refine lv_topi (fun v_17 ev_17 => ?_)
            have hR := hR v_17 ev_17
            refine lv_iload hx hb dX5_clearBelow_97 (lv_at hl 8 rfl) ?_
            refine lv_iadd hx hb dX5_clearBelow_99 ?_
            refine lv_topi (fun v_18 ev_18 => ?_)
            have hR := hR v_18 ev_18
            refine lv_istore (lv' := [(12, .int v_18), (0, .ref (ad 11)), (1, .int (li 1)), (2, .int (li 2)), (3, .long (lj 3)), (5, .long (lj 5)), (7, .int (li 7)), (8, .long (lj 8)), (10, .int (li 10)), (11, .int (li 11))]) hx hb dX5_clearBelow_100 hl (by decide) rfl (fun ls hl => ?_)
            refine lv_aload_n hx hb dX5_clearBelow_102 rfl (lv_at hl 1 rfl) ?_
            refine x_get (ci := 5) (C := RX5) (T := TX5) (N := 6) (v := .ref (ad 31)) B h hin5 11 1 rfl rfl (by decide) (by decide +kernel) rfl dX5_clearBelow_103 ?_
            refine lv_iload hx hb dX5_clearBelow_106 (lv_at hl 0 rfl) ?_
            refine lv_aload_n hx hb dX5_clearBelow_108 rfl (lv_at hl 1 rfl) ?_
            refine x_get (ci := 5) (C := RX5) (T := TX5) (N := 6) (v := .ref (ad 31)) B h hin5 11 1 rfl rfl (by decide) (by decide +kernel) rfl dX5_clearBelow_109 ?_
            refine lv_iload hx hb dX5_clearBelow_112 (lv_at hl 0 rfl) ?_
            obtain ⟨hb_19, hR⟩ := hR
            refine va_lald (f := (t.2.2.2 8)) hx hb B.2.1 h.1 31 1 rfl rfl hb_19 dX5_clearBelow_114 ?_
            refine lv_topl (fun v_19 ev_19 => ?_)
            have hR := hR v_19 ev_19
            refine lv_lload hx hb dX5_clearBelow_115 (lv_at hl 5 rfl) ?_
            refine lv_lmul hx hb dX5_clearBelow_117 ?_
            refine lv_topl (fun v_20 ev_20 => ?_)
            have hR := hR v_20 ev_20
            refine lv_lload hx hb dX5_clearBelow_118 (lv_at hl 7 rfl) ?_
            refine lv_aload_n hx hb dX5_clearBelow_120 rfl (lv_at hl 1 rfl) ?_
            refine x_get (ci := 5) (C := RX5) (T := TX5) (N := 6) (v := .ref (ad 31)) B h hin5 11 1 rfl rfl (by decide) (by decide +kernel) rfl dX5_clearBelow_121 ?_
            refine lv_iload_n hx hb dX5_clearBelow_124 rfl (lv_at hl 2 rfl) ?_
            refine lv_aload_n hx hb dX5_clearBelow_125 rfl (lv_at hl 1 rfl) ?_
            refine x_get (ci := 5) (C := RX5) (T := TX5) (N := 6) (v := .int (t.1 11)) B h hin5 11 4 rfl rfl (by decide) (by decide +kernel) rfl dX5_clearBelow_126 ?_
            refine lv_imul hx hb dX5_clearBelow_129 ?_
            refine lv_topi (fun v_21 ev_21 => ?_)
            have hR := hR v_21 ev_21
            refine lv_iload hx hb dX5_clearBelow_130 (lv_at hl 9 rfl) ?_
            refine lv_iadd hx hb dX5_clearBelow_132 ?_
            refine lv_topi (fun v_22 ev_22 => ?_)
            have hR := hR v_22 ev_22
            obtain ⟨hb_23, hR⟩ := hR
            refine va_lald (f := (t.2.2.2 8)) hx hb B.2.1 h.1 31 1 rfl rfl hb_23 dX5_clearBelow_133 ?_
            refine lv_topl (fun v_23 ev_23 => ?_)
            have hR := hR v_23 ev_23
            refine lv_lmul hx hb dX5_clearBelow_134 ?_
            refine lv_topl (fun v_24 ev_24 => ?_)
            have hR := hR v_24 ev_24
            refine lv_lsub hx hb dX5_clearBelow_135 ?_
            refine lv_topl (fun v_25 ev_25 => ?_)
            have hR := hR v_25 ev_25
            refine lv_lload_n hx hb dX5_clearBelow_136 rfl (lv_at hl 4 rfl) ?_
            obtain ⟨hd_26, hR⟩ := hR
            refine lv_ldiv hx hb dX5_clearBelow_137 hd_26 ?_
            refine lv_topl (fun v_26 ev_26 => ?_)
            have hR := hR v_26 ev_26
            obtain ⟨hb_27, hR⟩ := hR
            refine z_last (f := (t.2.2.2 8)) B h 31 1 rfl rfl hb_27 dX5_clearBelow_138 (fun H locs h => ?_)
            obtain ⟨t_27, et_27⟩ : ∃ v : XT, v = sB t 8 (vp_updL (t.2.2.2 8) v_18.toNatClampNeg v_26) := ⟨_, rfl⟩
            have hR := hR t_27 et_27
            have h : Hp D A s.heap (wX cI cJ cB cZ ad t_27) H locs := by rw [et_27]; exact h
            obtain ⟨v_28, ev_28⟩ : ∃ v : Int32, v = (li 11) + Int32.ofInt 1 := ⟨_, rfl⟩
            have hR := hR v_28 ev_28
            refine lv_iinc (v := v_28) (lv' := [(11, .int v_28), (12, .int v_18), (0, .ref (ad 11)), (1, .int (li 1)), (2, .int (li 2)), (3, .long (lj 3)), (5, .long (lj 5)), (7, .int (li 7)), (8, .long (lj 8)), (10, .int (li 10))]) hx hb dX5_clearBelow_139 hl (k := 9) rfl ev_28.symm (by decide) rfl (fun ls hl => ?_)
            refine lv_goto (tgt := 76) hx hb dX5_clearBelow_142 (by decide) ?_
            exact ih.2.2.2.2.1 t_27 (uI li 11 v_28) lj H locs ls hR (lv_sub hl [2, 3, 4, 5, 6, 7, 8, 9, 0] rfl) h
      · intro t li lj H locs ls hR hl h
        have hR : wbX5_clearBelow_5 (wpX5_clearBelow k) k t li lj Q := hR
        unfold wbX5_clearBelow_5 at hR
        obtain ⟨v_29, ev_29⟩ : ∃ v : Int32, v = (li 7) + Int32.ofInt 1 := ⟨_, rfl⟩
        have hR := hR v_29 ev_29
        refine lv_iinc (v := v_29) (lv' := [(7, .int v_29), (0, .ref (ad 11)), (1, .int (li 1)), (2, .int (li 2)), (3, .long (lj 3)), (5, .long (lj 5)), (8, .long (lj 8)), (10, .int (li 10)), (11, .int (li 11))]) hx hb dX5_clearBelow_145 hl (k := 5) rfl ev_29.symm (by decide) rfl (fun ls hl => ?_)
        refine lv_goto (tgt := 27) hx hb dX5_clearBelow_148 (by decide) ?_
        exact ih.2.1 t (uI li 7 v_29) lj H locs ls hR (lv_sub hl [1, 2, 3, 4, 5, 0] rfl) h
  exact (main k).1 t _ _ s.heap [] ls hR hl h
set_option maxRecDepth 20000 in
theorem ggX5_eliminate_X5_firstRow : GoodIn wsX5_eliminate wsX5_firstRow := goodIn_r _ [14, 3, 2, 4, 27, 28, 29, 30, 31, 32] (by decide +kernel) (by decide +kernel)
set_option maxRecDepth 20000 in
theorem gX5_eliminate_X5_firstRow : GoodIn wsX5_eliminate (wsV RX5 34 RX5 yX5_firstRow wsX5_firstRow) := goodIn_app (goodIn_of _ (by decide +kernel)) ggX5_eliminate_X5_firstRow
set_option maxRecDepth 20000 in
theorem ggX5_eliminate_X5_swapRows : GoodIn wsX5_eliminate wsX5_swapRows := goodIn_r _ [18, 4, 27, 28, 29, 30, 31, 32] (by decide +kernel) (by decide +kernel)
set_option maxRecDepth 20000 in
theorem gX5_eliminate_X5_swapRows : GoodIn wsX5_eliminate (wsV RX5 38 RX5 yX5_swapRows wsX5_swapRows) := goodIn_app (goodIn_of _ (by decide +kernel)) ggX5_eliminate_X5_swapRows
set_option maxRecDepth 20000 in
theorem ggX5_eliminate_X5_makePositive : GoodIn wsX5_eliminate wsX5_makePositive := goodIn_r _ [22, 2, 4, 27, 28, 29, 30, 31, 32] (by decide +kernel) (by decide +kernel)
set_option maxRecDepth 20000 in
theorem gX5_eliminate_X5_makePositive : GoodIn wsX5_eliminate (wsV RX5 42 RX5 yX5_makePositive wsX5_makePositive) := goodIn_app (goodIn_of _ (by decide +kernel)) ggX5_eliminate_X5_makePositive
set_option maxRecDepth 20000 in
theorem ggX5_eliminate_X5_clearBelow : GoodIn wsX5_eliminate wsX5_clearBelow := goodIn_r _ [26, 2, 4, 3, 27, 28, 29, 30, 31, 32] (by decide +kernel) (by decide +kernel)
set_option maxRecDepth 20000 in
theorem gX5_eliminate_X5_clearBelow : GoodIn wsX5_eliminate (wsV RX5 46 RX5 yX5_clearBelow wsX5_clearBelow) := goodIn_app (goodIn_of _ (by decide +kernel)) ggX5_eliminate_X5_clearBelow
def wbX5_eliminate_0 (rec : Nat → XT → (Nat → Int32) → (Nat → Int64) → (Int32 → XT → Prop) → Prop) (k : Nat) (t : XT) (li : Nat → Int32) (lj : Nat → Int64) (Q : Int32 → XT → Prop) : Prop :=
  (∀ v_1 : Int32, v_1 = ((t.1 10) * (t.1 11)) → ((¬ (0 : Int32) < 0) ∧ (¬ (0 : Int32) < 0) ∧ (¬ v_1 < 0) ∧ ((0 : Int32).toNatClampNeg + v_1.toNatClampNeg ≤ 900) ∧ ((0 : Int32).toNatClampNeg + v_1.toNatClampNeg ≤ 900) ∧ (∀ t_2 : XT, t_2 = sB t 8 (va_cpy (t.2.2.2 7) (t.2.2.2 8) (0 : Int32).toNatClampNeg (0 : Int32).toNatClampNeg v_1.toNatClampNeg) → rec 1 t_2 (uI (uI li 1 0) 4 0) (uI lj 2 1) Q)))
def wbX5_eliminate_1 (rec : Nat → XT → (Nat → Int32) → (Nat → Int64) → (Int32 → XT → Prop) → Prop) (k : Nat) (t : XT) (li : Nat → Int32) (lj : Nat → Int64) (Q : Int32 → XT → Prop) : Prop :=
  ((((t.1 11) : Int32) ≤ (li 4)) → rec 3 t li lj Q) ∧ (¬ (((t.1 11) : Int32) ≤ (li 4)) → ((((t.1 10) : Int32) ≤ (li 1)) → rec 3 t li lj Q) ∧ (¬ (((t.1 10) : Int32) ≤ (li 1)) → (wqX5_firstRow k t (li 1) (li 4) (fun r_5 t_5 => ((r_5 = (-1)) → rec 2 t_5 (uI li 5 r_5) lj Q) ∧ (¬ (r_5 = (-1)) → (wqX5_swapRows_c31 k t_5 (li 1) r_5 (fun t_7 => (wqX5_makePositive k t_7 (li 1) (li 4) (fun t_8 => (wqX5_clearBelow k t_8 (li 1) (li 4) (lj 2) (fun t_9 => (∀ v_10 : Int32, v_10 = ((li 1) * (t_9.1 11)) → (∀ v_11 : Int32, v_11 = (v_10 + (li 4)) → (vp_in v_11 900 ∧ (∀ v_12 : Int64, v_12 = (t_9.2.2.2 8) v_11.toNatClampNeg → (∀ v_13 : Int32, v_13 = (li 1) + Int32.ofInt 1 → rec 2 t_9 (uI (uI li 1 v_13) 5 r_5) (uI lj 2 v_12) Q))))))))))))))))
def wbX5_eliminate_2 (rec : Nat → XT → (Nat → Int32) → (Nat → Int64) → (Int32 → XT → Prop) → Prop) (k : Nat) (t : XT) (li : Nat → Int32) (lj : Nat → Int64) (Q : Int32 → XT → Prop) : Prop :=
  (∀ v_14 : Int32, v_14 = (li 4) + Int32.ofInt 1 → rec 1 t (uI li 4 v_14) lj Q)
def wbX5_eliminate_3 (rec : Nat → XT → (Nat → Int32) → (Nat → Int64) → (Int32 → XT → Prop) → Prop) (k : Nat) (t : XT) (li : Nat → Int32) (lj : Nat → Int64) (Q : Int32 → XT → Prop) : Prop :=
  (∀ t_15 : XT, t_15 = sJ t 7 (lj 2) → Q (li 1) t_15)
def wpX5_eliminate : Nat → Nat → XT → (Nat → Int32) → (Nat → Int64) → (Int32 → XT → Prop) → Prop
  | 0, _, _, _, _, _ => False
  | k + 1, 0, t, li, lj, Q => wbX5_eliminate_0 (wpX5_eliminate k) k t li lj Q
  | k + 1, 1, t, li, lj, Q => wbX5_eliminate_1 (wpX5_eliminate k) k t li lj Q
  | k + 1, 2, t, li, lj, Q => wbX5_eliminate_2 (wpX5_eliminate k) k t li lj Q
  | k + 1, 3, t, li, lj, Q => wbX5_eliminate_3 (wpX5_eliminate k) k t li lj Q
  | _ + 1, _, _, _, _, _ => False
def wqX5_eliminate (k : Nat) (t : XT)  (Q : Int32 → XT → Prop) : Prop := wpX5_eliminate k 0 t (fun _ => 0) (fun _ => 0) Q
set_option maxHeartbeats 8000000 in
set_option maxRecDepth 100000 in
theorem wkX5_eliminate (l : Launch) (D : va_G) (cI cJ cB cZ : ClassId) (ad : Nat → Nat) (k : Nat) (t : XT)  (Q : Int32 → XT → Prop) (hR : wqX5_eliminate k t  Q) : MetI l yX5_eliminate wsX5_eliminate 1 64 0 0 D (TYS cI cJ cB cZ) (wX cI cJ cB cZ ad t) [.ref (ad 11)] (fun r u => Q r u) (fun u : XT => (wX cI cJ cB cZ ad u)) := by
  refine x_startI (ty := .int) (cc := cX5_eliminate) (by decide) rfl (Nat.le_of_ble_eq_true rfl) ?_
  intro p e s m args below meth c A ls B hr hnm h hl
  have hx := B.1.1
  have hb := B.1.2.1
  have hml := B.1.2.2.1
  have hts := B.1.2.2.2.2
  have hown : s.vm.findClass RX5 = some m.cls := B.1.2.2.2.1
  have hin5 : ∀ w ∈ u_ws RX5 TX5 6, w ∈ wsX5_eliminate := by decide +kernel
  have main : ∀ k : Nat, (∀ (t : XT) (li : Nat → Int32) (lj : Nat → Int64) (H : Heap) (locs : List Loc) (ls : Array Slot), wpX5_eliminate k 0 t li lj Q → lv_has ls 6 [(0, .ref (ad 11))] → Hp D A s.heap (wX cI cJ cB cZ ad t) H locs → W p l e { frames := 1, cells := 0, slots := 0, locals := 64 } s m args below meth c H locs 0 0 (MQ below (va_Qi (fun r u => Q r u) (fun u t => xEnd D ((fun u : XT => (wX cI cJ cB cZ ad u)) u) A t) A) args s 0 0 A) (F0 m 0 ls [])) ∧
      (∀ (t : XT) (li : Nat → Int32) (lj : Nat → Int64) (H : Heap) (locs : List Loc) (ls : Array Slot), wpX5_eliminate k 1 t li lj Q → lv_has ls 6 [(0, .ref (ad 11)), (1, .int (li 1)), (2, .long (lj 2)), (4, .int (li 4))] → Hp D A s.heap (wX cI cJ cB cZ ad t) H locs → W p l e { frames := 1, cells := 0, slots := 0, locals := 64 } s m args below meth c H locs 0 0 (MQ below (va_Qi (fun r u => Q r u) (fun u t => xEnd D ((fun u : XT => (wX cI cJ cB cZ ad u)) u) A t) A) args s 0 0 A) (F0 m 29 ls [])) ∧
      (∀ (t : XT) (li : Nat → Int32) (lj : Nat → Int64) (H : Heap) (locs : List Loc) (ls : Array Slot), wpX5_eliminate k 2 t li lj Q → lv_has ls 6 [(0, .ref (ad 11)), (1, .int (li 1)), (2, .long (lj 2)), (4, .int (li 4)), (5, .int (li 5))] → Hp D A s.heap (wX cI cJ cB cZ ad t) H locs → W p l e { frames := 1, cells := 0, slots := 0, locals := 64 } s m args below meth c H locs 0 0 (MQ below (va_Qi (fun r u => Q r u) (fun u t => xEnd D ((fun u : XT => (wX cI cJ cB cZ ad u)) u) A t) A) args s 0 0 A) (F0 m 105 ls [])) ∧
      (∀ (t : XT) (li : Nat → Int32) (lj : Nat → Int64) (H : Heap) (locs : List Loc) (ls : Array Slot), wpX5_eliminate k 3 t li lj Q → lv_has ls 6 [(0, .ref (ad 11)), (1, .int (li 1)), (2, .long (lj 2)), (4, .int (li 4))] → Hp D A s.heap (wX cI cJ cB cZ ad t) H locs → W p l e { frames := 1, cells := 0, slots := 0, locals := 64 } s m args below meth c H locs 0 0 (MQ below (va_Qi (fun r u => Q r u) (fun u t => xEnd D ((fun u : XT => (wX cI cJ cB cZ ad u)) u) A t) A) args s 0 0 A) (F0 m 111 ls [])) := by
    intro k
    induction k with
    | zero => exact ⟨fun _ _ _ _ _ _ hR => False.elim hR, fun _ _ _ _ _ _ hR => False.elim hR, fun _ _ _ _ _ _ hR => False.elim hR, fun _ _ _ _ _ _ hR => False.elim hR⟩
    | succ k ih =>
      refine ⟨?_, ?_, ?_, ?_⟩
      · intro t li lj H locs ls hR hl h
        have hR : wbX5_eliminate_0 (wpX5_eliminate k) k t li lj Q := hR
        unfold wbX5_eliminate_0 at hR
        refine lv_aload_n hx hb dX5_eliminate_0 rfl (lv_at hl 0 rfl) ?_
        refine x_get (ci := 5) (C := RX5) (T := TX5) (N := 6) (v := .ref (ad 30)) B h hin5 11 0 rfl rfl (by decide) (by decide +kernel) rfl dX5_eliminate_1 ?_
        refine lv_iconst (v := 0) hx hb dX5_eliminate_4 (by decide) ?_
        refine lv_aload_n hx hb dX5_eliminate_5 rfl (lv_at hl 0 rfl) ?_
        refine x_get (ci := 5) (C := RX5) (T := TX5) (N := 6) (v := .ref (ad 31)) B h hin5 11 1 rfl rfl (by decide) (by decide +kernel) rfl dX5_eliminate_6 ?_
        refine lv_iconst (v := 0) hx hb dX5_eliminate_9 (by decide) ?_
        refine lv_aload_n hx hb dX5_eliminate_10 rfl (lv_at hl 0 rfl) ?_
        refine x_get (ci := 5) (C := RX5) (T := TX5) (N := 6) (v := .int (t.1 10)) B h hin5 11 3 rfl rfl (by decide) (by decide +kernel) rfl dX5_eliminate_11 ?_
        refine lv_aload_n hx hb dX5_eliminate_14 rfl (lv_at hl 0 rfl) ?_
        refine x_get (ci := 5) (C := RX5) (T := TX5) (N := 6) (v := .int (t.1 11)) B h hin5 11 4 rfl rfl (by decide) (by decide +kernel) rfl dX5_eliminate_15 ?_
        refine lv_imul hx hb dX5_eliminate_18 ?_
        refine lv_topi (fun v_1 ev_1 => ?_)
        have hR := hR v_1 ev_1
        obtain ⟨h1_2, h2_2, h3_2, h4_2, h5_2, hR⟩ := hR
        refine va_copyl (f := (t.2.2.2 7)) (g := (t.2.2.2 8)) hx hb (hml.trans hl.1.symm) hown (hts (.methodLink RX5 28 arraycopyName) (by decide +kernel)) (hts (.native arraycopyName) (by decide +kernel)) (hts (.static arraycopyName) (by decide +kernel)) (hts (.initialized "java/lang/System") (by decide +kernel)) B.2.1 h.1 h.2.1 h.2.2.1 30 31 1 1 rfl rfl rfl rfl rfl h1_2 h2_2 h3_2 h4_2 h5_2 (fun _ _ => rfl) (Nat.le_of_ble_eq_true rfl) (by decide) dX5_eliminate_19 (fun H locs hP hD hS => ?_)
        have h : Hp D A s.heap _ H locs := ⟨hP, hD, hS, h.2.2.2⟩
        obtain ⟨t_2, et_2⟩ : ∃ v : XT, v = sB t 8 (va_cpy (t.2.2.2 7) (t.2.2.2 8) (0 : Int32).toNatClampNeg (0 : Int32).toNatClampNeg v_1.toNatClampNeg) := ⟨_, rfl⟩
        have hR := hR t_2 et_2
        have h : Hp D A s.heap (wX cI cJ cB cZ ad t_2) H locs := by rw [et_2]; exact h
        refine lv_iconst (v := 0) hx hb dX5_eliminate_22 (by decide) ?_
        refine lv_istore_n (lv' := [(1, .int 0), (0, .ref (ad 11))]) hx hb dX5_eliminate_23 rfl hl (by decide) rfl (fun ls hl => ?_)
        refine lv_lconst (v := 1) hx hb dX5_eliminate_24 (by decide) ?_
        refine lv_lstore_n (lv' := [(2, .long 1), (1, .int 0), (0, .ref (ad 11))]) hx hb dX5_eliminate_25 rfl hl (by decide) rfl (fun ls hl => ?_)
        refine lv_iconst (v := 0) hx hb dX5_eliminate_26 (by decide) ?_
        refine lv_istore (lv' := [(4, .int 0), (2, .long 1), (1, .int 0), (0, .ref (ad 11))]) hx hb dX5_eliminate_27 hl (by decide) rfl (fun ls hl => ?_)
        exact ih.2.1 t_2 (uI (uI li 1 0) 4 0) (uI lj 2 1) H locs ls hR (lv_sub hl [3, 2, 1, 0] rfl) h
      · intro t li lj H locs ls hR hl h
        have hR : wbX5_eliminate_1 (wpX5_eliminate k) k t li lj Q := hR
        unfold wbX5_eliminate_1 at hR
        refine lv_iload hx hb dX5_eliminate_29 (lv_at hl 3 rfl) ?_
        refine lv_aload_n hx hb dX5_eliminate_31 rfl (lv_at hl 0 rfl) ?_
        refine x_get (ci := 5) (C := RX5) (T := TX5) (N := 6) (v := .int (t.1 11)) B h hin5 11 4 rfl rfl (by decide) (by decide +kernel) rfl dX5_eliminate_32 ?_
        refine lv_icmp_ge (tgt := 111) hx hb dX5_eliminate_35 (by decide) (fun c_3 => ?_) (fun c_3 => ?_)
        · have hR := hR.1 c_3
          exact ih.2.2.2 t li lj H locs ls hR (lv_sub hl [0, 1, 2, 3] rfl) h
        · have hR := hR.2 c_3
          refine lv_iload_n hx hb dX5_eliminate_38 rfl (lv_at hl 1 rfl) ?_
          refine lv_aload_n hx hb dX5_eliminate_39 rfl (lv_at hl 0 rfl) ?_
          refine x_get (ci := 5) (C := RX5) (T := TX5) (N := 6) (v := .int (t.1 10)) B h hin5 11 3 rfl rfl (by decide) (by decide +kernel) rfl dX5_eliminate_40 ?_
          refine lv_icmp_ge (tgt := 111) hx hb dX5_eliminate_43 (by decide) (fun c_4 => ?_) (fun c_4 => ?_)
          · have hR := hR.1 c_4
            exact ih.2.2.2 t li lj H locs ls hR (lv_sub hl [0, 1, 2, 3] rfl) h
          · have hR := hR.2 c_4
            refine lv_aload_n hx hb dX5_eliminate_46 rfl (lv_at hl 0 rfl) ?_
            refine lv_iload_n hx hb dX5_eliminate_47 rfl (lv_at hl 1 rfl) ?_
            refine lv_iload hx hb dX5_eliminate_48 (lv_at hl 3 rfl) ?_
            refine x_cVIF (n := 2) (As := [.int (li 1), .int (li 4)]) (rest := []) B h (wkX5_firstRow l D cI cJ cB cZ ad k t (li 1) (li 4) _ hR) ⟨⟨_, rfl⟩, by decide +kernel, Nat.le_of_ble_eq_true rfl, Nat.le_of_ble_eq_true rfl⟩ gX5_eliminate_X5_firstRow (show ((wX cI cJ cB cZ ad t) : va_W)[11]? = some (_, .inr (5, _)) from rfl) rfl rfl hl.1 rfl (Nat.le_of_ble_eq_true rfl) dX5_eliminate_50 ⟨Nat.le_of_ble_eq_true rfl, Nat.le_of_ble_eq_true rfl⟩ (fun r_5 t_5 H locs hR h => ?_)
            refine lv_istore (lv' := [(5, .int r_5), (0, .ref (ad 11)), (1, .int (li 1)), (2, .long (lj 2)), (4, .int (li 4))]) hx hb dX5_eliminate_53 hl (by decide) rfl (fun ls hl => ?_)
            refine lv_iload hx hb dX5_eliminate_55 (lv_at hl 0 rfl) ?_
            refine lv_iconst (v := (-1)) hx hb dX5_eliminate_57 (by decide) ?_
            refine lv_icmp_eq (tgt := 105) hx hb dX5_eliminate_58 (by decide) (fun c_6 => ?_) (fun c_6 => ?_)
            · have hR := hR.1 c_6
              exact ih.2.2.1 t_5 (uI li 5 r_5) lj H locs ls hR (lv_sub hl [1, 2, 3, 4, 0] rfl) h
            · have hR := hR.2 c_6
              refine lv_aload_n hx hb dX5_eliminate_61 rfl (lv_at hl 1 rfl) ?_
              refine lv_aload_n hx hb dX5_eliminate_62 rfl (lv_at hl 1 rfl) ?_
              refine x_get (ci := 5) (C := RX5) (T := TX5) (N := 6) (v := .ref (ad 31)) B h hin5 11 1 rfl rfl (by decide) (by decide +kernel) rfl dX5_eliminate_63 ?_
              refine lv_iload_n hx hb dX5_eliminate_66 rfl (lv_at hl 2 rfl) ?_
              refine lv_iload hx hb dX5_eliminate_67 (lv_at hl 0 rfl) ?_
              refine x_cVVF (n := 3) (As := [.ref (ad 31), .int (li 1), .int r_5]) (rest := []) B h (wkX5_swapRows_c31 l D cI cJ cB cZ ad k t_5 (li 1) r_5 _ hR) ⟨⟨_, rfl⟩, by decide +kernel, Nat.le_of_ble_eq_true rfl, Nat.le_of_ble_eq_true rfl⟩ gX5_eliminate_X5_swapRows (show ((wX cI cJ cB cZ ad t_5) : va_W)[11]? = some (_, .inr (5, _)) from rfl) rfl rfl hl.1 rfl (Nat.le_of_ble_eq_true rfl) dX5_eliminate_69 ⟨Nat.le_of_ble_eq_true rfl, Nat.le_of_ble_eq_true rfl⟩ (fun t_7 H locs hR h => ?_)
              refine lv_aload_n hx hb dX5_eliminate_72 rfl (lv_at hl 1 rfl) ?_
              refine lv_iload_n hx hb dX5_eliminate_73 rfl (lv_at hl 2 rfl) ?_
              refine lv_iload hx hb dX5_eliminate_74 (lv_at hl 4 rfl) ?_
              refine x_cVVF (n := 2) (As := [.int (li 1), .int (li 4)]) (rest := []) B h (wkX5_makePositive l D cI cJ cB cZ ad k t_7 (li 1) (li 4) _ hR) ⟨⟨_, rfl⟩, by decide +kernel, Nat.le_of_ble_eq_true rfl, Nat.le_of_ble_eq_true rfl⟩ gX5_eliminate_X5_makePositive (show ((wX cI cJ cB cZ ad t_7) : va_W)[11]? = some (_, .inr (5, _)) from rfl) rfl rfl hl.1 rfl (Nat.le_of_ble_eq_true rfl) dX5_eliminate_76 ⟨Nat.le_of_ble_eq_true rfl, Nat.le_of_ble_eq_true rfl⟩ (fun t_8 H locs hR h => ?_)
              refine lv_aload_n hx hb dX5_eliminate_79 rfl (lv_at hl 1 rfl) ?_
              refine lv_iload_n hx hb dX5_eliminate_80 rfl (lv_at hl 2 rfl) ?_
              refine lv_iload hx hb dX5_eliminate_81 (lv_at hl 4 rfl) ?_
              refine lv_lload_n hx hb dX5_eliminate_83 rfl (lv_at hl 3 rfl) ?_
              refine x_cVVF (n := 3) (As := [.int (li 1), .int (li 4), .long (lj 2)]) (rest := []) B h (wkX5_clearBelow l D cI cJ cB cZ ad k t_8 (li 1) (li 4) (lj 2) _ hR) ⟨⟨_, rfl⟩, by decide +kernel, Nat.le_of_ble_eq_true rfl, Nat.le_of_ble_eq_true rfl⟩ gX5_eliminate_X5_clearBelow (show ((wX cI cJ cB cZ ad t_8) : va_W)[11]? = some (_, .inr (5, _)) from rfl) rfl rfl hl.1 rfl (Nat.le_of_ble_eq_true rfl) dX5_eliminate_84 ⟨Nat.le_of_ble_eq_true rfl, Nat.le_of_ble_eq_true rfl⟩ (fun t_9 H locs hR h => ?_)
              refine lv_aload_n hx hb dX5_eliminate_87 rfl (lv_at hl 1 rfl) ?_
              refine x_get (ci := 5) (C := RX5) (T := TX5) (N := 6) (v := .ref (ad 31)) B h hin5 11 1 rfl rfl (by decide) (by decide +kernel) rfl dX5_eliminate_88 ?_
              refine lv_iload_n hx hb dX5_eliminate_91 rfl (lv_at hl 2 rfl) ?_
              refine lv_aload_n hx hb dX5_eliminate_92 rfl (lv_at hl 1 rfl) ?_
              refine x_get (ci := 5) (C := RX5) (T := TX5) (N := 6) (v := .int (t_9.1 11)) B h hin5 11 4 rfl rfl (by decide) (by decide +kernel) rfl dX5_eliminate_93 ?_
              refine lv_imul hx hb dX5_eliminate_96 ?_
              refine lv_topi (fun v_10 ev_10 => ?_)
              have hR := hR v_10 ev_10
              refine lv_iload hx hb dX5_eliminate_97 (lv_at hl 4 rfl) ?_
              refine lv_iadd hx hb dX5_eliminate_99 ?_
              refine lv_topi (fun v_11 ev_11 => ?_)
              have hR := hR v_11 ev_11
              obtain ⟨hb_12, hR⟩ := hR
              refine va_lald (f := (t_9.2.2.2 8)) hx hb B.2.1 h.1 31 1 rfl rfl hb_12 dX5_eliminate_100 ?_
              refine lv_topl (fun v_12 ev_12 => ?_)
              have hR := hR v_12 ev_12
              refine lv_lstore_n (lv' := [(2, .long v_12), (5, .int r_5), (0, .ref (ad 11)), (1, .int (li 1)), (4, .int (li 4))]) hx hb dX5_eliminate_101 rfl hl (by decide) rfl (fun ls hl => ?_)
              obtain ⟨v_13, ev_13⟩ : ∃ v : Int32, v = (li 1) + Int32.ofInt 1 := ⟨_, rfl⟩
              have hR := hR v_13 ev_13
              refine lv_iinc (v := v_13) (lv' := [(1, .int v_13), (2, .long v_12), (5, .int r_5), (0, .ref (ad 11)), (4, .int (li 4))]) hx hb dX5_eliminate_102 hl (k := 3) rfl ev_13.symm (by decide) rfl (fun ls hl => ?_)
              exact ih.2.2.1 t_9 (uI (uI li 1 v_13) 5 r_5) (uI lj 2 v_12) H locs ls hR (lv_sub hl [3, 0, 1, 4, 2] rfl) h
      · intro t li lj H locs ls hR hl h
        have hR : wbX5_eliminate_2 (wpX5_eliminate k) k t li lj Q := hR
        unfold wbX5_eliminate_2 at hR
        obtain ⟨v_14, ev_14⟩ : ∃ v : Int32, v = (li 4) + Int32.ofInt 1 := ⟨_, rfl⟩
        have hR := hR v_14 ev_14
        refine lv_iinc (v := v_14) (lv' := [(4, .int v_14), (0, .ref (ad 11)), (1, .int (li 1)), (2, .long (lj 2)), (5, .int (li 5))]) hx hb dX5_eliminate_105 hl (k := 3) rfl ev_14.symm (by decide) rfl (fun ls hl => ?_)
        refine lv_goto (tgt := 29) hx hb dX5_eliminate_108 (by decide) ?_
        exact ih.2.1 t (uI li 4 v_14) lj H locs ls hR (lv_sub hl [1, 2, 3, 0] rfl) h
      · intro t li lj H locs ls hR hl h
        have hR : wbX5_eliminate_3 (wpX5_eliminate k) k t li lj Q := hR
        unfold wbX5_eliminate_3 at hR
        refine lv_aload_n hx hb dX5_eliminate_111 rfl (lv_at hl 0 rfl) ?_
        refine lv_lload_n hx hb dX5_eliminate_112 rfl (lv_at hl 2 rfl) ?_
        refine x_put (ci := 5) (C := RX5) (T := TX5) (N := 6) (v := .long (lj 2)) (ty := .long) B h hin5 tyX5 tyX5_ok nmX5 11 5 rfl rfl (by decide) (by decide +kernel) rfl rfl rfl rfl (Nat.le_of_ble_eq_true rfl) dX5_eliminate_113 (fun H locs h => ?_)
        obtain ⟨t_15, et_15⟩ : ∃ v : XT, v = sJ t 7 (lj 2) := ⟨_, rfl⟩
        have hR := hR t_15 et_15
        have h : Hp D A s.heap (wX cI cJ cB cZ ad t_15) H locs := by rw [et_15]; exact h
        refine lv_iload_n hx hb dX5_eliminate_116 rfl (lv_at hl 1 rfl) ?_
        exact x_iret (w1 := (fun u : XT => (wX cI cJ cB cZ ad u))) t_15 B h hr rfl hR dX5_eliminate_117
  exact (main k).1 t _ _ s.heap [] ls hR hl h
set_option maxRecDepth 20000 in
theorem ggX0_rankOf_X0_fill : GoodIn wsX0_rankOf wsX0_fill := goodIn_r _ [8, 3, 1, 9, 10, 11, 12, 13, 14, 15, 16, 17, 18, 19, 20, 21, 22, 23, 24, 25, 26, 27, 28, 29, 30, 31, 32, 33, 34, 35, 36, 37, 38, 39, 40, 41, 42, 43, 44, 45, 46, 47, 48, 49, 50, 51, 52, 53, 54, 55, 56, 57, 58, 59, 60, 61, 62, 63, 64, 65, 66, 67, 68, 69, 70, 71, 72, 73, 74, 75, 76, 77, 78, 79, 80, 81, 82, 83, 84, 85, 86, 87, 88, 89, 90, 91, 92, 93, 94, 95, 96, 97, 98, 99, 100, 101, 102, 103, 104, 105, 106, 107, 108, 109, 110, 111, 112, 113, 114, 7, 115, 116, 117, 118, 119, 120, 121, 122, 149, 150, 151, 152, 153, 154, 155, 156, 157, 158, 159, 160, 161, 162, 163, 164, 165, 166, 167, 168, 169, 170, 171, 172, 173, 174, 175, 176, 177, 178, 179, 180, 181, 182, 183, 184] (by decide +kernel) (by decide +kernel)
set_option maxRecDepth 20000 in
theorem gX0_rankOf_X0_fill : GoodIn wsX0_rankOf (wsV RX0 55 RX0 yX0_fill wsX0_fill) := goodIn_app (goodIn_of _ (by decide +kernel)) ggX0_rankOf_X0_fill
set_option maxRecDepth 20000 in
theorem ggX0_rankOf_X5_eliminate : GoodIn wsX0_rankOf wsX5_eliminate := goodIn_r _ [126, 122, 127, 24, 25, 128, 129, 130, 131, 132, 133, 134, 135, 22, 136, 137, 138, 139, 140, 141, 142, 143, 144, 145, 146, 147, 148, 160, 161, 162, 163, 164, 165] (by decide +kernel) (by decide +kernel)
set_option maxRecDepth 20000 in
theorem gX0_rankOf_X5_eliminate : GoodIn wsX0_rankOf (wsV RX0 59 RX5 yX5_eliminate wsX5_eliminate) := goodIn_app (goodIn_of _ (by decide +kernel)) ggX0_rankOf_X5_eliminate
def wbX0_rankOf_0 (rec : Nat → XT → (Nat → Int32) → (Nat → Int64) → (Int32 → XT → Prop) → Prop) (k : Nat) (t : XT) (li : Nat → Int32) (lj : Nat → Int64) (Q : Int32 → XT → Prop) : Prop :=
  (((li 3) < 1) → rec 1 t li lj Q) ∧ (¬ ((li 3) < 1) → (((li 3) < 5) → (vp_in (li 3) 5 ∧ (∀ v_3 : Int64, v_3 = (t.2.2.2 2) (li 3).toNatClampNeg → (∀ v_4 : Int64, v_4 = ((lj 1) &&& v_3) → (∀ v_5 : Int32, v_5 = ((li 3) - 1) → (vp_in v_5 5 ∧ (∀ v_6 : Int64, v_6 = (t.2.2.2 2) v_5.toNatClampNeg → (∀ v_7 : Int64, v_7 = ((lj 1) &&& v_6) → (wqX0_fill k t v_4 v_7 (li 4) (fun t_8 => (wqX5_eliminate k t_8  (fun r_9 t_9 => Q r_9 t_9)))))))))))) ∧ (¬ ((li 3) < 5) → rec 1 t li lj Q))
def wbX0_rankOf_1 (rec : Nat → XT → (Nat → Int32) → (Nat → Int64) → (Int32 → XT → Prop) → Prop) (k : Nat) (t : XT) (li : Nat → Int32) (lj : Nat → Int64) (Q : Int32 → XT → Prop) : Prop :=
  Q 0 t
def wpX0_rankOf : Nat → Nat → XT → (Nat → Int32) → (Nat → Int64) → (Int32 → XT → Prop) → Prop
  | 0, _, _, _, _, _ => False
  | k + 1, 0, t, li, lj, Q => wbX0_rankOf_0 (wpX0_rankOf k) k t li lj Q
  | k + 1, 1, t, li, lj, Q => wbX0_rankOf_1 (wpX0_rankOf k) k t li lj Q
  | _ + 1, _, _, _, _, _ => False
def wqX0_rankOf (k : Nat) (t : XT) (a1 : Int64) (a2 : Int32) (a3 : Int32) (Q : Int32 → XT → Prop) : Prop := wpX0_rankOf k 0 t (uI (uI (fun _ => 0) 3 a2) 4 a3) (uI (fun _ => 0) 1 a1) Q
set_option maxHeartbeats 8000000 in
set_option maxRecDepth 100000 in
theorem wkX0_rankOf (l : Launch) (D : va_G) (cI cJ cB cZ : ClassId) (ad : Nat → Nat) (k : Nat) (t : XT) (a1 : Int64) (a2 : Int32) (a3 : Int32) (Q : Int32 → XT → Prop) (hR : wqX0_rankOf k t a1 a2 a3 Q) : MetI l yX0_rankOf wsX0_rankOf 5 123 0 0 D (TYS cI cJ cB cZ) (wX cI cJ cB cZ ad t) [.ref (ad 8), .long a1, .int a2, .int a3] (fun r u => Q r u) (fun u : XT => (wX cI cJ cB cZ ad u)) := by
  refine x_startI (ty := .int) (cc := cX0_rankOf) (by decide) rfl (Nat.le_of_ble_eq_true rfl) ?_
  intro p e s m args below meth c A ls B hr hnm h hl
  have hx := B.1.1
  have hb := B.1.2.1
  have hml := B.1.2.2.1
  have hts := B.1.2.2.2.2
  have hown : s.vm.findClass RX0 = some m.cls := B.1.2.2.2.1
  have hin0 : ∀ w ∈ u_ws RX0 TX0 4, w ∈ wsX0_rankOf := by decide +kernel
  have hin9 : ∀ w ∈ u_ws RX9 TX9 7, w ∈ wsX0_rankOf := by decide +kernel
  have main : ∀ k : Nat, (∀ (t : XT) (li : Nat → Int32) (lj : Nat → Int64) (H : Heap) (locs : List Loc) (ls : Array Slot), wpX0_rankOf k 0 t li lj Q → lv_has ls 5 [(0, .ref (ad 8)), (1, .long (lj 1)), (3, .int (li 3)), (4, .int (li 4))] → Hp D A s.heap (wX cI cJ cB cZ ad t) H locs → W p l e { frames := 5, cells := 0, slots := 0, locals := 123 } s m args below meth c H locs 0 0 (MQ below (va_Qi (fun r u => Q r u) (fun u t => xEnd D ((fun u : XT => (wX cI cJ cB cZ ad u)) u) A t) A) args s 0 0 A) (F0 m 0 ls [])) ∧
      (∀ (t : XT) (li : Nat → Int32) (lj : Nat → Int64) (H : Heap) (locs : List Loc) (ls : Array Slot), wpX0_rankOf k 1 t li lj Q → lv_has ls 5 [(0, .ref (ad 8)), (1, .long (lj 1)), (3, .int (li 3)), (4, .int (li 4))] → Hp D A s.heap (wX cI cJ cB cZ ad t) H locs → W p l e { frames := 5, cells := 0, slots := 0, locals := 123 } s m args below meth c H locs 0 0 (MQ below (va_Qi (fun r u => Q r u) (fun u t => xEnd D ((fun u : XT => (wX cI cJ cB cZ ad u)) u) A t) A) args s 0 0 A) (F0 m 10 ls [])) := by
    intro k
    induction k with
    | zero => exact ⟨fun _ _ _ _ _ _ hR => False.elim hR, fun _ _ _ _ _ _ hR => False.elim hR⟩
    | succ k ih =>
      refine ⟨?_, ?_⟩
      · intro t li lj H locs ls hR hl h
        have hR : wbX0_rankOf_0 (wpX0_rankOf k) k t li lj Q := hR
        unfold wbX0_rankOf_0 at hR
        refine lv_iload_n hx hb dX0_rankOf_0 rfl (lv_at hl 2 rfl) ?_
        refine lv_iconst (v := 1) hx hb dX0_rankOf_1 (by decide) ?_
        refine lv_icmp_lt (tgt := 10) hx hb dX0_rankOf_2 (by decide) (fun c_1 => ?_) (fun c_1 => ?_)
        · have hR := hR.1 c_1
          exact ih.2 t li lj H locs ls hR (lv_sub hl [0, 1, 2, 3] rfl) h
        · have hR := hR.2 c_1
          refine lv_iload_n hx hb dX0_rankOf_5 rfl (lv_at hl 2 rfl) ?_
          refine lv_iconst (v := 5) hx hb dX0_rankOf_6 (by decide) ?_
          refine lv_icmp_lt (tgt := 12) hx hb dX0_rankOf_7 (by decide) (fun c_2 => ?_) (fun c_2 => ?_)
          · have hR := hR.1 c_2
            refine lv_aload_n hx hb dX0_rankOf_12 rfl (lv_at hl 0 rfl) ?_
            refine lv_lload_n hx hb dX0_rankOf_13 rfl (lv_at hl 1 rfl) ?_
            refine lv_aload_n hx hb dX0_rankOf_14 rfl (lv_at hl 0 rfl) ?_
            refine x_get (ci := 0) (C := RX0) (T := TX0) (N := 4) (v := .ref (ad 3)) B h hin0 8 0 rfl rfl (by decide) (by decide +kernel) rfl dX0_rankOf_15 ?_
            refine x_get (ci := 9) (C := RX9) (T := TX9) (N := 7) (v := .ref (ad 19)) B h hin9 3 6 rfl rfl (by decide) (by decide +kernel) rfl dX0_rankOf_18 ?_
            refine lv_iload_n hx hb dX0_rankOf_21 rfl (lv_at hl 2 rfl) ?_
            obtain ⟨hb_3, hR⟩ := hR
            refine va_lald (f := (t.2.2.2 2)) hx hb B.2.1 h.1 19 1 rfl rfl hb_3 dX0_rankOf_22 ?_
            refine lv_topl (fun v_3 ev_3 => ?_)
            have hR := hR v_3 ev_3
            refine lv_land hx hb dX0_rankOf_23 ?_
            refine lv_topl (fun v_4 ev_4 => ?_)
            have hR := hR v_4 ev_4
            refine lv_lload_n hx hb dX0_rankOf_24 rfl (lv_at hl 1 rfl) ?_
            refine lv_aload_n hx hb dX0_rankOf_25 rfl (lv_at hl 0 rfl) ?_
            refine x_get (ci := 0) (C := RX0) (T := TX0) (N := 4) (v := .ref (ad 3)) B h hin0 8 0 rfl rfl (by decide) (by decide +kernel) rfl dX0_rankOf_26 ?_
            refine x_get (ci := 9) (C := RX9) (T := TX9) (N := 7) (v := .ref (ad 19)) B h hin9 3 6 rfl rfl (by decide) (by decide +kernel) rfl dX0_rankOf_29 ?_
            refine lv_iload_n hx hb dX0_rankOf_32 rfl (lv_at hl 2 rfl) ?_
            refine lv_iconst (v := 1) hx hb dX0_rankOf_33 (by decide) ?_
            refine lv_isub hx hb dX0_rankOf_34 ?_
            refine lv_topi (fun v_5 ev_5 => ?_)
            have hR := hR v_5 ev_5
            obtain ⟨hb_6, hR⟩ := hR
            refine va_lald (f := (t.2.2.2 2)) hx hb B.2.1 h.1 19 1 rfl rfl hb_6 dX0_rankOf_35 ?_
            refine lv_topl (fun v_6 ev_6 => ?_)
            have hR := hR v_6 ev_6
            refine lv_land hx hb dX0_rankOf_36 ?_
            refine lv_topl (fun v_7 ev_7 => ?_)
            have hR := hR v_7 ev_7
            refine lv_iload hx hb dX0_rankOf_37 (lv_at hl 3 rfl) ?_
            refine x_cVVF (n := 3) (As := [.long v_4, .long v_7, .int (li 4)]) (rest := []) B h (wkX0_fill l D cI cJ cB cZ ad k t v_4 v_7 (li 4) _ hR) ⟨⟨_, rfl⟩, by decide +kernel, Nat.le_of_ble_eq_true rfl, Nat.le_of_ble_eq_true rfl⟩ gX0_rankOf_X0_fill (show ((wX cI cJ cB cZ ad t) : va_W)[8]? = some (_, .inr (0, _)) from rfl) rfl rfl hl.1 rfl (Nat.le_of_ble_eq_true rfl) dX0_rankOf_39 ⟨Nat.le_of_ble_eq_true rfl, Nat.le_of_ble_eq_true rfl⟩ (fun t_8 H locs hR h => ?_)
            refine lv_aload_n hx hb dX0_rankOf_42 rfl (lv_at hl 0 rfl) ?_
            refine x_get (ci := 0) (C := RX0) (T := TX0) (N := 4) (v := .ref (ad 11)) B h hin0 8 2 rfl rfl (by decide) (by decide +kernel) rfl dX0_rankOf_43 ?_
            refine x_cVIF (n := 0) (As := []) (rest := []) B h (wkX5_eliminate l D cI cJ cB cZ ad k t_8  _ hR) ⟨⟨_, rfl⟩, by decide +kernel, Nat.le_of_ble_eq_true rfl, Nat.le_of_ble_eq_true rfl⟩ gX0_rankOf_X5_eliminate (show ((wX cI cJ cB cZ ad t_8) : va_W)[11]? = some (_, .inr (5, _)) from rfl) rfl rfl hl.1 rfl (Nat.le_of_ble_eq_true rfl) dX0_rankOf_46 ⟨Nat.le_of_ble_eq_true rfl, Nat.le_of_ble_eq_true rfl⟩ (fun r_9 t_9 H locs hR h => ?_)
            exact x_iret (w1 := (fun u : XT => (wX cI cJ cB cZ ad u))) t_9 B h hr rfl hR dX0_rankOf_49
          · have hR := hR.2 c_2
            exact ih.2 t li lj H locs ls hR (lv_sub hl [0, 1, 2, 3] rfl) h
      · intro t li lj H locs ls hR hl h
        have hR : wbX0_rankOf_1 (wpX0_rankOf k) k t li lj Q := hR
        unfold wbX0_rankOf_1 at hR
        refine lv_iconst (v := 0) hx hb dX0_rankOf_10 (by decide) ?_
        exact x_iret (w1 := (fun u : XT => (wX cI cJ cB cZ ad u))) t B h hr rfl hR dX0_rankOf_11
  exact (main k).1 t _ _ s.heap [] ls hR hl h
set_option maxRecDepth 20000 in
theorem ggX0_bettiOf_J13_bitCount_95d88 : GoodIn wsX0_bettiOf wsJ13_bitCount_95d88 := goodIn_r _ [6, 7, 8, 9] (by decide +kernel) (by decide +kernel)
set_option maxRecDepth 20000 in
theorem gX0_bettiOf_J13_bitCount_95d88 : GoodIn wsX0_bettiOf (va_wsS RX0 35 yJ13_bitCount_95d88 wsJ13_bitCount_95d88) := goodIn_app (goodIn_of _ (by decide +kernel)) ggX0_bettiOf_J13_bitCount_95d88
set_option maxRecDepth 20000 in
theorem ggX0_bettiOf_X0_rankOf : GoodIn wsX0_bettiOf wsX0_rankOf := goodIn_r _ [14, 1, 2, 15, 16, 17, 18, 13, 19, 20, 21, 22, 3, 4, 5, 6, 7, 8, 9, 23, 24, 25, 26, 27, 28, 29, 30, 31, 32, 33, 34, 35, 36, 37, 38, 39, 40, 41, 42, 43, 44, 45, 46, 47, 48, 49, 50, 51, 52, 53, 54, 55, 56, 57, 58, 59, 60, 61, 62, 63, 64, 65, 66, 67, 68, 69, 70, 71, 72, 73, 74, 75, 76, 77, 78, 79, 80, 81, 82, 83, 84, 85, 86, 87, 88, 89, 90, 91, 92, 93, 94, 95, 96, 97, 98, 99, 100, 101, 102, 103, 104, 105, 106, 107, 108, 109, 110, 111, 112, 113, 114, 115, 116, 117, 118, 119, 120, 121, 122, 123, 124, 125, 126, 127, 128, 129, 130, 131, 132, 133, 134, 135, 136, 137, 138, 139, 140, 141, 142, 143, 144, 145, 146, 147, 148, 149, 150, 151, 152, 153, 154, 155, 156, 157, 158, 159, 160, 161, 162, 163, 164, 165, 166, 167, 168, 169, 170, 171, 172, 173, 174, 175, 176, 177, 178, 179, 180, 181, 182, 183, 184, 185, 186, 187, 188] (by decide +kernel) (by decide +kernel)
set_option maxRecDepth 20000 in
theorem gX0_bettiOf_X0_rankOf : GoodIn wsX0_bettiOf (wsV RX0 41 RX0 yX0_rankOf wsX0_rankOf) := goodIn_app (goodIn_of _ (by decide +kernel)) ggX0_bettiOf_X0_rankOf
def wbX0_bettiOf_0 (rec : Nat → XT → (Nat → Int32) → (Nat → Int64) → (Int32 → XT → Prop) → Prop) (k : Nat) (t : XT) (li : Nat → Int32) (lj : Nat → Int64) (Q : Int32 → XT → Prop) : Prop :=
  (vp_in (li 3) 5 ∧ (∀ v_1 : Int64, v_1 = (t.2.2.2 2) (li 3).toNatClampNeg → (∀ v_2 : Int64, v_2 = ((lj 1) &&& v_1) → (wqJ13_bitCount_95d88 k v_2 (fun r_3 => (wqX0_rankOf k t (lj 1) (li 3) (li 4) (fun r_4 t_4 => (∀ v_5 : Int32, v_5 = (r_3 - r_4) → (∀ v_6 : Int32, v_6 = ((li 3) + 1) → (wqX0_rankOf k t_4 (lj 1) v_6 (li 4) (fun r_7 t_7 => (∀ v_8 : Int32, v_8 = (v_5 - r_7) → Q v_8 t_7))))))))))))
def wpX0_bettiOf : Nat → Nat → XT → (Nat → Int32) → (Nat → Int64) → (Int32 → XT → Prop) → Prop
  | 0, _, _, _, _, _ => False
  | k + 1, 0, t, li, lj, Q => wbX0_bettiOf_0 (wpX0_bettiOf k) k t li lj Q
  | _ + 1, _, _, _, _, _ => False
def wqX0_bettiOf (k : Nat) (t : XT) (a1 : Int64) (a2 : Int32) (a3 : Int32) (Q : Int32 → XT → Prop) : Prop := wpX0_bettiOf k 0 t (uI (uI (fun _ => 0) 3 a2) 4 a3) (uI (fun _ => 0) 1 a1) Q
set_option maxHeartbeats 8000000 in
set_option maxRecDepth 100000 in
theorem wkX0_bettiOf (l : Launch) (D : va_G) (cI cJ cB cZ : ClassId) (ad : Nat → Nat) (k : Nat) (t : XT) (a1 : Int64) (a2 : Int32) (a3 : Int32) (Q : Int32 → XT → Prop) (hR : wqX0_bettiOf k t a1 a2 a3 Q) : MetI l yX0_bettiOf wsX0_bettiOf 6 147 0 0 D (TYS cI cJ cB cZ) (wX cI cJ cB cZ ad t) [.ref (ad 8), .long a1, .int a2, .int a3] (fun r u => Q r u) (fun u : XT => (wX cI cJ cB cZ ad u)) := by
  refine x_startI (ty := .int) (cc := cX0_bettiOf) (by decide) rfl (Nat.le_of_ble_eq_true rfl) ?_
  intro p e s m args below meth c A ls B hr hnm h hl
  have hx := B.1.1
  have hb := B.1.2.1
  have hml := B.1.2.2.1
  have hts := B.1.2.2.2.2
  have hown : s.vm.findClass RX0 = some m.cls := B.1.2.2.2.1
  have hin0 : ∀ w ∈ u_ws RX0 TX0 4, w ∈ wsX0_bettiOf := by decide +kernel
  have hin9 : ∀ w ∈ u_ws RX9 TX9 7, w ∈ wsX0_bettiOf := by decide +kernel
  have main : ∀ k : Nat, (∀ (t : XT) (li : Nat → Int32) (lj : Nat → Int64) (H : Heap) (locs : List Loc) (ls : Array Slot), wpX0_bettiOf k 0 t li lj Q → lv_has ls 6 [(0, .ref (ad 8)), (1, .long (lj 1)), (3, .int (li 3)), (4, .int (li 4))] → Hp D A s.heap (wX cI cJ cB cZ ad t) H locs → W p l e { frames := 6, cells := 0, slots := 0, locals := 147 } s m args below meth c H locs 0 0 (MQ below (va_Qi (fun r u => Q r u) (fun u t => xEnd D ((fun u : XT => (wX cI cJ cB cZ ad u)) u) A t) A) args s 0 0 A) (F0 m 0 ls [])) := by
    intro k
    induction k with
    | zero => exact fun _ _ _ _ _ _ hR => False.elim hR
    | succ k ih =>
      intro t li lj H locs ls hR hl h
      have hR : wbX0_bettiOf_0 (wpX0_bettiOf k) k t li lj Q := hR
      unfold wbX0_bettiOf_0 at hR
      refine lv_lload_n hx hb dX0_bettiOf_0 rfl (lv_at hl 1 rfl) ?_
      refine lv_aload_n hx hb dX0_bettiOf_1 rfl (lv_at hl 0 rfl) ?_
      refine x_get (ci := 0) (C := RX0) (T := TX0) (N := 4) (v := .ref (ad 3)) B h hin0 8 0 rfl rfl (by decide) (by decide +kernel) rfl dX0_bettiOf_2 ?_
      refine x_get (ci := 9) (C := RX9) (T := TX9) (N := 7) (v := .ref (ad 19)) B h hin9 3 6 rfl rfl (by decide) (by decide +kernel) rfl dX0_bettiOf_5 ?_
      refine lv_iload_n hx hb dX0_bettiOf_8 rfl (lv_at hl 2 rfl) ?_
      obtain ⟨hb_1, hR⟩ := hR
      refine va_lald (f := (t.2.2.2 2)) hx hb B.2.1 h.1 19 1 rfl rfl hb_1 dX0_bettiOf_9 ?_
      refine lv_topl (fun v_1 ev_1 => ?_)
      have hR := hR v_1 ev_1
      refine lv_land hx hb dX0_bettiOf_10 ?_
      refine lv_topl (fun v_2 ev_2 => ?_)
      have hR := hR v_2 ev_2
      refine x_cSIE (n := 1) (As := [.long v_2]) (rest := []) B h (wkJ13_bitCount_95d88 l D cI cJ cB cZ ad k v_2 _ hR) ⟨⟨_, rfl⟩, by decide +kernel, Nat.le_of_ble_eq_true rfl, Nat.le_of_ble_eq_true rfl⟩ gX0_bettiOf_J13_bitCount_95d88 rfl hl.1 rfl (Nat.le_of_ble_eq_true rfl) dX0_bettiOf_11 ⟨Nat.le_of_ble_eq_true rfl, Nat.le_of_ble_eq_true rfl⟩ (fun r_3 _ H locs hR h => ?_)
      refine lv_istore (lv' := [(5, .int r_3), (0, .ref (ad 8)), (1, .long (lj 1)), (3, .int (li 3)), (4, .int (li 4))]) hx hb dX0_bettiOf_14 hl (by decide) rfl (fun ls hl => ?_)
      refine lv_iload hx hb dX0_bettiOf_16 (lv_at hl 0 rfl) ?_
      refine lv_aload_n hx hb dX0_bettiOf_18 rfl (lv_at hl 1 rfl) ?_
      refine lv_lload_n hx hb dX0_bettiOf_19 rfl (lv_at hl 2 rfl) ?_
      refine lv_iload_n hx hb dX0_bettiOf_20 rfl (lv_at hl 3 rfl) ?_
      refine lv_iload hx hb dX0_bettiOf_21 (lv_at hl 4 rfl) ?_
      refine x_cVIF (n := 3) (As := [.long (lj 1), .int (li 3), .int (li 4)]) (rest := [.int r_3]) B h (wkX0_rankOf l D cI cJ cB cZ ad k t (lj 1) (li 3) (li 4) _ hR) ⟨⟨_, rfl⟩, by decide +kernel, Nat.le_of_ble_eq_true rfl, Nat.le_of_ble_eq_true rfl⟩ gX0_bettiOf_X0_rankOf (show ((wX cI cJ cB cZ ad t) : va_W)[8]? = some (_, .inr (0, _)) from rfl) rfl rfl hl.1 rfl (Nat.le_of_ble_eq_true rfl) dX0_bettiOf_23 ⟨Nat.le_of_ble_eq_true rfl, Nat.le_of_ble_eq_true rfl⟩ (fun r_4 t_4 H locs hR h => ?_)
      refine lv_isub hx hb dX0_bettiOf_26 ?_
      refine lv_topi (fun v_5 ev_5 => ?_)
      have hR := hR v_5 ev_5
      refine lv_aload_n hx hb dX0_bettiOf_27 rfl (lv_at hl 1 rfl) ?_
      refine lv_lload_n hx hb dX0_bettiOf_28 rfl (lv_at hl 2 rfl) ?_
      refine lv_iload_n hx hb dX0_bettiOf_29 rfl (lv_at hl 3 rfl) ?_
      refine lv_iconst (v := 1) hx hb dX0_bettiOf_30 (by decide) ?_
      refine lv_iadd hx hb dX0_bettiOf_31 ?_
      refine lv_topi (fun v_6 ev_6 => ?_)
      have hR := hR v_6 ev_6
      refine lv_iload hx hb dX0_bettiOf_32 (lv_at hl 4 rfl) ?_
      refine x_cVIF (n := 3) (As := [.long (lj 1), .int v_6, .int (li 4)]) (rest := [.int v_5]) B h (wkX0_rankOf l D cI cJ cB cZ ad k t_4 (lj 1) v_6 (li 4) _ hR) ⟨⟨_, rfl⟩, by decide +kernel, Nat.le_of_ble_eq_true rfl, Nat.le_of_ble_eq_true rfl⟩ gX0_bettiOf_X0_rankOf (show ((wX cI cJ cB cZ ad t_4) : va_W)[8]? = some (_, .inr (0, _)) from rfl) rfl rfl hl.1 rfl (Nat.le_of_ble_eq_true rfl) dX0_bettiOf_34 ⟨Nat.le_of_ble_eq_true rfl, Nat.le_of_ble_eq_true rfl⟩ (fun r_7 t_7 H locs hR h => ?_)
      refine lv_isub hx hb dX0_bettiOf_37 ?_
      refine lv_topi (fun v_8 ev_8 => ?_)
      have hR := hR v_8 ev_8
      exact x_iret (w1 := (fun u : XT => (wX cI cJ cB cZ ad u))) t_7 B h hr rfl hR dX0_bettiOf_38
  exact (main k) t _ _ s.heap [] ls hR hl h
set_option maxRecDepth 20000 in
theorem ggX11_betti_X11_isDim : GoodIn wsX11_betti wsX11_isDim := goodIn_r _ [5] (by decide +kernel) (by decide +kernel)
set_option maxRecDepth 20000 in
theorem gX11_betti_X11_isDim : GoodIn wsX11_betti (va_wsS RX11 229 yX11_isDim wsX11_isDim) := goodIn_app (goodIn_of _ (by decide +kernel)) ggX11_betti_X11_isDim
set_option maxRecDepth 20000 in
theorem ggX11_betti_X11_basis : GoodIn wsX11_betti wsX11_basis := goodIn_r _ [9, 10, 11, 12, 13, 14, 15, 16, 17, 18, 19, 20, 174, 175, 176, 177, 178, 179, 180, 181, 182, 183, 184, 185, 186, 187, 188, 189, 190] (by decide +kernel) (by decide +kernel)
set_option maxRecDepth 20000 in
theorem gX11_betti_X11_basis : GoodIn wsX11_betti (wsV RX11 266 RX11 yX11_basis wsX11_basis) := goodIn_app (goodIn_of _ (by decide +kernel)) ggX11_betti_X11_basis
set_option maxRecDepth 20000 in
theorem ggX11_betti_X0_bettiOf : GoodIn wsX11_betti wsX0_bettiOf := goodIn_r _ [25, 26, 27, 28, 29, 30, 31, 32, 33, 34, 35, 36, 37, 24, 38, 39, 40, 41, 42, 43, 44, 45, 46, 47, 48, 49, 50, 51, 52, 53, 54, 4, 55, 56, 57, 58, 59, 60, 61, 62, 63, 64, 65, 66, 67, 68, 69, 70, 71, 72, 73, 74, 75, 76, 77, 78, 79, 80, 81, 82, 83, 84, 85, 86, 87, 88, 15, 89, 90, 91, 92, 93, 94, 95, 96, 97, 98, 99, 100, 101, 102, 103, 104, 105, 106, 107, 108, 109, 110, 111, 112, 113, 114, 20, 115, 116, 117, 118, 119, 120, 121, 122, 123, 124, 125, 126, 127, 128, 129, 130, 131, 132, 133, 134, 135, 136, 137, 138, 139, 140, 141, 142, 143, 144, 145, 146, 147, 148, 149, 150, 151, 152, 153, 154, 155, 156, 157, 158, 159, 160, 161, 162, 163, 164, 165, 166, 167, 168, 169, 170, 171, 172, 173, 191, 192, 193, 194, 195, 196, 197, 198, 199, 200, 201, 202, 203, 204, 205, 206, 207, 208, 209, 210, 211, 212, 213, 214, 215, 216, 217, 218, 219, 220, 185, 186, 187, 188, 189, 190] (by decide +kernel) (by decide +kernel)
set_option maxRecDepth 20000 in
theorem gX11_betti_X0_bettiOf : GoodIn wsX11_betti (wsV RX11 269 RX0 yX0_bettiOf wsX0_bettiOf) := goodIn_app (goodIn_of _ (by decide +kernel)) ggX11_betti_X0_bettiOf
def wbX11_betti_0 (rec : Nat → XT → (Nat → Int32) → (Nat → Int64) → (Int32 → XT → Prop) → Prop) (k : Nat) (t : XT) (li : Nat → Int32) (lj : Nat → Int64) (Q : Int32 → XT → Prop) : Prop :=
  (wqX11_isDim k (li 1) (fun r_1 => ((r_1 = 0) → rec 1 t li lj Q) ∧ (¬ (r_1 = 0) → (((li 2) < 0) → rec 1 t li lj Q) ∧ (¬ ((li 2) < 0) → (((li 2) ≤ 1) → (wqX11_basis k t (li 2) (fun r_5 t_5 => ((¬ (li 2) = 1) → rec 2 t_5 (uI (uI li 103 0) 102 (li 1)) (uI lj 101 r_5) Q) ∧ (((li 2) = 1) → rec 2 t_5 (uI (uI li 103 1) 102 (li 1)) (uI lj 101 r_5) Q)))) ∧ (¬ ((li 2) ≤ 1) → rec 1 t li lj Q)))))
def wbX11_betti_1 (rec : Nat → XT → (Nat → Int32) → (Nat → Int64) → (Int32 → XT → Prop) → Prop) (k : Nat) (t : XT) (li : Nat → Int32) (lj : Nat → Int64) (Q : Int32 → XT → Prop) : Prop :=
  Q (-1) t
def wbX11_betti_2 (rec : Nat → XT → (Nat → Int32) → (Nat → Int64) → (Int32 → XT → Prop) → Prop) (k : Nat) (t : XT) (li : Nat → Int32) (lj : Nat → Int64) (Q : Int32 → XT → Prop) : Prop :=
  (wqX0_bettiOf k t (lj 101) (li 102) (li 103) (fun r_7 t_7 => Q r_7 t_7))
def wpX11_betti : Nat → Nat → XT → (Nat → Int32) → (Nat → Int64) → (Int32 → XT → Prop) → Prop
  | 0, _, _, _, _, _ => False
  | k + 1, 0, t, li, lj, Q => wbX11_betti_0 (wpX11_betti k) k t li lj Q
  | k + 1, 1, t, li, lj, Q => wbX11_betti_1 (wpX11_betti k) k t li lj Q
  | k + 1, 2, t, li, lj, Q => wbX11_betti_2 (wpX11_betti k) k t li lj Q
  | _ + 1, _, _, _, _, _ => False
def wqX11_betti (k : Nat) (t : XT) (a1 : Int32) (a2 : Int32) (Q : Int32 → XT → Prop) : Prop := wpX11_betti k 0 t (uI (uI (fun _ => 0) 1 a1) 2 a2) (fun _ => 0) Q
set_option maxHeartbeats 8000000 in
set_option maxRecDepth 100000 in
theorem wkX11_betti (l : Launch) (D : va_G) (cI cJ cB cZ : ClassId) (ad : Nat → Nat) (k : Nat) (t : XT) (a1 : Int32) (a2 : Int32) (Q : Int32 → XT → Prop) (hR : wqX11_betti k t a1 a2 Q) : MetI l yX11_betti wsX11_betti 7 172 0 0 D (TYS cI cJ cB cZ) (wX cI cJ cB cZ ad t) [.ref (ad 0), .int a1, .int a2] (fun r u => Q r u) (fun u : XT => (wX cI cJ cB cZ ad u)) := by
  refine x_startI (ty := .int) (cc := cX11_betti) (by decide) rfl (Nat.le_of_ble_eq_true rfl) ?_
  intro p e s m args below meth c A ls B hr hnm h hl
  have hx := B.1.1
  have hb := B.1.2.1
  have hml := B.1.2.2.1
  have hts := B.1.2.2.2.2
  have hown : s.vm.findClass RX11 = some m.cls := B.1.2.2.2.1
  have hin11 : ∀ w ∈ u_ws RX11 TX11 11, w ∈ wsX11_betti := by decide +kernel
  have main : ∀ k : Nat, (∀ (t : XT) (li : Nat → Int32) (lj : Nat → Int64) (H : Heap) (locs : List Loc) (ls : Array Slot), wpX11_betti k 0 t li lj Q → lv_has ls 3 [(0, .ref (ad 0)), (1, .int (li 1)), (2, .int (li 2))] → Hp D A s.heap (wX cI cJ cB cZ ad t) H locs → W p l e { frames := 7, cells := 0, slots := 0, locals := 172 } s m args below meth c H locs 0 0 (MQ below (va_Qi (fun r u => Q r u) (fun u t => xEnd D ((fun u : XT => (wX cI cJ cB cZ ad u)) u) A t) A) args s 0 0 A) (F0 m 0 ls [])) ∧
      (∀ (t : XT) (li : Nat → Int32) (lj : Nat → Int64) (H : Heap) (locs : List Loc) (ls : Array Slot), wpX11_betti k 1 t li lj Q → lv_has ls 3 [(0, .ref (ad 0)), (1, .int (li 1)), (2, .int (li 2))] → Hp D A s.heap (wX cI cJ cB cZ ad t) H locs → W p l e { frames := 7, cells := 0, slots := 0, locals := 172 } s m args below meth c H locs 0 0 (MQ below (va_Qi (fun r u => Q r u) (fun u t => xEnd D ((fun u : XT => (wX cI cJ cB cZ ad u)) u) A t) A) args s 0 0 A) (F0 m 16 ls [])) ∧
      (∀ (t : XT) (li : Nat → Int32) (lj : Nat → Int64) (H : Heap) (locs : List Loc) (ls : Array Slot), wpX11_betti k 2 t li lj Q → lv_has ls 3 [(0, .ref (ad 0)), (1, .int (li 1)), (2, .int (li 2))] → Hp D A s.heap (wX cI cJ cB cZ ad t) H locs → W p l e { frames := 7, cells := 0, slots := 0, locals := 172 } s m args below meth c H locs 0 0 (MQ below (va_Qi (fun r u => Q r u) (fun u t => xEnd D ((fun u : XT => (wX cI cJ cB cZ ad u)) u) A t) A) args s 0 0 A) (F0 m 38 ls [.int (li 103), .int (li 102), .long (lj 101), .ref (ad 8)])) := by
    intro k
    induction k with
    | zero => exact ⟨fun _ _ _ _ _ _ hR => False.elim hR, fun _ _ _ _ _ _ hR => False.elim hR, fun _ _ _ _ _ _ hR => False.elim hR⟩
    | succ k ih =>
      refine ⟨?_, ?_, ?_⟩
      · intro t li lj H locs ls hR hl h
        have hR : wbX11_betti_0 (wpX11_betti k) k t li lj Q := hR
        unfold wbX11_betti_0 at hR
        refine lv_iload_n hx hb dX11_betti_0 rfl (lv_at hl 1 rfl) ?_
        refine x_cSIE (n := 1) (As := [.int (li 1)]) (rest := []) B h (wkX11_isDim l D cI cJ cB cZ ad k (li 1) _ hR) ⟨⟨_, rfl⟩, by decide +kernel, Nat.le_of_ble_eq_true rfl, Nat.le_of_ble_eq_true rfl⟩ gX11_betti_X11_isDim rfl hl.1 rfl (Nat.le_of_ble_eq_true rfl) dX11_betti_1 ⟨Nat.le_of_ble_eq_true rfl, Nat.le_of_ble_eq_true rfl⟩ (fun r_1 _ H locs hR h => ?_)
        refine lv_if_eq (tgt := 16) hx hb dX11_betti_4 (by decide) (fun c_2 => ?_) (fun c_2 => ?_)
        · have hR := hR.1 c_2
          exact ih.2.1 t li lj H locs ls hR (lv_sub hl [0, 1, 2] rfl) h
        · have hR := hR.2 c_2
          refine lv_iload_n hx hb dX11_betti_7 rfl (lv_at hl 2 rfl) ?_
          refine lv_if_lt (tgt := 16) hx hb dX11_betti_8 (by decide) (fun c_3 => ?_) (fun c_3 => ?_)
          · have hR := hR.1 c_3
            exact ih.2.1 t li lj H locs ls hR (lv_sub hl [0, 1, 2] rfl) h
          · have hR := hR.2 c_3
            refine lv_iload_n hx hb dX11_betti_11 rfl (lv_at hl 2 rfl) ?_
            refine lv_iconst (v := 1) hx hb dX11_betti_12 (by decide) ?_
            refine lv_icmp_le (tgt := 18) hx hb dX11_betti_13 (by decide) (fun c_4 => ?_) (fun c_4 => ?_)
            · have hR := hR.1 c_4
              refine lv_aload_n hx hb dX11_betti_18 rfl (lv_at hl 0 rfl) ?_
              refine x_get (ci := 11) (C := RX11) (T := TX11) (N := 11) (v := .ref (ad 8)) B h hin11 0 7 rfl rfl (by decide) (by decide +kernel) rfl dX11_betti_19 ?_
              refine lv_aload_n hx hb dX11_betti_22 rfl (lv_at hl 0 rfl) ?_
              refine lv_iload_n hx hb dX11_betti_23 rfl (lv_at hl 2 rfl) ?_
              refine x_cVLF (n := 1) (As := [.int (li 2)]) (rest := [.ref (ad 8)]) B h (wkX11_basis l D cI cJ cB cZ ad k t (li 2) _ hR) ⟨⟨_, rfl⟩, by decide +kernel, Nat.le_of_ble_eq_true rfl, Nat.le_of_ble_eq_true rfl⟩ gX11_betti_X11_basis (show ((wX cI cJ cB cZ ad t) : va_W)[0]? = some (_, .inr (11, _)) from rfl) rfl rfl hl.1 rfl (Nat.le_of_ble_eq_true rfl) dX11_betti_24 ⟨Nat.le_of_ble_eq_true rfl, Nat.le_of_ble_eq_true rfl⟩ (fun r_5 t_5 H locs hR h => ?_)
              refine lv_iload_n hx hb dX11_betti_27 rfl (lv_at hl 1 rfl) ?_
              refine lv_iload_n hx hb dX11_betti_28 rfl (lv_at hl 2 rfl) ?_
              refine lv_iconst (v := 1) hx hb dX11_betti_29 (by decide) ?_
              refine lv_icmp_ne (tgt := 37) hx hb dX11_betti_30 (by decide) (fun c_6 => ?_) (fun c_6 => ?_)
              · have hR := hR.1 c_6
                refine lv_iconst (v := 0) hx hb dX11_betti_37 (by decide) ?_
                exact ih.2.2 t_5 (uI (uI li 103 0) 102 (li 1)) (uI lj 101 r_5) H locs ls hR (lv_sub hl [0, 1, 2] rfl) h
              · have hR := hR.2 c_6
                refine lv_iconst (v := 1) hx hb dX11_betti_33 (by decide) ?_
                refine lv_goto (tgt := 38) hx hb dX11_betti_34 (by decide) ?_
                exact ih.2.2 t_5 (uI (uI li 103 1) 102 (li 1)) (uI lj 101 r_5) H locs ls hR (lv_sub hl [0, 1, 2] rfl) h
            · have hR := hR.2 c_4
              exact ih.2.1 t li lj H locs ls hR (lv_sub hl [0, 1, 2] rfl) h
      · intro t li lj H locs ls hR hl h
        have hR : wbX11_betti_1 (wpX11_betti k) k t li lj Q := hR
        unfold wbX11_betti_1 at hR
        refine lv_iconst (v := (-1)) hx hb dX11_betti_16 (by decide) ?_
        exact x_iret (w1 := (fun u : XT => (wX cI cJ cB cZ ad u))) t B h hr rfl hR dX11_betti_17
      · intro t li lj H locs ls hR hl h
        have hR : wbX11_betti_2 (wpX11_betti k) k t li lj Q := hR
        unfold wbX11_betti_2 at hR
        refine x_cVIF (n := 3) (As := [.long (lj 101), .int (li 102), .int (li 103)]) (rest := []) B h (wkX0_bettiOf l D cI cJ cB cZ ad k t (lj 101) (li 102) (li 103) _ hR) ⟨⟨_, rfl⟩, by decide +kernel, Nat.le_of_ble_eq_true rfl, Nat.le_of_ble_eq_true rfl⟩ gX11_betti_X0_bettiOf (show ((wX cI cJ cB cZ ad t) : va_W)[8]? = some (_, .inr (0, _)) from rfl) rfl rfl hl.1 rfl (Nat.le_of_ble_eq_true rfl) dX11_betti_38 ⟨Nat.le_of_ble_eq_true rfl, Nat.le_of_ble_eq_true rfl⟩ (fun r_7 t_7 H locs hR h => ?_)
        exact x_iret (w1 := (fun u : XT => (wX cI cJ cB cZ ad u))) t_7 B h hr rfl hR dX11_betti_41
  exact (main k).1 t _ _ s.heap [] ls hR hl h
