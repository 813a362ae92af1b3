set_option maxRecDepth 20000 in
theorem ggX5_reduceRows_X5_nearest : GoodIn wsX5_reduceRows wsX5_nearest := goodIn_r _ [7, 8, 9, 10, 11, 12, 13, 14, 15, 16] (by decide +kernel) (by decide +kernel)
set_option maxRecDepth 20000 in
theorem gX5_reduceRows_X5_nearest : GoodIn wsX5_reduceRows (va_wsS RX5 91 yX5_nearest wsX5_nearest) := goodIn_app (goodIn_of _ (by decide +kernel)) ggX5_reduceRows_X5_nearest
set_option maxRecDepth 20000 in
theorem ggX5_reduceRows_X5_remainder : GoodIn wsX5_reduceRows wsX5_remainder := goodIn_r _ [20, 21, 12, 22, 23, 15, 24, 25, 26, 27, 28, 29, 30] (by decide +kernel) (by decide +kernel)
set_option maxRecDepth 20000 in
theorem gX5_reduceRows_X5_remainder : GoodIn wsX5_reduceRows (wsV RX5 59 RX5 yX5_remainder wsX5_remainder) := goodIn_app (goodIn_of _ (by decide +kernel)) ggX5_reduceRows_X5_remainder
def wbX5_reduceRows_0 (rec : Nat → XT → (Nat → Int32) → (Nat → Int64) → (Int32 → XT → Prop) → Prop) (k : Nat) (t : XT) (li : Nat → Int32) (lj : Nat → Int64) (Q : Int32 → XT → Prop) : Prop :=
  (∀ v_1 : Int32, v_1 = ((li 1) + 1) → rec 1 t (uI (uI li 2 1) 3 v_1) lj Q)
def wbX5_reduceRows_1 (rec : Nat → XT → (Nat → Int32) → (Nat → Int64) → (Int32 → XT → Prop) → Prop) (k : Nat) (t : XT) (li : Nat → Int32) (lj : Nat → Int64) (Q : Int32 → XT → Prop) : Prop :=
  ((((t.1 10) : Int32) ≤ (li 3)) → (((li 2) = 0 ∨ (li 2) = 1) ∧ Q (li 2) t)) ∧ (¬ (((t.1 10) : Int32) ≤ (li 3)) → (∀ v_4 : Int32, v_4 = ((li 3) * (t.1 11)) → (∀ v_5 : Int32, v_5 = (v_4 + (li 1)) → (vp_in v_5 900 ∧ (∀ v_6 : Int64, v_6 = (t.2.2.2 7) v_5.toNatClampNeg → (∀ v_7 : Int32, v_7 = ((li 1) * (t.1 11)) → (∀ v_8 : Int32, v_8 = (v_7 + (li 1)) → (vp_in v_8 900 ∧ (∀ v_9 : Int64, v_9 = (t.2.2.2 7) v_8.toNatClampNeg → (wqX5_nearest k v_6 v_9 (fun r_10 => rec 2 t (uI li 6 (li 1)) (uI lj 4 r_10) Q)))))))))))
def wbX5_reduceRows_2 (rec : Nat → XT → (Nat → Int32) → (Nat → Int64) → (Int32 → XT → Prop) → Prop) (k : Nat) (t : XT) (li : Nat → Int32) (lj : Nat → Int64) (Q : Int32 → XT → Prop) : Prop :=
  ((((t.1 11) : Int32) ≤ (li 6)) → rec 3 t li lj Q) ∧ (¬ (((t.1 11) : Int32) ≤ (li 6)) → (∀ v_12 : Int32, v_12 = (lg_cmp (lj 4) 0) → ((v_12 = 0) → rec 3 t li lj Q) ∧ (¬ (v_12 = 0) → (∀ v_14 : Int32, v_14 = ((li 3) * (t.1 11)) → (∀ v_15 : Int32, v_15 = (v_14 + (li 6)) → (vp_in v_15 900 ∧ (∀ v_16 : Int64, v_16 = (t.2.2.2 7) v_15.toNatClampNeg → (∀ v_17 : Int32, v_17 = ((li 1) * (t.1 11)) → (∀ v_18 : Int32, v_18 = (v_17 + (li 6)) → (vp_in v_18 900 ∧ (∀ v_19 : Int64, v_19 = (t.2.2.2 7) v_18.toNatClampNeg → (∀ v_20 : Int64, v_20 = ((lj 4) * v_19) → (∀ v_21 : Int64, v_21 = (v_16 - v_20) → (wqX5_remainder k t v_21 (fun r_22 t_22 => (vp_in v_15 900 ∧ (∀ t_23 : XT, t_23 = sB t_22 7 (vp_updL (t_22.2.2.2 7) v_15.toNatClampNeg r_22) → (∀ v_24 : Int32, v_24 = (li 6) + Int32.ofInt 1 → rec 2 t_23 (uI li 6 v_24) lj Q))))))))))))))))))
def wbX5_reduceRows_3 (rec : Nat → XT → (Nat → Int32) → (Nat → Int64) → (Int32 → XT → Prop) → Prop) (k : Nat) (t : XT) (li : Nat → Int32) (lj : Nat → Int64) (Q : Int32 → XT → Prop) : Prop :=
  (((li 2) = 0) → rec 4 t li lj Q) ∧ (¬ ((li 2) = 0) → (∀ v_26 : Int32, v_26 = ((li 3) * (t.1 11)) → (∀ v_27 : Int32, v_27 = (v_26 + (li 1)) → (vp_in v_27 900 ∧ (∀ v_28 : Int64, v_28 = (t.2.2.2 7) v_27.toNatClampNeg → (∀ v_29 : Int32, v_29 = (lg_cmp v_28 0) → ((¬ v_29 = 0) → rec 4 t li lj Q) ∧ ((v_29 = 0) → rec 5 t (uI li 100 1) lj Q)))))))
def wbX5_reduceRows_4 (rec : Nat → XT → (Nat → Int32) → (Nat → Int64) → (Int32 → XT → Prop) → Prop) (k : Nat) (t : XT) (li : Nat → Int32) (lj : Nat → Int64) (Q : Int32 → XT → Prop) : Prop :=
  rec 5 t (uI li 100 0) lj Q
def wbX5_reduceRows_5 (rec : Nat → XT → (Nat → Int32) → (Nat → Int64) → (Int32 → XT → Prop) → Prop) (k : Nat) (t : XT) (li : Nat → Int32) (lj : Nat → Int64) (Q : Int32 → XT → Prop) : Prop :=
  (∀ v_31 : Int32, v_31 = (li 3) + Int32.ofInt 1 → rec 1 t (uI (uI li 2 (li 100)) 3 v_31) lj Q)
def wpX5_reduceRows : Nat → Nat → XT → (Nat → Int32) → (Nat → Int64) → (Int32 → XT → Prop) → Prop
  | 0, _, _, _, _, _ => False
  | k + 1, 0, t, li, lj, Q => wbX5_reduceRows_0 (wpX5_reduceRows k) k t li lj Q
  | k + 1, 1, t, li, lj, Q => wbX5_reduceRows_1 (wpX5_reduceRows k) k t li lj Q
  | k + 1, 2, t, li, lj, Q => wbX5_reduceRows_2 (wpX5_reduceRows k) k t li lj Q
  | k + 1, 3, t, li, lj, Q => wbX5_reduceRows_3 (wpX5_reduceRows k) k t li lj Q
  | k + 1, 4, t, li, lj, Q => wbX5_reduceRows_4 (wpX5_reduceRows k) k t li lj Q
  | k + 1, 5, t, li, lj, Q => wbX5_reduceRows_5 (wpX5_reduceRows k) k t li lj Q
  | _ + 1, _, _, _, _, _ => False
def wqX5_reduceRows (k : Nat) (t : XT) (a1 : Int32) (Q : Int32 → XT → Prop) : Prop := wpX5_reduceRows k 0 t (uI (fun _ => 0) 1 a1) (fun _ => 0) Q
set_option maxHeartbeats 8000000 in
set_option maxRecDepth 100000 in
theorem wkX5_reduceRows (l : Launch) (D : va_G) (cI cJ cB cZ : ClassId) (ad : Nat → Nat) (k : Nat) (t : XT) (a1 : Int32) (Q : Int32 → XT → Prop) (hR : wqX5_reduceRows k t a1 Q) : MetI l yX5_reduceRows wsX5_reduceRows 2 52 0 0 D (TYS cI cJ cB cZ) (wX cI cJ cB cZ ad t) [.ref (ad 11), .int a1] (fun r u => Q r u) (fun u : XT => (wX cI cJ cB cZ ad u)) := by
  refine x_startI (ty := .boolean) (cc := cX5_reduceRows) (by decide) rfl (Nat.le_of_ble_eq_true rfl) ?_
  intro p e s m args below meth c A ls B hr hnm h hl
  have hx := B.1.1
  have hb := B.1.2.1
  have hml := B.1.2.2.1
  have hts := B.1.2.2.2.2
  have hown : s.vm.findClass RX5 = some m.cls := B.1.2.2.2.1
  have hin5 : ∀ w ∈ u_ws RX5 TX5 6, w ∈ wsX5_reduceRows := by decide +kernel
  have main : ∀ k : Nat, (∀ (t : XT) (li : Nat → Int32) (lj : Nat → Int64) (H : Heap) (locs : List Loc) (ls : Array Slot), wpX5_reduceRows k 0 t li lj Q → lv_has ls 8 [(0, .ref (ad 11)), (1, .int (li 1))] → Hp D A s.heap (wX cI cJ cB cZ ad t) H locs → W p l e { frames := 2, cells := 0, slots := 0, locals := 52 } s m args below meth c H locs 0 0 (MQ below (va_Qi (fun r u => Q r u) (fun u t => xEnd D ((fun u : XT => (wX cI cJ cB cZ ad u)) u) A t) A) args s 0 0 A) (F0 m 0 ls [])) ∧
      (∀ (t : XT) (li : Nat → Int32) (lj : Nat → Int64) (H : Heap) (locs : List Loc) (ls : Array Slot), wpX5_reduceRows k 1 t li lj Q → lv_has ls 8 [(0, .ref (ad 11)), (1, .int (li 1)), (2, .int (li 2)), (3, .int (li 3))] → Hp D A s.heap (wX cI cJ cB cZ ad t) H locs → W p l e { frames := 2, cells := 0, slots := 0, locals := 52 } s m args below meth c H locs 0 0 (MQ below (va_Qi (fun r u => Q r u) (fun u t => xEnd D ((fun u : XT => (wX cI cJ cB cZ ad u)) u) A t) A) args s 0 0 A) (F0 m 6 ls [])) ∧
      (∀ (t : XT) (li : Nat → Int32) (lj : Nat → Int64) (H : Heap) (locs : List Loc) (ls : Array Slot), wpX5_reduceRows k 2 t li lj Q → lv_has ls 8 [(0, .ref (ad 11)), (1, .int (li 1)), (2, .int (li 2)), (3, .int (li 3)), (4, .long (lj 4)), (6, .int (li 6))] → Hp D A s.heap (wX cI cJ cB cZ ad t) H locs → W p l e { frames := 2, cells := 0, slots := 0, locals := 52 } s m args below meth c H locs 0 0 (MQ below (va_Qi (fun r u => Q r u) (fun u t => xEnd D ((fun u : XT => (wX cI cJ cB cZ ad u)) u) A t) A) args s 0 0 A) (F0 m 48 ls [])) ∧
      (∀ (t : XT) (li : Nat → Int32) (lj : Nat → Int64) (H : Heap) (locs : List Loc) (ls : Array Slot), wpX5_reduceRows k 3 t li lj Q → lv_has ls 8 [(0, .ref (ad 11)), (1, .int (li 1)), (2, .int (li 2)), (3, .int (li 3)), (4, .long (lj 4)), (6, .int (li 6))] → Hp D A s.heap (wX cI cJ cB cZ ad t) H locs → W p l e { frames := 2, cells := 0, slots := 0, locals := 52 } s m args below meth c H locs 0 0 (MQ below (va_Qi (fun r u => Q r u) (fun u t => xEnd D ((fun u : XT => (wX cI cJ cB cZ ad u)) u) A t) A) args s 0 0 A) (F0 m 117 ls [])) ∧
      (∀ (t : XT) (li : Nat → Int32) (lj : Nat → Int64) (H : Heap) (locs : List Loc) (ls : Array Slot), wpX5_reduceRows k 4 t li lj Q → lv_has ls 8 [(0, .ref (ad 11)), (1, .int (li 1)), (2, .int (li 2)), (3, .int (li 3)), (4, .long (lj 4)), (6, .int (li 6))] → Hp D A s.heap (wX cI cJ cB cZ ad t) H locs → W p l e { frames := 2, cells := 0, slots := 0, locals := 52 } s m args below meth c H locs 0 0 (MQ below (va_Qi (fun r u => Q r u) (fun u t => xEnd D ((fun u : XT => (wX cI cJ cB cZ ad u)) u) A t) A) args s 0 0 A) (F0 m 143 ls [])) ∧
      (∀ (t : XT) (li : Nat → Int32) (lj : Nat → Int64) (H : Heap) (locs : List Loc) (ls : Array Slot), wpX5_reduceRows k 5 t li lj Q → lv_has ls 8 [(0, .ref (ad 11)), (1, .int (li 1)), (2, .int (li 2)), (3, .int (li 3)), (4, .long (lj 4)), (6, .int (li 6))] → Hp D A s.heap (wX cI cJ cB cZ ad t) H locs → W p l e { frames := 2, cells := 0, slots := 0, locals := 52 } s m args below meth c H locs 0 0 (MQ below (va_Qi (fun r u => Q r u) (fun u t => xEnd D ((fun u : XT => (wX cI cJ cB cZ ad u)) u) A t) A) args s 0 0 A) (F0 m 144 ls [.int (li 100)])) := by
    intro k
    induction k with
    | zero => exact ⟨fun _ _ _ _ _ _ hR => False.elim hR, fun _ _ _ _ _ _ hR => False.elim hR, fun _ _ _ _ _ _ hR => False.elim hR, fun _ _ _ _ _ _ hR => False.elim hR, fun _ _ _ _ _ _ hR => False.elim hR, fun _ _ _ _ _ _ hR => False.elim hR⟩
    | succ k ih =>
      refine ⟨?_, ?_, ?_, ?_, ?_, ?_⟩
      · intro t li lj H locs ls hR hl h
        have hR : wbX5_reduceRows_0 (wpX5_reduceRows k) k t li lj Q := hR
        unfold wbX5_reduceRows_0 at hR
        refine lv_iconst (v := 1) hx hb dX5_reduceRows_0 (by decide) ?_
        refine lv_istore_n (lv' := [(2, .int 1), (0, .ref (ad 11)), (1, .int (li 1))]) hx hb dX5_reduceRows_1 rfl hl (by decide) rfl (fun ls hl => ?_)
        refine lv_iload_n hx hb dX5_reduceRows_2 rfl (lv_at hl 2 rfl) ?_
        refine lv_iconst (v := 1) hx hb dX5_reduceRows_3 (by decide) ?_
        refine lv_iadd hx hb dX5_reduceRows_4 ?_
        refine lv_topi (fun v_1 ev_1 => ?_)
        have hR := hR v_1 ev_1
        refine lv_istore_n (lv' := [(3, .int v_1), (2, .int 1), (0, .ref (ad 11)), (1, .int (li 1))]) hx hb dX5_reduceRows_5 rfl hl (by decide) rfl (fun ls hl => ?_)
        exact ih.2.1 t (uI (uI li 2 1) 3 v_1) lj H locs ls hR (lv_sub hl [2, 3, 1, 0] rfl) h
      · intro t li lj H locs ls hR hl h
        have hR : wbX5_reduceRows_1 (wpX5_reduceRows k) k t li lj Q := hR
        unfold wbX5_reduceRows_1 at hR
        refine lv_iload_n hx hb dX5_reduceRows_6 rfl (lv_at hl 3 rfl) ?_
        refine lv_aload_n hx hb dX5_reduceRows_7 rfl (lv_at hl 0 rfl) ?_
        refine x_get (ci := 5) (C := RX5) (T := TX5) (N := 6) (v := .int (t.1 10)) B h hin5 11 3 rfl rfl (by decide) (by decide +kernel) rfl dX5_reduceRows_8 ?_
        refine lv_icmp_ge (tgt := 151) hx hb dX5_reduceRows_11 (by decide) (fun c_2 => ?_) (fun c_2 => ?_)
        · have hR := hR.1 c_2
          refine lv_iload_n hx hb dX5_reduceRows_151 rfl (lv_at hl 2 rfl) ?_
          obtain ⟨hz_3, hR⟩ := hR
          exact x_iret (w1 := (fun u : XT => (wX cI cJ cB cZ ad u))) t B h hr (by rcases hz_3 with h_ | h_ <;> rw [h_] <;> rfl) hR dX5_reduceRows_152
        · have hR := hR.2 c_2
          refine lv_aload_n hx hb dX5_reduceRows_14 rfl (lv_at hl 0 rfl) ?_
          refine x_get (ci := 5) (C := RX5) (T := TX5) (N := 6) (v := .ref (ad 30)) B h hin5 11 0 rfl rfl (by decide) (by decide +kernel) rfl dX5_reduceRows_15 ?_
          refine lv_iload_n hx hb dX5_reduceRows_18 rfl (lv_at hl 3 rfl) ?_
          refine lv_aload_n hx hb dX5_reduceRows_19 rfl (lv_at hl 0 rfl) ?_
          refine x_get (ci := 5) (C := RX5) (T := TX5) (N := 6) (v := .int (t.1 11)) B h hin5 11 4 rfl rfl (by decide) (by decide +kernel) rfl dX5_reduceRows_20 ?_
          refine lv_imul hx hb dX5_reduceRows_23 ?_
          refine lv_topi (fun v_4 ev_4 => ?_)
          have hR := hR v_4 ev_4
          refine lv_iload_n hx hb dX5_reduceRows_24 rfl (lv_at hl 1 rfl) ?_
          refine lv_iadd hx hb dX5_reduceRows_25 ?_
          refine lv_topi (fun v_5 ev_5 => ?_)
          have hR := hR v_5 ev_5
          obtain ⟨hb_6, hR⟩ := hR
          refine va_lald (f := (t.2.2.2 7)) hx hb B.2.1 h.1 30 1 rfl rfl hb_6 dX5_reduceRows_26 ?_
          refine lv_topl (fun v_6 ev_6 => ?_)
          have hR := hR v_6 ev_6
          refine lv_aload_n hx hb dX5_reduceRows_27 rfl (lv_at hl 0 rfl) ?_
          refine x_get (ci := 5) (C := RX5) (T := TX5) (N := 6) (v := .ref (ad 30)) B h hin5 11 0 rfl rfl (by decide) (by decide +kernel) rfl dX5_reduceRows_28 ?_
          refine lv_iload_n hx hb dX5_reduceRows_31 rfl (lv_at hl 1 rfl) ?_
          refine lv_aload_n hx hb dX5_reduceRows_32 rfl (lv_at hl 0 rfl) ?_
          refine x_get (ci := 5) (C := RX5) (T := TX5) (N := 6) (v := .int (t.1 11)) B h hin5 11 4 rfl rfl (by decide) (by decide +kernel) rfl dX5_reduceRows_33 ?_
          refine lv_imul hx hb dX5_reduceRows_36 ?_
          refine lv_topi (fun v_7 ev_7 => ?_)
          have hR := hR v_7 ev_7
          refine lv_iload_n hx hb dX5_reduceRows_37 rfl (lv_at hl 1 rfl) ?_
          refine lv_iadd hx hb dX5_reduceRows_38 ?_
          refine lv_topi (fun v_8 ev_8 => ?_)
          have hR := hR v_8 ev_8
          obtain ⟨hb_9, hR⟩ := hR
          refine va_lald (f := (t.2.2.2 7)) hx hb B.2.1 h.1 30 1 rfl rfl hb_9 dX5_reduceRows_39 ?_
          refine lv_topl (fun v_9 ev_9 => ?_)
          have hR := hR v_9 ev_9
          refine x_cSLE (n := 2) (As := [.long v_6, .long v_9]) (rest := []) B h (wkX5_nearest l D cI cJ cB cZ ad k v_6 v_9 _ hR) ⟨⟨_, rfl⟩, by decide +kernel, Nat.le_of_ble_eq_true rfl, Nat.le_of_ble_eq_true rfl⟩ gX5_reduceRows_X5_nearest rfl hl.1 rfl (Nat.le_of_ble_eq_true rfl) dX5_reduceRows_40 ⟨Nat.le_of_ble_eq_true rfl, Nat.le_of_ble_eq_true rfl⟩ (fun r_10 _ H locs hR h => ?_)
          refine lv_lstore (lv' := [(4, .long r_10), (0, .ref (ad 11)), (1, .int (li 1)), (2, .int (li 2)), (3, .int (li 3))]) hx hb dX5_reduceRows_43 hl (by decide) rfl (fun ls hl => ?_)
          refine lv_iload_n hx hb dX5_reduceRows_45 rfl (lv_at hl 2 rfl) ?_
          refine lv_istore (lv' := [(6, .int (li 1)), (4, .long r_10), (0, .ref (ad 11)), (1, .int (li 1)), (2, .int (li 2)), (3, .int (li 3))]) hx hb dX5_reduceRows_46 hl (by decide) rfl (fun ls hl => ?_)
          exact ih.2.2.1 t (uI li 6 (li 1)) (uI lj 4 r_10) H locs ls hR (lv_sub hl [2, 3, 4, 5, 1, 0] rfl) h
      · intro t li lj H locs ls hR hl h
        have hR : wbX5_reduceRows_2 (wpX5_reduceRows k) k t li lj Q := hR
        unfold wbX5_reduceRows_2 at hR
        refine lv_iload hx hb dX5_reduceRows_48 (lv_at hl 5 rfl) ?_
        refine lv_aload_n hx hb dX5_reduceRows_50 rfl (lv_at hl 0 rfl) ?_
        refine x_get (ci := 5) (C := RX5) (T := TX5) (N := 6) (v := .int (t.1 11)) B h hin5 11 4 rfl rfl (by decide) (by decide +kernel) rfl dX5_reduceRows_51 ?_
        refine lv_icmp_ge (tgt := 117) hx hb dX5_reduceRows_54 (by decide) (fun c_11 => ?_) (fun c_11 => ?_)
        · have hR := hR.1 c_11
          exact ih.2.2.2.1 t li lj H locs ls hR (lv_sub hl [0, 1, 2, 3, 4, 5] rfl) h
        · have hR := hR.2 c_11
          refine lv_lload hx hb dX5_reduceRows_57 (lv_at hl 4 rfl) ?_
          refine lv_lconst (v := 0) hx hb dX5_reduceRows_59 (by decide) ?_
          refine W.lcmp hx hb dX5_reduceRows_60 ?_
          refine lv_topi (fun v_12 ev_12 => ?_)
          have hR := hR v_12 ev_12
          refine lv_if_eq (tgt := 117) hx hb dX5_reduceRows_61 (by decide) (fun c_13 => ?_) (fun c_13 => ?_)
          · have hR := hR.1 c_13
            exact ih.2.2.2.1 t li lj H locs ls hR (lv_sub hl [0, 1, 2, 3, 4, 5] rfl) h
          · have hR := hR.2 c_13
            refine lv_iload_n hx hb dX5_reduceRows_64 rfl (lv_at hl 3 rfl) ?_
            refine lv_aload_n hx hb dX5_reduceRows_65 rfl (lv_at hl 0 rfl) ?_
            refine x_get (ci := 5) (C := RX5) (T := TX5) (N := 6) (v := .int (t.1 11)) B h hin5 11 4 rfl rfl (by decide) (by decide +kernel) rfl dX5_reduceRows_66 ?_
            refine lv_imul hx hb dX5_reduceRows_69 ?_
            refine lv_topi (fun v_14 ev_14 => ?_)
            have hR := hR v_14 ev_14
            refine lv_iload hx hb dX5_reduceRows_70 (lv_at hl 5 rfl) ?_
            refine lv_iadd hx hb dX5_reduceRows_72 ?_
            refine lv_topi (fun v_15 ev_15 => ?_)
            have hR := hR v_15 ev_15
            refine lv_istore (lv' := [(7, .int v_15), (0, .ref (ad 11)), (1, .int (li 1)), (2, .int (li 2)), (3, .int (li 3)), (4, .long (lj 4)), (6, .int (li 6))]) hx hb dX5_reduceRows_73 hl (by decide) rfl (fun ls hl => ?_)
            refine lv_aload_n hx hb dX5_reduceRows_75 rfl (lv_at hl 1 rfl) ?_
            refine x_get (ci := 5) (C := RX5) (T := TX5) (N := 6) (v := .ref (ad 30)) B h hin5 11 0 rfl rfl (by decide) (by decide +kernel) rfl dX5_reduceRows_76 ?_
            refine lv_iload hx hb dX5_reduceRows_79 (lv_at hl 0 rfl) ?_
            refine lv_aload_n hx hb dX5_reduceRows_81 rfl (lv_at hl 1 rfl) ?_
            refine lv_aload_n hx hb dX5_reduceRows_82 rfl (lv_at hl 1 rfl) ?_
            refine x_get (ci := 5) (C := RX5) (T := TX5) (N := 6) (v := .ref (ad 30)) B h hin5 11 0 rfl rfl (by decide) (by decide +kernel) rfl dX5_reduceRows_83 ?_
            refine lv_iload hx hb dX5_reduceRows_86 (lv_at hl 0 rfl) ?_
            obtain ⟨hb_16, hR⟩ := hR
            refine va_lald (f := (t.2.2.2 7)) hx hb B.2.1 h.1 30 1 rfl rfl hb_16 dX5_reduceRows_88 ?_
            refine lv_topl (fun v_16 ev_16 => ?_)
            have hR := hR v_16 ev_16
            refine lv_lload hx hb dX5_reduceRows_89 (lv_at hl 5 rfl) ?_
            refine lv_aload_n hx hb dX5_reduceRows_91 rfl (lv_at hl 1 rfl) ?_
            refine x_get (ci := 5) (C := RX5) (T := TX5) (N := 6) (v := .ref (ad 30)) B h hin5 11 0 rfl rfl (by decide) (by decide +kernel) rfl dX5_reduceRows_92 ?_
            refine lv_iload_n hx hb dX5_reduceRows_95 rfl (lv_at hl 2 rfl) ?_
            refine lv_aload_n hx hb dX5_reduceRows_96 rfl (lv_at hl 1 rfl) ?_
            refine x_get (ci := 5) (C := RX5) (T := TX5) (N := 6) (v := .int (t.1 11)) B h hin5 11 4 rfl rfl (by decide) (by decide +kernel) rfl dX5_reduceRows_97 ?_
            refine lv_imul hx hb dX5_reduceRows_100 ?_
            refine lv_topi (fun v_17 ev_17 => ?_)
            have hR := hR v_17 ev_17
            refine lv_iload hx hb dX5_reduceRows_101 (lv_at hl 6 rfl) ?_
            refine lv_iadd hx hb dX5_reduceRows_103 ?_
            refine lv_topi (fun v_18 ev_18 => ?_)
            have hR := hR v_18 ev_18
            obtain ⟨hb_19, hR⟩ := hR
            refine va_lald (f := (t.2.2.2 7)) hx hb B.2.1 h.1 30 1 rfl rfl hb_19 dX5_reduceRows_104 ?_
            refine lv_topl (fun v_19 ev_19 => ?_)
            have hR := hR v_19 ev_19
            refine lv_lmul hx hb dX5_reduceRows_105 ?_
            refine lv_topl (fun v_20 ev_20 => ?_)
            have hR := hR v_20 ev_20
            refine lv_lsub hx hb dX5_reduceRows_106 ?_
            refine lv_topl (fun v_21 ev_21 => ?_)
            have hR := hR v_21 ev_21
            refine x_cVLF (n := 1) (As := [.long v_21]) (rest := [.int v_15, .ref (ad 30)]) B h (wkX5_remainder l D cI cJ cB cZ ad k t v_21 _ hR) ⟨⟨_, rfl⟩, by decide +kernel, Nat.le_of_ble_eq_true rfl, Nat.le_of_ble_eq_true rfl⟩ gX5_reduceRows_X5_remainder (show ((wX cI cJ cB cZ ad t) : va_W)[11]? = some (_, .inr (5, _)) from rfl) rfl rfl hl.1 rfl (Nat.le_of_ble_eq_true rfl) dX5_reduceRows_107 ⟨Nat.le_of_ble_eq_true rfl, Nat.le_of_ble_eq_true rfl⟩ (fun r_22 t_22 H locs hR h => ?_)
            obtain ⟨hb_23, hR⟩ := hR
            refine z_last (f := (t_22.2.2.2 7)) B h 30 1 rfl rfl hb_23 dX5_reduceRows_110 (fun H locs h => ?_)
            obtain ⟨t_23, et_23⟩ : ∃ v : XT, v = sB t_22 7 (vp_updL (t_22.2.2.2 7) v_15.toNatClampNeg r_22) := ⟨_, rfl⟩
            have hR := hR t_23 et_23
            have h : Hp D A s.heap (wX cI cJ cB cZ ad t_23) H locs := by rw [et_23]; exact h
            obtain ⟨v_24, ev_24⟩ : ∃ v : Int32, v = (li 6) + Int32.ofInt 1 := ⟨_, rfl⟩
            have hR := hR v_24 ev_24
            refine lv_iinc (v := v_24) (lv' := [(6, .int v_24), (7, .int v_15), (0, .ref (ad 11)), (1, .int (li 1)), (2, .int (li 2)), (3, .int (li 3)), (4, .long (lj 4))]) hx hb dX5_reduceRows_111 hl (k := 6) rfl ev_24.symm (by decide) rfl (fun ls hl => ?_)
            refine lv_goto (tgt := 48) hx hb dX5_reduceRows_114 (by decide) ?_
            exact ih.2.2.1 t_23 (uI li 6 v_24) lj H locs ls hR (lv_sub hl [2, 3, 4, 5, 6, 0] rfl) h
      · intro t li lj H locs ls hR hl h
        have hR : wbX5_reduceRows_3 (wpX5_reduceRows k) k t li lj Q := hR
        unfold wbX5_reduceRows_3 at hR
        refine lv_iload_n hx hb dX5_reduceRows_117 rfl (lv_at hl 2 rfl) ?_
        refine lv_if_eq (tgt := 143) hx hb dX5_reduceRows_118 (by decide) (fun c_25 => ?_) (fun c_25 => ?_)
        · have hR := hR.1 c_25
          exact ih.2.2.2.2.1 t li lj H locs ls hR (lv_sub hl [0, 1, 2, 3, 4, 5] rfl) h
        · have hR := hR.2 c_25
          refine lv_aload_n hx hb dX5_reduceRows_121 rfl (lv_at hl 0 rfl) ?_
          refine x_get (ci := 5) (C := RX5) (T := TX5) (N := 6) (v := .ref (ad 30)) B h hin5 11 0 rfl rfl (by decide) (by decide +kernel) rfl dX5_reduceRows_122 ?_
          refine lv_iload_n hx hb dX5_reduceRows_125 rfl (lv_at hl 3 rfl) ?_
          refine lv_aload_n hx hb dX5_reduceRows_126 rfl (lv_at hl 0 rfl) ?_
          refine x_get (ci := 5) (C := RX5) (T := TX5) (N := 6) (v := .int (t.1 11)) B h hin5 11 4 rfl rfl (by decide) (by decide +kernel) rfl dX5_reduceRows_127 ?_
          refine lv_imul hx hb dX5_reduceRows_130 ?_
          refine lv_topi (fun v_26 ev_26 => ?_)
          have hR := hR v_26 ev_26
          refine lv_iload_n hx hb dX5_reduceRows_131 rfl (lv_at hl 1 rfl) ?_
          refine lv_iadd hx hb dX5_reduceRows_132 ?_
          refine lv_topi (fun v_27 ev_27 => ?_)
          have hR := hR v_27 ev_27
          obtain ⟨hb_28, hR⟩ := hR
          refine va_lald (f := (t.2.2.2 7)) hx hb B.2.1 h.1 30 1 rfl rfl hb_28 dX5_reduceRows_133 ?_
          refine lv_topl (fun v_28 ev_28 => ?_)
          have hR := hR v_28 ev_28
          refine lv_lconst (v := 0) hx hb dX5_reduceRows_134 (by decide) ?_
          refine W.lcmp hx hb dX5_reduceRows_135 ?_
          refine lv_topi (fun v_29 ev_29 => ?_)
          have hR := hR v_29 ev_29
          refine lv_if_ne (tgt := 143) hx hb dX5_reduceRows_136 (by decide) (fun c_30 => ?_) (fun c_30 => ?_)
          · have hR := hR.1 c_30
            exact ih.2.2.2.2.1 t li lj H locs ls hR (lv_sub hl [0, 1, 2, 3, 4, 5] rfl) h
          · have hR := hR.2 c_30
            refine lv_iconst (v := 1) hx hb dX5_reduceRows_139 (by decide) ?_
            refine lv_goto (tgt := 144) hx hb dX5_reduceRows_140 (by decide) ?_
            exact ih.2.2.2.2.2 t (uI li 100 1) lj H locs ls hR (lv_sub hl [0, 1, 2, 3, 4, 5] rfl) h
      · intro t li lj H locs ls hR hl h
        have hR : wbX5_reduceRows_4 (wpX5_reduceRows k) k t li lj Q := hR
        unfold wbX5_reduceRows_4 at hR
        refine lv_iconst (v := 0) hx hb dX5_reduceRows_143 (by decide) ?_
        exact ih.2.2.2.2.2 t (uI li 100 0) lj H locs ls hR (lv_sub hl [0, 1, 2, 3, 4, 5] rfl) h
      · intro t li lj H locs ls hR hl h
        have hR : wbX5_reduceRows_5 (wpX5_reduceRows k) k t li lj Q := hR
        unfold wbX5_reduceRows_5 at hR
        refine lv_istore_n (lv' := [(2, .int (li 100)), (0, .ref (ad 11)), (1, .int (li 1)), (3, .int (li 3)), (4, .long (lj 4)), (6, .int (li 6))]) hx hb dX5_reduceRows_144 rfl hl (by decide) rfl (fun ls hl => ?_)
        obtain ⟨v_31, ev_31⟩ : ∃ v : Int32, v = (li 3) + Int32.ofInt 1 := ⟨_, rfl⟩
        have hR := hR v_31 ev_31
        refine lv_iinc (v := v_31) (lv' := [(3, .int v_31), (2, .int (li 100)), (0, .ref (ad 11)), (1, .int (li 1)), (4, .long (lj 4)), (6, .int (li 6))]) hx hb dX5_reduceRows_145 hl (k := 3) rfl ev_31.symm (by decide) rfl (fun ls hl => ?_)
        refine lv_goto (tgt := 6) hx hb dX5_reduceRows_148 (by decide) ?_
        exact ih.2.1 t (uI (uI li 2 (li 100)) 3 v_31) lj H locs ls hR (lv_sub hl [2, 3, 1, 0] rfl) h
  exact (main k).1 t _ _ s.heap [] ls hR hl h
set_option maxRecDepth 20000 in
theorem ggX5_reduceColumns_X5_nearest : GoodIn wsX5_reduceColumns wsX5_nearest := goodIn_r _ [7, 8, 9, 10, 11, 12, 13, 14, 15, 16] (by decide +kernel) (by decide +kernel)
set_option maxRecDepth 20000 in
theorem gX5_reduceColumns_X5_nearest : GoodIn wsX5_reduceColumns (va_wsS RX5 91 yX5_nearest wsX5_nearest) := goodIn_app (goodIn_of _ (by decide +kernel)) ggX5_reduceColumns_X5_nearest
set_option maxRecDepth 20000 in
theorem ggX5_reduceColumns_X5_remainder : GoodIn wsX5_reduceColumns wsX5_remainder := goodIn_r _ [20, 21, 12, 22, 23, 15, 24, 25, 26, 27, 28, 29, 30] (by decide +kernel) (by decide +kernel)
set_option maxRecDepth 20000 in
theorem gX5_reduceColumns_X5_remainder : GoodIn wsX5_reduceColumns (wsV RX5 59 RX5 yX5_remainder wsX5_remainder) := goodIn_app (goodIn_of _ (by decide +kernel)) ggX5_reduceColumns_X5_remainder
def wbX5_reduceColumns_0 (rec : Nat → XT → (Nat → Int32) → (Nat → Int64) → (Int32 → XT → Prop) → Prop) (k : Nat) (t : XT) (li : Nat → Int32) (lj : Nat → Int64) (Q : Int32 → XT → Prop) : Prop :=
  (∀ v_1 : Int32, v_1 = ((li 1) + 1) → rec 1 t (uI (uI li 2 1) 3 v_1) lj Q)
def wbX5_reduceColumns_1 (rec : Nat → XT → (Nat → Int32) → (Nat → Int64) → (Int32 → XT → Prop) → Prop) (k : Nat) (t : XT) (li : Nat → Int32) (lj : Nat → Int64) (Q : Int32 → XT → Prop) : Prop :=
  ((((t.1 11) : Int32) ≤ (li 3)) → (((li 2) = 0 ∨ (li 2) = 1) ∧ Q (li 2) t)) ∧ (¬ (((t.1 11) : Int32) ≤ (li 3)) → (∀ v_4 : Int32, v_4 = ((li 1) * (t.1 11)) → (∀ v_5 : Int32, v_5 = (v_4 + (li 3)) → (vp_in v_5 900 ∧ (∀ v_6 : Int64, v_6 = (t.2.2.2 7) v_5.toNatClampNeg → (∀ v_7 : Int32, v_7 = ((li 1) * (t.1 11)) → (∀ v_8 : Int32, v_8 = (v_7 + (li 1)) → (vp_in v_8 900 ∧ (∀ v_9 : Int64, v_9 = (t.2.2.2 7) v_8.toNatClampNeg → (wqX5_nearest k v_6 v_9 (fun r_10 => rec 2 t (uI li 6 (li 1)) (uI lj 4 r_10) Q)))))))))))
def wbX5_reduceColumns_2 (rec : Nat → XT → (Nat → Int32) → (Nat → Int64) → (Int32 → XT → Prop) → Prop) (k : Nat) (t : XT) (li : Nat → Int32) (lj : Nat → Int64) (Q : Int32 → XT → Prop) : Prop :=
  ((((t.1 10) : Int32) ≤ (li 6)) → rec 3 t li lj Q) ∧ (¬ (((t.1 10) : Int32) ≤ (li 6)) → (∀ v_12 : Int32, v_12 = (lg_cmp (lj 4) 0) → ((v_12 = 0) → rec 3 t li lj Q) ∧ (¬ (v_12 = 0) → (∀ v_14 : Int32, v_14 = ((li 6) * (t.1 11)) → (∀ v_15 : Int32, v_15 = (v_14 + (li 3)) → (vp_in v_15 900 ∧ (∀ v_16 : Int64, v_16 = (t.2.2.2 7) v_15.toNatClampNeg → (∀ v_17 : Int32, v_17 = ((li 6) * (t.1 11)) → (∀ v_18 : Int32, v_18 = (v_17 + (li 1)) → (vp_in v_18 900 ∧ (∀ v_19 : Int64, v_19 = (t.2.2.2 7) v_18.toNatClampNeg → (∀ v_20 : Int64, v_20 = ((lj 4) * v_19) → (∀ v_21 : Int64, v_21 = (v_16 - v_20) → (wqX5_remainder k t v_21 (fun r_22 t_22 => (vp_in v_15 900 ∧ (∀ t_23 : XT, t_23 = sB t_22 7 (vp_updL (t_22.2.2.2 7) v_15.toNatClampNeg r_22) → (∀ v_24 : Int32, v_24 = (li 6) + Int32.ofInt 1 → rec 2 t_23 (uI li 6 v_24) lj Q))))))))))))))))))
def wbX5_reduceColumns_3 (rec : Nat → XT → (Nat → Int32) → (Nat → Int64) → (Int32 → XT → Prop) → Prop) (k : Nat) (t : XT) (li : Nat → Int32) (lj : Nat → Int64) (Q : Int32 → XT → Prop) : Prop :=
  (((li 2) = 0) → rec 4 t li lj Q) ∧ (¬ ((li 2) = 0) → (∀ v_26 : Int32, v_26 = ((li 1) * (t.1 11)) → (∀ v_27 : Int32, v_27 = (v_26 + (li 3)) → (vp_in v_27 900 ∧ (∀ v_28 : Int64, v_28 = (t.2.2.2 7) v_27.toNatClampNeg → (∀ v_29 : Int32, v_29 = (lg_cmp v_28 0) → ((¬ v_29 = 0) → rec 4 t li lj Q) ∧ ((v_29 = 0) → rec 5 t (uI li 100 1) lj Q)))))))
def wbX5_reduceColumns_4 (rec : Nat → XT → (Nat → Int32) → (Nat → Int64) → (Int32 → XT → Prop) → Prop) (k : Nat) (t : XT) (li : Nat → Int32) (lj : Nat → Int64) (Q : Int32 → XT → Prop) : Prop :=
  rec 5 t (uI li 100 0) lj Q
def wbX5_reduceColumns_5 (rec : Nat → XT → (Nat → Int32) → (Nat → Int64) → (Int32 → XT → Prop) → Prop) (k : Nat) (t : XT) (li : Nat → Int32) (lj : Nat → Int64) (Q : Int32 → XT → Prop) : Prop :=
  (∀ v_31 : Int32, v_31 = (li 3) + Int32.ofInt 1 → rec 1 t (uI (uI li 2 (li 100)) 3 v_31) lj Q)
def wpX5_reduceColumns : Nat → Nat → XT → (Nat → Int32) → (Nat → Int64) → (Int32 → XT → Prop) → Prop
  | 0, _, _, _, _, _ => False
  | k + 1, 0, t, li, lj, Q => wbX5_reduceColumns_0 (wpX5_reduceColumns k) k t li lj Q
  | k + 1, 1, t, li, lj, Q => wbX5_reduceColumns_1 (wpX5_reduceColumns k) k t li lj Q
  | k + 1, 2, t, li, lj, Q => wbX5_reduceColumns_2 (wpX5_reduceColumns k) k t li lj Q
  | k + 1, 3, t, li, lj, Q => wbX5_reduceColumns_3 (wpX5_reduceColumns k) k t li lj Q
  | k + 1, 4, t, li, lj, Q => wbX5_reduceColumns_4 (wpX5_reduceColumns k) k t li lj Q
  | k + 1, 5, t, li, lj, Q => wbX5_reduceColumns_5 (wpX5_reduceColumns k) k t li lj Q
  | _ + 1, _, _, _, _, _ => False
def wqX5_reduceColumns (k : Nat) (t : XT) (a1 : Int32) (Q : Int32 → XT → Prop) : Prop := wpX5_reduceColumns k 0 t (uI (fun _ => 0) 1 a1) (fun _ => 0) Q
set_option maxHeartbeats 8000000 in
set_option maxRecDepth 100000 in
theorem wkX5_reduceColumns (l : Launch) (D : va_G) (cI cJ cB cZ : ClassId) (ad : Nat → Nat) (k : Nat) (t : XT) (a1 : Int32) (Q : Int32 → XT → Prop) (hR : wqX5_reduceColumns k t a1 Q) : MetI l yX5_reduceColumns wsX5_reduceColumns 2 52 0 0 D (TYS cI cJ cB cZ) (wX cI cJ cB cZ ad t) [.ref (ad 11), .int a1] (fun r u => Q r u) (fun u : XT => (wX cI cJ cB cZ ad u)) := by
  refine x_startI (ty := .boolean) (cc := cX5_reduceColumns) (by decide) rfl (Nat.le_of_ble_eq_true rfl) ?_
  intro p e s m args below meth c A ls B hr hnm h hl
  have hx := B.1.1
  have hb := B.1.2.1
  have hml := B.1.2.2.1
  have hts := B.1.2.2.2.2
  have hown : s.vm.findClass RX5 = some m.cls := B.1.2.2.2.1
  have hin5 : ∀ w ∈ u_ws RX5 TX5 6, w ∈ wsX5_reduceColumns := by decide +kernel
  have main : ∀ k : Nat, (∀ (t : XT) (li : Nat → Int32) (lj : Nat → Int64) (H : Heap) (locs : List Loc) (ls : Array Slot), wpX5_reduceColumns k 0 t li lj Q → lv_has ls 8 [(0, .ref (ad 11)), (1, .int (li 1))] → Hp D A s.heap (wX cI cJ cB cZ ad t) H locs → W p l e { frames := 2, cells := 0, slots := 0, locals := 52 } s m args below meth c H locs 0 0 (MQ below (va_Qi (fun r u => Q r u) (fun u t => xEnd D ((fun u : XT => (wX cI cJ cB cZ ad u)) u) A t) A) args s 0 0 A) (F0 m 0 ls [])) ∧
      (∀ (t : XT) (li : Nat → Int32) (lj : Nat → Int64) (H : Heap) (locs : List Loc) (ls : Array Slot), wpX5_reduceColumns k 1 t li lj Q → lv_has ls 8 [(0, .ref (ad 11)), (1, .int (li 1)), (2, .int (li 2)), (3, .int (li 3))] → Hp D A s.heap (wX cI cJ cB cZ ad t) H locs → W p l e { frames := 2, cells := 0, slots := 0, locals := 52 } s m args below meth c H locs 0 0 (MQ below (va_Qi (fun r u => Q r u) (fun u t => xEnd D ((fun u : XT => (wX cI cJ cB cZ ad u)) u) A t) A) args s 0 0 A) (F0 m 6 ls [])) ∧
      (∀ (t : XT) (li : Nat → Int32) (lj : Nat → Int64) (H : Heap) (locs : List Loc) (ls : Array Slot), wpX5_reduceColumns k 2 t li lj Q → lv_has ls 8 [(0, .ref (ad 11)), (1, .int (li 1)), (2, .int (li 2)), (3, .int (li 3)), (4, .long (lj 4)), (6, .int (li 6))] → Hp D A s.heap (wX cI cJ cB cZ ad t) H locs → W p l e { frames := 2, cells := 0, slots := 0, locals := 52 } s m args below meth c H locs 0 0 (MQ below (va_Qi (fun r u => Q r u) (fun u t => xEnd D ((fun u : XT => (wX cI cJ cB cZ ad u)) u) A t) A) args s 0 0 A) (F0 m 48 ls [])) ∧
      (∀ (t : XT) (li : Nat → Int32) (lj : Nat → Int64) (H : Heap) (locs : List Loc) (ls : Array Slot), wpX5_reduceColumns k 3 t li lj Q → lv_has ls 8 [(0, .ref (ad 11)), (1, .int (li 1)), (2, .int (li 2)), (3, .int (li 3)), (4, .long (lj 4)), (6, .int (li 6))] → Hp D A s.heap (wX cI cJ cB cZ ad t) H locs → W p l e { frames := 2, cells := 0, slots := 0, locals := 52 } s m args below meth c H locs 0 0 (MQ below (va_Qi (fun r u => Q r u) (fun u t => xEnd D ((fun u : XT => (wX cI cJ cB cZ ad u)) u) A t) A) args s 0 0 A) (F0 m 117 ls [])) ∧
      (∀ (t : XT) (li : Nat → Int32) (lj : Nat → Int64) (H : Heap) (locs : List Loc) (ls : Array Slot), wpX5_reduceColumns k 4 t li lj Q → lv_has ls 8 [(0, .ref (ad 11)), (1, .int (li 1)), (2, .int (li 2)), (3, .int (li 3)), (4, .long (lj 4)), (6, .int (li 6))] → Hp D A s.heap (wX cI cJ cB cZ ad t) H locs → W p l e { frames := 2, cells := 0, slots := 0, locals := 52 } s m args below meth c H locs 0 0 (MQ below (va_Qi (fun r u => Q r u) (fun u t => xEnd D ((fun u : XT => (wX cI cJ cB cZ ad u)) u) A t) A) args s 0 0 A) (F0 m 143 ls [])) ∧
      (∀ (t : XT) (li : Nat → Int32) (lj : Nat → Int64) (H : Heap) (locs : List Loc) (ls : Array Slot), wpX5_reduceColumns k 5 t li lj Q → lv_has ls 8 [(0, .ref (ad 11)), (1, .int (li 1)), (2, .int (li 2)), (3, .int (li 3)), (4, .long (lj 4)), (6, .int (li 6))] → Hp D A s.heap (wX cI cJ cB cZ ad t) H locs → W p l e { frames := 2, cells := 0, slots := 0, locals := 52 } s m args below meth c H locs 0 0 (MQ below (va_Qi (fun r u => Q r u) (fun u t => xEnd D ((fun u : XT => (wX cI cJ cB cZ ad u)) u) A t) A) args s 0 0 A) (F0 m 144 ls [.int (li 100)])) := by
    intro k
    induction k with
    | zero => exact ⟨fun _ _ _ _ _ _ hR => False.elim hR, fun _ _ _ _ _ _ hR => False.elim hR, fun _ _ _ _ _ _ hR => False.elim hR, fun _ _ _ _ _ _ hR => False.elim hR, fun _ _ _ _ _ _ hR => False.elim hR, fun _ _ _ _ _ _ hR => False.elim hR⟩
    | succ k ih =>
      refine ⟨?_, ?_, ?_, ?_, ?_, ?_⟩
      · intro t li lj H locs ls hR hl h
        have hR : wbX5_reduceColumns_0 (wpX5_reduceColumns k) k t li lj Q := hR
        unfold wbX5_reduceColumns_0 at hR
        refine lv_iconst (v := 1) hx hb dX5_reduceColumns_0 (by decide) ?_
        refine lv_istore_n (lv' := [(2, .int 1), (0, .ref (ad 11)), (1, .int (li 1))]) hx hb dX5_reduceColumns_1 rfl hl (by decide) rfl (fun ls hl => ?_)
        refine lv_iload_n hx hb dX5_reduceColumns_2 rfl (lv_at hl 2 rfl) ?_
        refine lv_iconst (v := 1) hx hb dX5_reduceColumns_3 (by decide) ?_
        refine lv_iadd hx hb dX5_reduceColumns_4 ?_
        refine lv_topi (fun v_1 ev_1 => ?_)
        have hR := hR v_1 ev_1
        refine lv_istore_n (lv' := [(3, .int v_1), (2, .int 1), (0, .ref (ad 11)), (1, .int (li 1))]) hx hb dX5_reduceColumns_5 rfl hl (by decide) rfl (fun ls hl => ?_)
        exact ih.2.1 t (uI (uI li 2 1) 3 v_1) lj H locs ls hR (lv_sub hl [2, 3, 1, 0] rfl) h
      · intro t li lj H locs ls hR hl h
        have hR : wbX5_reduceColumns_1 (wpX5_reduceColumns k) k t li lj Q := hR
        unfold wbX5_reduceColumns_1 at hR
        refine lv_iload_n hx hb dX5_reduceColumns_6 rfl (lv_at hl 3 rfl) ?_
        refine lv_aload_n hx hb dX5_reduceColumns_7 rfl (lv_at hl 0 rfl) ?_
        refine x_get (ci := 5) (C := RX5) (T := TX5) (N := 6) (v := .int (t.1 11)) B h hin5 11 4 rfl rfl (by decide) (by decide +kernel) rfl dX5_reduceColumns_8 ?_
        refine lv_icmp_ge (tgt := 151) hx hb dX5_reduceColumns_11 (by decide) (fun c_2 => ?_) (fun c_2 => ?_)
        · have hR := hR.1 c_2
          refine lv_iload_n hx hb dX5_reduceColumns_151 rfl (lv_at hl 2 rfl) ?_
          obtain ⟨hz_3, hR⟩ := hR
          exact x_iret (w1 := (fun u : XT => (wX cI cJ cB cZ ad u))) t B h hr (by rcases hz_3 with h_ | h_ <;> rw [h_] <;> rfl) hR dX5_reduceColumns_152
        · have hR := hR.2 c_2
          refine lv_aload_n hx hb dX5_reduceColumns_14 rfl (lv_at hl 0 rfl) ?_
          refine x_get (ci := 5) (C := RX5) (T := TX5) (N := 6) (v := .ref (ad 30)) B h hin5 11 0 rfl rfl (by decide) (by decide +kernel) rfl dX5_reduceColumns_15 ?_
          refine lv_iload_n hx hb dX5_reduceColumns_18 rfl (lv_at hl 1 rfl) ?_
          refine lv_aload_n hx hb dX5_reduceColumns_19 rfl (lv_at hl 0 rfl) ?_
          refine x_get (ci := 5) (C := RX5) (T := TX5) (N := 6) (v := .int (t.1 11)) B h hin5 11 4 rfl rfl (by decide) (by decide +kernel) rfl dX5_reduceColumns_20 ?_
          refine lv_imul hx hb dX5_reduceColumns_23 ?_
          refine lv_topi (fun v_4 ev_4 => ?_)
          have hR := hR v_4 ev_4
          refine lv_iload_n hx hb dX5_reduceColumns_24 rfl (lv_at hl 3 rfl) ?_
          refine lv_iadd hx hb dX5_reduceColumns_25 ?_
          refine lv_topi (fun v_5 ev_5 => ?_)
          have hR := hR v_5 ev_5
          obtain ⟨hb_6, hR⟩ := hR
          refine va_lald (f := (t.2.2.2 7)) hx hb B.2.1 h.1 30 1 rfl rfl hb_6 dX5_reduceColumns_26 ?_
          refine lv_topl (fun v_6 ev_6 => ?_)
          have hR := hR v_6 ev_6
          refine lv_aload_n hx hb dX5_reduceColumns_27 rfl (lv_at hl 0 rfl) ?_
          refine x_get (ci := 5) (C := RX5) (T := TX5) (N := 6) (v := .ref (ad 30)) B h hin5 11 0 rfl rfl (by decide) (by decide +kernel) rfl dX5_reduceColumns_28 ?_
          refine lv_iload_n hx hb dX5_reduceColumns_31 rfl (lv_at hl 1 rfl) ?_
          refine lv_aload_n hx hb dX5_reduceColumns_32 rfl (lv_at hl 0 rfl) ?_
          refine x_get (ci := 5) (C := RX5) (T := TX5) (N := 6) (v := .int (t.1 11)) B h hin5 11 4 rfl rfl (by decide) (by decide +kernel) rfl dX5_reduceColumns_33 ?_
          refine lv_imul hx hb dX5_reduceColumns_36 ?_
          refine lv_topi (fun v_7 ev_7 => ?_)
          have hR := hR v_7 ev_7
          refine lv_iload_n hx hb dX5_reduceColumns_37 rfl (lv_at hl 1 rfl) ?_
          refine lv_iadd hx hb dX5_reduceColumns_38 ?_
          refine lv_topi (fun v_8 ev_8 => ?_)
          have hR := hR v_8 ev_8
          obtain ⟨hb_9, hR⟩ := hR
          refine va_lald (f := (t.2.2.2 7)) hx hb B.2.1 h.1 30 1 rfl rfl hb_9 dX5_reduceColumns_39 ?_
          refine lv_topl (fun v_9 ev_9 => ?_)
          have hR := hR v_9 ev_9
          refine x_cSLE (n := 2) (As := [.long v_6, .long v_9]) (rest := []) B h (wkX5_nearest l D cI cJ cB cZ ad k v_6 v_9 _ hR) ⟨⟨_, rfl⟩, by decide +kernel, Nat.le_of_ble_eq_true rfl, Nat.le_of_ble_eq_true rfl⟩ gX5_reduceColumns_X5_nearest rfl hl.1 rfl (Nat.le_of_ble_eq_true rfl) dX5_reduceColumns_40 ⟨Nat.le_of_ble_eq_true rfl, Nat.le_of_ble_eq_true rfl⟩ (fun r_10 _ H locs hR h => ?_)
          refine lv_lstore (lv' := [(4, .long r_10), (0, .ref (ad 11)), (1, .int (li 1)), (2, .int (li 2)), (3, .int (li 3))]) hx hb dX5_reduceColumns_43 hl (by decide) rfl (fun ls hl => ?_)
          refine lv_iload_n hx hb dX5_reduceColumns_45 rfl (lv_at hl 2 rfl) ?_
          refine lv_istore (lv' := [(6, .int (li 1)), (4, .long r_10), (0, .ref (ad 11)), (1, .int (li 1)), (2, .int (li 2)), (3, .int (li 3))]) hx hb dX5_reduceColumns_46 hl (by decide) rfl (fun ls hl => ?_)
          exact ih.2.2.1 t (uI li 6 (li 1)) (uI lj 4 r_10) H locs ls hR (lv_sub hl [2, 3, 4, 5, 1, 0] rfl) h
      · intro t li lj H locs ls hR hl h
        have hR : wbX5_reduceColumns_2 (wpX5_reduceColumns k) k t li lj Q := hR
        unfold wbX5_reduceColumns_2 at hR
        refine lv_iload hx hb dX5_reduceColumns_48 (lv_at hl 5 rfl) ?_
        refine lv_aload_n hx hb dX5_reduceColumns_50 rfl (lv_at hl 0 rfl) ?_
        refine x_get (ci := 5) (C := RX5) (T := TX5) (N := 6) (v := .int (t.1 10)) B h hin5 11 3 rfl rfl (by decide) (by decide +kernel) rfl dX5_reduceColumns_51 ?_
        refine lv_icmp_ge (tgt := 117) hx hb dX5_reduceColumns_54 (by decide) (fun c_11 => ?_) (fun c_11 => ?_)
        · have hR := hR.1 c_11
          exact ih.2.2.2.1 t li lj H locs ls hR (lv_sub hl [0, 1, 2, 3, 4, 5] rfl) h
        · have hR := hR.2 c_11
          refine lv_lload hx hb dX5_reduceColumns_57 (lv_at hl 4 rfl) ?_
          refine lv_lconst (v := 0) hx hb dX5_reduceColumns_59 (by decide) ?_
          refine W.lcmp hx hb dX5_reduceColumns_60 ?_
          refine lv_topi (fun v_12 ev_12 => ?_)
          have hR := hR v_12 ev_12
          refine lv_if_eq (tgt := 117) hx hb dX5_reduceColumns_61 (by decide) (fun c_13 => ?_) (fun c_13 => ?_)
          · have hR := hR.1 c_13
            exact ih.2.2.2.1 t li lj H locs ls hR (lv_sub hl [0, 1, 2, 3, 4, 5] rfl) h
          · have hR := hR.2 c_13
            refine lv_iload hx hb dX5_reduceColumns_64 (lv_at hl 5 rfl) ?_
            refine lv_aload_n hx hb dX5_reduceColumns_66 rfl (lv_at hl 0 rfl) ?_
            refine x_get (ci := 5) (C := RX5) (T := TX5) (N := 6) (v := .int (t.1 11)) B h hin5 11 4 rfl rfl (by decide) (by decide +kernel) rfl dX5_reduceColumns_67 ?_
            refine lv_imul hx hb dX5_reduceColumns_70 ?_
            refine lv_topi (fun v_14 ev_14 => ?_)
            have hR := hR v_14 ev_14
            refine lv_iload_n hx hb dX5_reduceColumns_71 rfl (lv_at hl 3 rfl) ?_
            refine lv_iadd hx hb dX5_reduceColumns_72 ?_
            refine lv_topi (fun v_15 ev_15 => ?_)
            have hR := hR v_15 ev_15
            refine lv_istore (lv' := [(7, .int v_15), (0, .ref (ad 11)), (1, .int (li 1)), (2, .int (li 2)), (3, .int (li 3)), (4, .long (lj 4)), (6, .int (li 6))]) hx hb dX5_reduceColumns_73 hl (by decide) rfl (fun ls hl => ?_)
            refine lv_aload_n hx hb dX5_reduceColumns_75 rfl (lv_at hl 1 rfl) ?_
            refine x_get (ci := 5) (C := RX5) (T := TX5) (N := 6) (v := .ref (ad 30)) B h hin5 11 0 rfl rfl (by decide) (by decide +kernel) rfl dX5_reduceColumns_76 ?_
            refine lv_iload hx hb dX5_reduceColumns_79 (lv_at hl 0 rfl) ?_
            refine lv_aload_n hx hb dX5_reduceColumns_81 rfl (lv_at hl 1 rfl) ?_
            refine lv_aload_n hx hb dX5_reduceColumns_82 rfl (lv_at hl 1 rfl) ?_
            refine x_get (ci := 5) (C := RX5) (T := TX5) (N := 6) (v := .ref (ad 30)) B h hin5 11 0 rfl rfl (by decide) (by decide +kernel) rfl dX5_reduceColumns_83 ?_
            refine lv_iload hx hb dX5_reduceColumns_86 (lv_at hl 0 rfl) ?_
            obtain ⟨hb_16, hR⟩ := hR
            refine va_lald (f := (t.2.2.2 7)) hx hb B.2.1 h.1 30 1 rfl rfl hb_16 dX5_reduceColumns_88 ?_
            refine lv_topl (fun v_16 ev_16 => ?_)
            have hR := hR v_16 ev_16
            refine lv_lload hx hb dX5_reduceColumns_89 (lv_at hl 5 rfl) ?_
            refine lv_aload_n hx hb dX5_reduceColumns_91 rfl (lv_at hl 1 rfl) ?_
            refine x_get (ci := 5) (C := RX5) (T := TX5) (N := 6) (v := .ref (ad 30)) B h hin5 11 0 rfl rfl (by decide) (by decide +kernel) rfl dX5_reduceColumns_92 ?_
            refine lv_iload hx hb dX5_reduceColumns_95 (lv_at hl 6 rfl) ?_
            refine lv_aload_n hx hb dX5_reduceColumns_97 rfl (lv_at hl 1 rfl) ?_
            refine x_get (ci := 5) (C := RX5) (T := TX5) (N := 6) (v := .int (t.1 11)) B h hin5 11 4 rfl rfl (by decide) (by decide +kernel) rfl dX5_reduceColumns_98 ?_
            refine lv_imul hx hb dX5_reduceColumns_101 ?_
            refine lv_topi (fun v_17 ev_17 => ?_)
            have hR := hR v_17 ev_17
            refine lv_iload_n hx hb dX5_reduceColumns_102 rfl (lv_at hl 2 rfl) ?_
            refine lv_iadd hx hb dX5_reduceColumns_103 ?_
            refine lv_topi (fun v_18 ev_18 => ?_)
            have hR := hR v_18 ev_18
            obtain ⟨hb_19, hR⟩ := hR
            refine va_lald (f := (t.2.2.2 7)) hx hb B.2.1 h.1 30 1 rfl rfl hb_19 dX5_reduceColumns_104 ?_
            refine lv_topl (fun v_19 ev_19 => ?_)
            have hR := hR v_19 ev_19
            refine lv_lmul hx hb dX5_reduceColumns_105 ?_
            refine lv_topl (fun v_20 ev_20 => ?_)
            have hR := hR v_20 ev_20
            refine lv_lsub hx hb dX5_reduceColumns_106 ?_
            refine lv_topl (fun v_21 ev_21 => ?_)
            have hR := hR v_21 ev_21
            refine x_cVLF (n := 1) (As := [.long v_21]) (rest := [.int v_15, .ref (ad 30)]) B h (wkX5_remainder l D cI cJ cB cZ ad k t v_21 _ hR) ⟨⟨_, rfl⟩, by decide +kernel, Nat.le_of_ble_eq_true rfl, Nat.le_of_ble_eq_true rfl⟩ gX5_reduceColumns_X5_remainder (show ((wX cI cJ cB cZ ad t) : va_W)[11]? = some (_, .inr (5, _)) from rfl) rfl rfl hl.1 rfl (Nat.le_of_ble_eq_true rfl) dX5_reduceColumns_107 ⟨Nat.le_of_ble_eq_true rfl, Nat.le_of_ble_eq_true rfl⟩ (fun r_22 t_22 H locs hR h => ?_)
            obtain ⟨hb_23, hR⟩ := hR
            refine z_last (f := (t_22.2.2.2 7)) B h 30 1 rfl rfl hb_23 dX5_reduceColumns_110 (fun H locs h => ?_)
            obtain ⟨t_23, et_23⟩ : ∃ v : XT, v = sB t_22 7 (vp_updL (t_22.2.2.2 7) v_15.toNatClampNeg r_22) := ⟨_, rfl⟩
            have hR := hR t_23 et_23
            have h : Hp D A s.heap (wX cI cJ cB cZ ad t_23) H locs := by rw [et_23]; exact h
            obtain ⟨v_24, ev_24⟩ : ∃ v : Int32, v = (li 6) + Int32.ofInt 1 := ⟨_, rfl⟩
            have hR := hR v_24 ev_24
            refine lv_iinc (v := v_24) (lv' := [(6, .int v_24), (7, .int v_15), (0, .ref (ad 11)), (1, .int (li 1)), (2, .int (li 2)), (3, .int (li 3)), (4, .long (lj 4))]) hx hb dX5_reduceColumns_111 hl (k := 6) rfl ev_24.symm (by decide) rfl (fun ls hl => ?_)
            refine lv_goto (tgt := 48) hx hb dX5_reduceColumns_114 (by decide) ?_
            exact ih.2.2.1 t_23 (uI li 6 v_24) lj H locs ls hR (lv_sub hl [2, 3, 4, 5, 6, 0] rfl) h
      · intro t li lj H locs ls hR hl h
        have hR : wbX5_reduceColumns_3 (wpX5_reduceColumns k) k t li lj Q := hR
        unfold wbX5_reduceColumns_3 at hR
        refine lv_iload_n hx hb dX5_reduceColumns_117 rfl (lv_at hl 2 rfl) ?_
        refine lv_if_eq (tgt := 143) hx hb dX5_reduceColumns_118 (by decide) (fun c_25 => ?_) (fun c_25 => ?_)
        · have hR := hR.1 c_25
          exact ih.2.2.2.2.1 t li lj H locs ls hR (lv_sub hl [0, 1, 2, 3, 4, 5] rfl) h
        · have hR := hR.2 c_25
          refine lv_aload_n hx hb dX5_reduceColumns_121 rfl (lv_at hl 0 rfl) ?_
          refine x_get (ci := 5) (C := RX5) (T := TX5) (N := 6) (v := .ref (ad 30)) B h hin5 11 0 rfl rfl (by decide) (by decide +kernel) rfl dX5_reduceColumns_122 ?_
          refine lv_iload_n hx hb dX5_reduceColumns_125 rfl (lv_at hl 1 rfl) ?_
          refine lv_aload_n hx hb dX5_reduceColumns_126 rfl (lv_at hl 0 rfl) ?_
          refine x_get (ci := 5) (C := RX5) (T := TX5) (N := 6) (v := .int (t.1 11)) B h hin5 11 4 rfl rfl (by decide) (by decide +kernel) rfl dX5_reduceColumns_127 ?_
          refine lv_imul hx hb dX5_reduceColumns_130 ?_
          refine lv_topi (fun v_26 ev_26 => ?_)
          have hR := hR v_26 ev_26
          refine lv_iload_n hx hb dX5_reduceColumns_131 rfl (lv_at hl 3 rfl) ?_
          refine lv_iadd hx hb dX5_reduceColumns_132 ?_
          refine lv_topi (fun v_27 ev_27 => ?_)
          have hR := hR v_27 ev_27
          obtain ⟨hb_28, hR⟩ := hR
          refine va_lald (f := (t.2.2.2 7)) hx hb B.2.1 h.1 30 1 rfl rfl hb_28 dX5_reduceColumns_133 ?_
          refine lv_topl (fun v_28 ev_28 => ?_)
          have hR := hR v_28 ev_28
          refine lv_lconst (v := 0) hx hb dX5_reduceColumns_134 (by decide) ?_
          refine W.lcmp hx hb dX5_reduceColumns_135 ?_
          refine lv_topi (fun v_29 ev_29 => ?_)
          have hR := hR v_29 ev_29
          refine lv_if_ne (tgt := 143) hx hb dX5_reduceColumns_136 (by decide) (fun c_30 => ?_) (fun c_30 => ?_)
          · have hR := hR.1 c_30
            exact ih.2.2.2.2.1 t li lj H locs ls hR (lv_sub hl [0, 1, 2, 3, 4, 5] rfl) h
          · have hR := hR.2 c_30
            refine lv_iconst (v := 1) hx hb dX5_reduceColumns_139 (by decide) ?_
            refine lv_goto (tgt := 144) hx hb dX5_reduceColumns_140 (by decide) ?_
            exact ih.2.2.2.2.2 t (uI li 100 1) lj H locs ls hR (lv_sub hl [0, 1, 2, 3, 4, 5] rfl) h
      · intro t li lj H locs ls hR hl h
        have hR : wbX5_reduceColumns_4 (wpX5_reduceColumns k) k t li lj Q := hR
        unfold wbX5_reduceColumns_4 at hR
        refine lv_iconst (v := 0) hx hb dX5_reduceColumns_143 (by decide) ?_
        exact ih.2.2.2.2.2 t (uI li 100 0) lj H locs ls hR (lv_sub hl [0, 1, 2, 3, 4, 5] rfl) h
      · intro t li lj H locs ls hR hl h
        have hR : wbX5_reduceColumns_5 (wpX5_reduceColumns k) k t li lj Q := hR
        unfold wbX5_reduceColumns_5 at hR
        refine lv_istore_n (lv' := [(2, .int (li 100)), (0, .ref (ad 11)), (1, .int (li 1)), (3, .int (li 3)), (4, .long (lj 4)), (6, .int (li 6))]) hx hb dX5_reduceColumns_144 rfl hl (by decide) rfl (fun ls hl => ?_)
        obtain ⟨v_31, ev_31⟩ : ∃ v : Int32, v = (li 3) + Int32.ofInt 1 := ⟨_, rfl⟩
        have hR := hR v_31 ev_31
        refine lv_iinc (v := v_31) (lv' := [(3, .int v_31), (2, .int (li 100)), (0, .ref (ad 11)), (1, .int (li 1)), (4, .long (lj 4)), (6, .int (li 6))]) hx hb dX5_reduceColumns_145 hl (k := 3) rfl ev_31.symm (by decide) rfl (fun ls hl => ?_)
        refine lv_goto (tgt := 6) hx hb dX5_reduceColumns_148 (by decide) ?_
        exact ih.2.1 t (uI (uI li 2 (li 100)) 3 v_31) lj H locs ls hR (lv_sub hl [2, 3, 1, 0] rfl) h
  exact (main k).1 t _ _ s.heap [] ls hR hl h
def wbX5_gcd_0 (rec : Nat → (Nat → Int32) → (Nat → Int64) → (Int64 → Prop) → Prop) (k : Nat) (li : Nat → Int32) (lj : Nat → Int64) (Q : Int64 → Prop) : Prop :=
  (∀ v_1 : Int64, v_1 = (if 0 < (lj 0) then (lj 0) else -(lj 0)) → (∀ v_2 : Int64, v_2 = (if 0 < (lj 2) then (lj 2) else -(lj 2)) → rec 1 (uI li 8 0) (uI (uI lj 4 v_1) 6 v_2) Q))
def wbX5_gcd_1 (rec : Nat → (Nat → Int32) → (Nat → Int64) → (Int64 → Prop) → Prop) (k : Nat) (li : Nat → Int32) (lj : Nat → Int64) (Q : Int64 → Prop) : Prop :=
  (((1000 : Int32) ≤ (li 8)) → rec 2 li lj Q) ∧ (¬ ((1000 : Int32) ≤ (li 8)) → (∀ v_4 : Int32, v_4 = (lg_cmp (lj 6) 0) → ((v_4 = 0) → rec 2 li lj Q) ∧ (¬ (v_4 = 0) → ((¬ (lj 6) = 0) ∧ (∀ v_6 : Int64, v_6 = ((lj 4) - (lj 4) / (lj 6) * (lj 6)) → (∀ v_7 : Int32, v_7 = (li 8) + Int32.ofInt 1 → rec 1 (uI li 8 v_7) (uI (uI lj 4 (lj 6)) 6 v_6) Q))))))
def wbX5_gcd_2 (rec : Nat → (Nat → Int32) → (Nat → Int64) → (Int64 → Prop) → Prop) (k : Nat) (li : Nat → Int32) (lj : Nat → Int64) (Q : Int64 → Prop) : Prop :=
  Q (lj 4)
def wpX5_gcd : Nat → Nat → (Nat → Int32) → (Nat → Int64) → (Int64 → Prop) → Prop
  | 0, _, _, _, _ => False
  | k + 1, 0, li, lj, Q => wbX5_gcd_0 (wpX5_gcd k) k li lj Q
  | k + 1, 1, li, lj, Q => wbX5_gcd_1 (wpX5_gcd k) k li lj Q
  | k + 1, 2, li, lj, Q => wbX5_gcd_2 (wpX5_gcd k) k li lj Q
  | _ + 1, _, _, _, _ => False
def wqX5_gcd (k : Nat) (a0 : Int64) (a1 : Int64) (Q : Int64 → Prop) : Prop := wpX5_gcd k 0 (fun _ => 0) (uI (uI (fun _ => 0) 0 a0) 2 a1) Q
set_option maxHeartbeats 8000000 in
set_option maxRecDepth 100000 in
theorem wkX5_gcd (l : Launch) (D : va_G) (cI cJ cB cZ : ClassId) (ad : Nat → Nat) (k : Nat) (a0 : Int64) (a1 : Int64) (Q : Int64 → Prop) (hR : wqX5_gcd k a0 a1 Q) : MetL l yX5_gcd wsX5_gcd 1 24 0 0 D (TYS cI cJ cB cZ) [] [.long a0, .long a1] (fun r _ => Q r) (fun _ : Unit => []) := by
  refine x_startL (ty := .long) (cc := cX5_gcd) (by decide) rfl (Nat.le_of_ble_eq_true rfl) ?_
  intro p e s m args below meth c A ls B hr hnm h hl
  have hx := B.1.1
  have hb := B.1.2.1
  have hml := B.1.2.2.1
  have hts := B.1.2.2.2.2
  have hown : s.vm.findClass RX5 = some m.cls := B.1.2.2.2.1
  have main : ∀ k : Nat, (∀ (li : Nat → Int32) (lj : Nat → Int64) (H : Heap) (locs : List Loc) (ls : Array Slot), wpX5_gcd k 0 li lj Q → lv_has ls 11 [(0, .long (lj 0)), (2, .long (lj 2))] → Hp D A s.heap [] H locs → W p l e { frames := 1, cells := 0, slots := 0, locals := 24 } s m args below meth c H locs 0 0 (MQ below (va_Ql (fun r _ => Q r) (fun u t => xEnd D ((fun _ : Unit => []) u) A t) A) args s 0 0 A) (F0 m 0 ls [])) ∧
      (∀ (li : Nat → Int32) (lj : Nat → Int64) (H : Heap) (locs : List Loc) (ls : Array Slot), wpX5_gcd k 1 li lj Q → lv_has ls 11 [(0, .long (lj 0)), (2, .long (lj 2)), (4, .long (lj 4)), (6, .long (lj 6)), (8, .int (li 8))] → Hp D A s.heap [] H locs → W p l e { frames := 1, cells := 0, slots := 0, locals := 24 } s m args below meth c H locs 0 0 (MQ below (va_Ql (fun r _ => Q r) (fun u t => xEnd D ((fun _ : Unit => []) u) A t) A) args s 0 0 A) (F0 m 15 ls [])) ∧
      (∀ (li : Nat → Int32) (lj : Nat → Int64) (H : Heap) (locs : List Loc) (ls : Array Slot), wpX5_gcd k 2 li lj Q → lv_has ls 11 [(0, .long (lj 0)), (2, .long (lj 2)), (4, .long (lj 4)), (6, .long (lj 6)), (8, .int (li 8))] → Hp D A s.heap [] H locs → W p l e { frames := 1, cells := 0, slots := 0, locals := 24 } s m args below meth c H locs 0 0 (MQ below (va_Ql (fun r _ => Q r) (fun u t => xEnd D ((fun _ : Unit => []) u) A t) A) args s 0 0 A) (F0 m 51 ls [])) := by
    intro k
    induction k with
    | zero => exact ⟨fun _ _ _ _ _ hR => False.elim hR, fun _ _ _ _ _ hR => False.elim hR, fun _ _ _ _ _ hR => False.elim hR⟩
    | succ k ih =>
      refine ⟨?_, ?_, ?_⟩
      · intro li lj H locs ls hR hl h
        have hR : wbX5_gcd_0 (wpX5_gcd k) k li lj Q := hR
        unfold wbX5_gcd_0 at hR
        refine lv_lload_n hx hb dX5_gcd_0 rfl (lv_at hl 0 rfl) ?_
        refine va_mabs_long hx hb (hml.trans hl.1.symm) hown (hts (.methodLink RX5 88 Lib.MathLoose.abs_long.x) (by decide +kernel)) (hts (.static Lib.MathLoose.abs_long.x) (by decide +kernel)) (hts (.initialized "java/lang/Math") (by decide +kernel)) (hts (.code Lib.MathLoose.abs_long.x Lib.MathLoose.abs_long.code 2 (some .long)) (by decide +kernel)) (Nat.le_of_ble_eq_true rfl) (Nat.le_of_ble_eq_true rfl) (Nat.le_of_ble_eq_true rfl) (Nat.le_of_ble_eq_true rfl) dX5_gcd_1 ?_
        refine lv_topl (fun v_1 ev_1 => ?_)
        have hR := hR v_1 ev_1
        refine lv_lstore (lv' := [(4, .long v_1), (0, .long (lj 0)), (2, .long (lj 2))]) hx hb dX5_gcd_4 hl (by decide) rfl (fun ls hl => ?_)
        refine lv_lload_n hx hb dX5_gcd_6 rfl (lv_at hl 2 rfl) ?_
        refine va_mabs_long hx hb (hml.trans hl.1.symm) hown (hts (.methodLink RX5 88 Lib.MathLoose.abs_long.x) (by decide +kernel)) (hts (.static Lib.MathLoose.abs_long.x) (by decide +kernel)) (hts (.initialized "java/lang/Math") (by decide +kernel)) (hts (.code Lib.MathLoose.abs_long.x Lib.MathLoose.abs_long.code 2 (some .long)) (by decide +kernel)) (Nat.le_of_ble_eq_true rfl) (Nat.le_of_ble_eq_true rfl) (Nat.le_of_ble_eq_true rfl) (Nat.le_of_ble_eq_true rfl) dX5_gcd_7 ?_
        refine lv_topl (fun v_2 ev_2 => ?_)
        have hR := hR v_2 ev_2
        refine lv_lstore (lv' := [(6, .long v_2), (4, .long v_1), (0, .long (lj 0)), (2, .long (lj 2))]) hx hb dX5_gcd_10 hl (by decide) rfl (fun ls hl => ?_)
        refine lv_iconst (v := 0) hx hb dX5_gcd_12 (by decide) ?_
        refine lv_istore (lv' := [(8, .int 0), (6, .long v_2), (4, .long v_1), (0, .long (lj 0)), (2, .long (lj 2))]) hx hb dX5_gcd_13 hl (by decide) rfl (fun ls hl => ?_)
        exact ih.2.1 (uI li 8 0) (uI (uI lj 4 v_1) 6 v_2) H locs ls hR (lv_sub hl [3, 4, 2, 1, 0] rfl) h
      · intro li lj H locs ls hR hl h
        have hR : wbX5_gcd_1 (wpX5_gcd k) k li lj Q := hR
        unfold wbX5_gcd_1 at hR
        refine lv_iload hx hb dX5_gcd_15 (lv_at hl 4 rfl) ?_
        refine lv_sipush (v := 1000) hx hb dX5_gcd_17 (by decide) ?_
        refine lv_icmp_ge (tgt := 51) hx hb dX5_gcd_20 (by decide) (fun c_3 => ?_) (fun c_3 => ?_)
        · have hR := hR.1 c_3
          exact ih.2.2 li lj H locs ls hR (lv_sub hl [0, 1, 2, 3, 4] rfl) h
        · have hR := hR.2 c_3
          refine lv_lload hx hb dX5_gcd_23 (lv_at hl 3 rfl) ?_
          refine lv_lconst (v := 0) hx hb dX5_gcd_25 (by decide) ?_
          refine W.lcmp hx hb dX5_gcd_26 ?_
          refine lv_topi (fun v_4 ev_4 => ?_)
          have hR := hR v_4 ev_4
          refine lv_if_eq (tgt := 51) hx hb dX5_gcd_27 (by decide) (fun c_5 => ?_) (fun c_5 => ?_)
          · have hR := hR.1 c_5
            exact ih.2.2 li lj H locs ls hR (lv_sub hl [0, 1, 2, 3, 4] rfl) h
          · have hR := hR.2 c_5
            refine lv_lload hx hb dX5_gcd_30 (lv_at hl 2 rfl) ?_
            refine lv_lload hx hb dX5_gcd_32 (lv_at hl 3 rfl) ?_
            obtain ⟨hd_6, hR⟩ := hR
            refine lv_lrem hx hb dX5_gcd_34 hd_6 ?_
            refine lv_topl (fun v_6 ev_6 => ?_)
            have hR := hR v_6 ev_6
            refine lv_lstore (lv' := [(9, .long v_6), (0, .long (lj 0)), (2, .long (lj 2)), (4, .long (lj 4)), (6, .long (lj 6)), (8, .int (li 8))]) hx hb dX5_gcd_35 hl (by decide) rfl (fun ls hl => ?_)
            refine lv_lload hx hb dX5_gcd_37 (lv_at hl 4 rfl) ?_
            refine lv_lstore (lv' := [(4, .long (lj 6)), (9, .long v_6), (0, .long (lj 0)), (2, .long (lj 2)), (6, .long (lj 6)), (8, .int (li 8))]) hx hb dX5_gcd_39 hl (by decide) rfl (fun ls hl => ?_)
            refine lv_lload hx hb dX5_gcd_41 (lv_at hl 1 rfl) ?_
            refine lv_lstore (lv' := [(6, .long v_6), (4, .long (lj 6)), (9, .long v_6), (0, .long (lj 0)), (2, .long (lj 2)), (8, .int (li 8))]) hx hb dX5_gcd_43 hl (by decide) rfl (fun ls hl => ?_)
            obtain ⟨v_7, ev_7⟩ : ∃ v : Int32, v = (li 8) + Int32.ofInt 1 := ⟨_, rfl⟩
            have hR := hR v_7 ev_7
            refine lv_iinc (v := v_7) (lv' := [(8, .int v_7), (6, .long v_6), (4, .long (lj 6)), (9, .long v_6), (0, .long (lj 0)), (2, .long (lj 2))]) hx hb dX5_gcd_45 hl (k := 5) rfl ev_7.symm (by decide) rfl (fun ls hl => ?_)
            refine lv_goto (tgt := 15) hx hb dX5_gcd_48 (by decide) ?_
            exact ih.2.1 (uI li 8 v_7) (uI (uI lj 4 (lj 6)) 6 v_6) H locs ls hR (lv_sub hl [4, 5, 2, 1, 0] rfl) h
      · intro li lj H locs ls hR hl h
        have hR : wbX5_gcd_2 (wpX5_gcd k) k li lj Q := hR
        unfold wbX5_gcd_2 at hR
        refine lv_lload hx hb dX5_gcd_51 (lv_at hl 2 rfl) ?_
        exact x_lret (w1 := (fun _ : Unit => [])) () B h hr hR dX5_gcd_53
  exact (main k).1 _ _ s.heap [] ls hR hl h
set_option maxRecDepth 20000 in
theorem ggX5_clearCorner_X5_leastCell : GoodIn wsX5_clearCorner wsX5_leastCell := goodIn_r _ [8, 9, 1, 3, 10, 11, 12, 13, 48, 49, 50, 51, 52, 53] (by decide +kernel) (by decide +kernel)
set_option maxRecDepth 20000 in
theorem gX5_clearCorner_X5_leastCell : GoodIn wsX5_clearCorner (wsV RX5 74 RX5 yX5_leastCell wsX5_leastCell) := goodIn_app (goodIn_of _ (by decide +kernel)) ggX5_clearCorner_X5_leastCell
set_option maxRecDepth 20000 in
theorem ggX5_clearCorner_X5_swapRows : GoodIn wsX5_clearCorner wsX5_swapRows := goodIn_r _ [17, 1, 48, 49, 50, 51, 52, 53] (by decide +kernel) (by decide +kernel)
set_option maxRecDepth 20000 in
theorem gX5_clearCorner_X5_swapRows : GoodIn wsX5_clearCorner (wsV RX5 38 RX5 yX5_swapRows wsX5_swapRows) := goodIn_app (goodIn_of _ (by decide +kernel)) ggX5_clearCorner_X5_swapRows
set_option maxRecDepth 20000 in
theorem ggX5_clearCorner_X5_swapColumns : GoodIn wsX5_clearCorner wsX5_swapColumns := goodIn_r _ [21, 9, 3, 1, 48, 49, 50, 51, 52, 53] (by decide +kernel) (by decide +kernel)
set_option maxRecDepth 20000 in
theorem gX5_clearCorner_X5_swapColumns : GoodIn wsX5_clearCorner (wsV RX5 78 RX5 yX5_swapColumns wsX5_swapColumns) := goodIn_app (goodIn_of _ (by decide +kernel)) ggX5_clearCorner_X5_swapColumns
set_option maxRecDepth 20000 in
theorem ggX5_clearCorner_X5_reduceRows : GoodIn wsX5_clearCorner wsX5_reduceRows := goodIn_r _ [25, 9, 3, 1, 26, 27, 7, 28, 10, 11, 12, 13, 29, 30, 31, 32, 33, 34, 35, 36, 37, 2, 38, 39, 40, 48, 49, 50, 51, 52, 53] (by decide +kernel) (by decide +kernel)
set_option maxRecDepth 20000 in
theorem gX5_clearCorner_X5_reduceRows : GoodIn wsX5_clearCorner (wsV RX5 81 RX5 yX5_reduceRows wsX5_reduceRows) := goodIn_app (goodIn_of _ (by decide +kernel)) ggX5_clearCorner_X5_reduceRows
set_option maxRecDepth 20000 in
theorem ggX5_clearCorner_X5_reduceColumns : GoodIn wsX5_clearCorner wsX5_reduceColumns := goodIn_r _ [44, 1, 3, 9, 26, 27, 7, 28, 10, 11, 12, 13, 29, 30, 31, 32, 33, 34, 35, 36, 37, 2, 38, 39, 40, 48, 49, 50, 51, 52, 53] (by decide +kernel) (by decide +kernel)
set_option maxRecDepth 20000 in
theorem gX5_clearCorner_X5_reduceColumns : GoodIn wsX5_clearCorner (wsV RX5 85 RX5 yX5_reduceColumns wsX5_reduceColumns) := goodIn_app (goodIn_of _ (by decide +kernel)) ggX5_clearCorner_X5_reduceColumns
set_option maxRecDepth 20000 in
theorem ggX5_clearCorner_X5_gcd : GoodIn wsX5_clearCorner wsX5_gcd := goodIn_r _ [47, 10, 11, 12, 13] (by decide +kernel) (by decide +kernel)
set_option maxRecDepth 20000 in
theorem gX5_clearCorner_X5_gcd : GoodIn wsX5_clearCorner (va_wsS RX5 70 yX5_gcd wsX5_gcd) := goodIn_app (goodIn_of _ (by decide +kernel)) ggX5_clearCorner_X5_gcd
def wbX5_clearCorner_0 (rec : Nat → XT → (Nat → Int32) → (Nat → Int64) → (Int64 → XT → Prop) → Prop) (k : Nat) (t : XT) (li : Nat → Int32) (lj : Nat → Int64) (Q : Int64 → XT → Prop) : Prop :=
  rec 1 t (uI li 2 0) lj Q
def wbX5_clearCorner_1 (rec : Nat → XT → (Nat → Int32) → (Nat → Int64) → (Int64 → XT → Prop) → Prop) (k : Nat) (t : XT) (li : Nat → Int32) (lj : Nat → Int64) (Q : Int64 → XT → Prop) : Prop :=
  (((1000 : Int32) ≤ (li 2)) → Q (t.2.1 7) t) ∧ (¬ ((1000 : Int32) ≤ (li 2)) → (wqX5_leastCell k t (li 1) (fun r_2 t_2 => ((r_2 = (-1)) → rec 2 t_2 (uI li 3 r_2) lj Q) ∧ (¬ (r_2 = (-1)) → (((0 : Int32) < (t_2.1 11)) → ((¬ (t_2.1 11) = 0) ∧ (∀ v_5 : Int32, v_5 = (r_2 / (t_2.1 11)) → (wqX5_swapRows_c30 k t_2 (li 1) v_5 (fun t_6 => ((¬ (t_6.1 11) = 0) ∧ (∀ v_7 : Int32, v_7 = (r_2 - r_2 / (t_6.1 11) * (t_6.1 11)) → (wqX5_swapColumns k t_6 (li 1) v_7 (fun t_8 => (wqX5_reduceRows k t_8 (li 1) (fun r_9 t_9 => (wqX5_reduceColumns k t_9 (li 1) (fun r_10 t_10 => ((r_9 = 0) → rec 3 t_10 (uI (uI (uI li 3 r_2) 4 r_9) 5 r_10) lj Q) ∧ (¬ (r_9 = 0) → ((r_10 = 0) → rec 3 t_10 (uI (uI (uI li 3 r_2) 4 r_9) 5 r_10) lj Q) ∧ (¬ (r_10 = 0) → (∀ v_13 : Int32, v_13 = ((li 1) * (t_10.1 11)) → (∀ v_14 : Int32, v_14 = (v_13 + (li 1)) → (vp_in v_14 900 ∧ (∀ v_15 : Int64, v_15 = (t_10.2.2.2 7) v_14.toNatClampNeg → (wqX5_gcd k v_15 (t_10.2.1 7) (fun r_16 => Q r_16 t_10))))))))))))))))))))) ∧ (¬ ((0 : Int32) < (t_2.1 11)) → rec 2 t_2 (uI li 3 r_2) lj Q)))))
def wbX5_clearCorner_2 (rec : Nat → XT → (Nat → Int32) → (Nat → Int64) → (Int64 → XT → Prop) → Prop) (k : Nat) (t : XT) (li : Nat → Int32) (lj : Nat → Int64) (Q : Int64 → XT → Prop) : Prop :=
  Q (t.2.1 7) t
def wbX5_clearCorner_3 (rec : Nat → XT → (Nat → Int32) → (Nat → Int64) → (Int64 → XT → Prop) → Prop) (k : Nat) (t : XT) (li : Nat → Int32) (lj : Nat → Int64) (Q : Int64 → XT → Prop) : Prop :=
  (∀ v_17 : Int32, v_17 = (li 2) + Int32.ofInt 1 → rec 1 t (uI li 2 v_17) lj Q)
def wpX5_clearCorner : Nat → Nat → XT → (Nat → Int32) → (Nat → Int64) → (Int64 → XT → Prop) → Prop
  | 0, _, _, _, _, _ => False
  | k + 1, 0, t, li, lj, Q => wbX5_clearCorner_0 (wpX5_clearCorner k) k t li lj Q
  | k + 1, 1, t, li, lj, Q => wbX5_clearCorner_1 (wpX5_clearCorner k) k t li lj Q
  | k + 1, 2, t, li, lj, Q => wbX5_clearCorner_2 (wpX5_clearCorner k) k t li lj Q
  | k + 1, 3, t, li, lj, Q => wbX5_clearCorner_3 (wpX5_clearCorner k) k t li lj Q
  | _ + 1, _, _, _, _, _ => False
def wqX5_clearCorner (k : Nat) (t : XT) (a1 : Int32) (Q : Int64 → XT → Prop) : Prop := wpX5_clearCorner k 0 t (uI (fun _ => 0) 1 a1) (fun _ => 0) Q
set_option maxHeartbeats 8000000 in
set_option maxRecDepth 100000 in
theorem wkX5_clearCorner (l : Launch) (D : va_G) (cI cJ cB cZ : ClassId) (ad : Nat → Nat) (k : Nat) (t : XT) (a1 : Int32) (Q : Int64 → XT → Prop) (hR : wqX5_clearCorner k t a1 Q) : MetL l yX5_clearCorner wsX5_clearCorner 3 79 0 0 D (TYS cI cJ cB cZ) (wX cI cJ cB cZ ad t) [.ref (ad 11), .int a1] (fun r u => Q r u) (fun u : XT => (wX cI cJ cB cZ ad u)) := by
  refine x_startL (ty := .long) (cc := cX5_clearCorner) (by decide) rfl (Nat.le_of_ble_eq_true rfl) ?_
  intro p e s m args below meth c A ls B hr hnm h hl
  have hx := B.1.1
  have hb := B.1.2.1
  have hml := B.1.2.2.1
  have hts := B.1.2.2.2.2
  have hown : s.vm.findClass RX5 = some m.cls := B.1.2.2.2.1
  have hin5 : ∀ w ∈ u_ws RX5 TX5 6, w ∈ wsX5_clearCorner := by decide +kernel
  have main : ∀ k : Nat, (∀ (t : XT) (li : Nat → Int32) (lj : Nat → Int64) (H : Heap) (locs : List Loc) (ls : Array Slot), wpX5_clearCorner k 0 t li lj Q → lv_has ls 6 [(0, .ref (ad 11)), (1, .int (li 1))] → Hp D A s.heap (wX cI cJ cB cZ ad t) H locs → W p l e { frames := 3, cells := 0, slots := 0, locals := 79 } s m args below meth c H locs 0 0 (MQ below (va_Ql (fun r u => Q r u) (fun u t => xEnd D ((fun u : XT => (wX cI cJ cB cZ ad u)) u) A t) A) args s 0 0 A) (F0 m 0 ls [])) ∧
      (∀ (t : XT) (li : Nat → Int32) (lj : Nat → Int64) (H : Heap) (locs : List Loc) (ls : Array Slot), wpX5_clearCorner k 1 t li lj Q → lv_has ls 6 [(0, .ref (ad 11)), (1, .int (li 1)), (2, .int (li 2))] → Hp D A s.heap (wX cI cJ cB cZ ad t) H locs → W p l e { frames := 3, cells := 0, slots := 0, locals := 79 } s m args below meth c H locs 0 0 (MQ below (va_Ql (fun r u => Q r u) (fun u t => xEnd D ((fun u : XT => (wX cI cJ cB cZ ad u)) u) A t) A) args s 0 0 A) (F0 m 2 ls [])) ∧
      (∀ (t : XT) (li : Nat → Int32) (lj : Nat → Int64) (H : Heap) (locs : List Loc) (ls : Array Slot), wpX5_clearCorner k 2 t li lj Q → lv_has ls 6 [(0, .ref (ad 11)), (1, .int (li 1)), (2, .int (li 2)), (3, .int (li 3))] → Hp D A s.heap (wX cI cJ cB cZ ad t) H locs → W p l e { frames := 3, cells := 0, slots := 0, locals := 79 } s m args below meth c H locs 0 0 (MQ below (va_Ql (fun r u => Q r u) (fun u t => xEnd D ((fun u : XT => (wX cI cJ cB cZ ad u)) u) A t) A) args s 0 0 A) (F0 m 27 ls [])) ∧
      (∀ (t : XT) (li : Nat → Int32) (lj : Nat → Int64) (H : Heap) (locs : List Loc) (ls : Array Slot), wpX5_clearCorner k 3 t li lj Q → lv_has ls 6 [(0, .ref (ad 11)), (1, .int (li 1)), (2, .int (li 2)), (3, .int (li 3)), (4, .int (li 4)), (5, .int (li 5))] → Hp D A s.heap (wX cI cJ cB cZ ad t) H locs → W p l e { frames := 3, cells := 0, slots := 0, locals := 79 } s m args below meth c H locs 0 0 (MQ below (va_Ql (fun r u => Q r u) (fun u t => xEnd D ((fun u : XT => (wX cI cJ cB cZ ad u)) u) A t) A) args s 0 0 A) (F0 m 103 ls [])) := by
    intro k
    induction k with
    | zero => exact ⟨fun _ _ _ _ _ _ hR => False.elim hR, fun _ _ _ _ _ _ hR => False.elim hR, fun _ _ _ _ _ _ hR => False.elim hR, fun _ _ _ _ _ _ hR => False.elim hR⟩
    | succ k ih =>
      refine ⟨?_, ?_, ?_, ?_⟩
      · intro t li lj H locs ls hR hl h
        have hR : wbX5_clearCorner_0 (wpX5_clearCorner k) k t li lj Q := hR
        unfold wbX5_clearCorner_0 at hR
        refine lv_iconst (v := 0) hx hb dX5_clearCorner_0 (by decide) ?_
        refine lv_istore_n (lv' := [(2, .int 0), (0, .ref (ad 11)), (1, .int (li 1))]) hx hb dX5_clearCorner_1 rfl hl (by decide) rfl (fun ls hl => ?_)
        exact ih.2.1 t (uI li 2 0) lj H locs ls hR (lv_sub hl [1, 2, 0] rfl) h
      · intro t li lj H locs ls hR hl h
        have hR : wbX5_clearCorner_1 (wpX5_clearCorner k) k t li lj Q := hR
        unfold wbX5_clearCorner_1 at hR
        refine lv_iload_n hx hb dX5_clearCorner_2 rfl (lv_at hl 2 rfl) ?_
        refine lv_sipush (v := 1000) hx hb dX5_clearCorner_3 (by decide) ?_
        refine lv_icmp_ge (tgt := 109) hx hb dX5_clearCorner_6 (by decide) (fun c_1 => ?_) (fun c_1 => ?_)
        · have hR := hR.1 c_1
          refine lv_aload_n hx hb dX5_clearCorner_109 rfl (lv_at hl 0 rfl) ?_
          refine x_get (ci := 5) (C := RX5) (T := TX5) (N := 6) (v := .long (t.2.1 7)) B h hin5 11 5 rfl rfl (by decide) (by decide +kernel) rfl dX5_clearCorner_110 ?_
          exact x_lret (w1 := (fun u : XT => (wX cI cJ cB cZ ad u))) t B h hr hR dX5_clearCorner_113
        · have hR := hR.2 c_1
          refine lv_aload_n hx hb dX5_clearCorner_9 rfl (lv_at hl 0 rfl) ?_
          refine lv_iload_n hx hb dX5_clearCorner_10 rfl (lv_at hl 1 rfl) ?_
          refine x_cVIF (n := 1) (As := [.int (li 1)]) (rest := []) B h (wkX5_leastCell l D cI cJ cB cZ ad k t (li 1) _ hR) ⟨⟨_, rfl⟩, by decide +kernel, Nat.le_of_ble_eq_true rfl, Nat.le_of_ble_eq_true rfl⟩ gX5_clearCorner_X5_leastCell (show ((wX cI cJ cB cZ ad t) : va_W)[11]? = some (_, .inr (5, _)) from rfl) rfl rfl hl.1 rfl (Nat.le_of_ble_eq_true rfl) dX5_clearCorner_11 ⟨Nat.le_of_ble_eq_true rfl, Nat.le_of_ble_eq_true rfl⟩ (fun r_2 t_2 H locs hR h => ?_)
          refine lv_istore_n (lv' := [(3, .int r_2), (0, .ref (ad 11)), (1, .int (li 1)), (2, .int (li 2))]) hx hb dX5_clearCorner_14 rfl hl (by decide) rfl (fun ls hl => ?_)
          refine lv_iload_n hx hb dX5_clearCorner_15 rfl (lv_at hl 0 rfl) ?_
          refine lv_iconst (v := (-1)) hx hb dX5_clearCorner_16 (by decide) ?_
          refine lv_icmp_eq (tgt := 27) hx hb dX5_clearCorner_17 (by decide) (fun c_3 => ?_) (fun c_3 => ?_)
          · have hR := hR.1 c_3
            exact ih.2.2.1 t_2 (uI li 3 r_2) lj H locs ls hR (lv_sub hl [1, 2, 3, 0] rfl) h
          · have hR := hR.2 c_3
            refine lv_aload_n hx hb dX5_clearCorner_20 rfl (lv_at hl 1 rfl) ?_
            refine x_get (ci := 5) (C := RX5) (T := TX5) (N := 6) (v := .int (t_2.1 11)) B h hin5 11 4 rfl rfl (by decide) (by decide +kernel) rfl dX5_clearCorner_21 ?_
            refine lv_if_gt (tgt := 32) hx hb dX5_clearCorner_24 (by decide) (fun c_4 => ?_) (fun c_4 => ?_)
            · have hR := hR.1 c_4
              refine lv_aload_n hx hb dX5_clearCorner_32 rfl (lv_at hl 1 rfl) ?_
              refine lv_aload_n hx hb dX5_clearCorner_33 rfl (lv_at hl 1 rfl) ?_
              refine x_get (ci := 5) (C := RX5) (T := TX5) (N := 6) (v := .ref (ad 30)) B h hin5 11 0 rfl rfl (by decide) (by decide +kernel) rfl dX5_clearCorner_34 ?_
              refine lv_iload_n hx hb dX5_clearCorner_37 rfl (lv_at hl 2 rfl) ?_
              refine lv_iload_n hx hb dX5_clearCorner_38 rfl (lv_at hl 0 rfl) ?_
              refine lv_aload_n hx hb dX5_clearCorner_39 rfl (lv_at hl 1 rfl) ?_
              refine x_get (ci := 5) (C := RX5) (T := TX5) (N := 6) (v := .int (t_2.1 11)) B h hin5 11 4 rfl rfl (by decide) (by decide +kernel) rfl dX5_clearCorner_40 ?_
              obtain ⟨hd_5, hR⟩ := hR
              refine lv_idiv hx hb dX5_clearCorner_43 hd_5 ?_
              refine lv_topi (fun v_5 ev_5 => ?_)
              have hR := hR v_5 ev_5
              refine x_cVVF (n := 3) (As := [.ref (ad 30), .int (li 1), .int v_5]) (rest := []) B h (wkX5_swapRows_c30 l D cI cJ cB cZ ad k t_2 (li 1) v_5 _ hR) ⟨⟨_, rfl⟩, by decide +kernel, Nat.le_of_ble_eq_true rfl, Nat.le_of_ble_eq_true rfl⟩ gX5_clearCorner_X5_swapRows (show ((wX cI cJ cB cZ ad t_2) : va_W)[11]? = some (_, .inr (5, _)) from rfl) rfl rfl hl.1 rfl (Nat.le_of_ble_eq_true rfl) dX5_clearCorner_44 ⟨Nat.le_of_ble_eq_true rfl, Nat.le_of_ble_eq_true rfl⟩ (fun t_6 H locs hR h => ?_)
              refine lv_aload_n hx hb dX5_clearCorner_47 rfl (lv_at hl 1 rfl) ?_
              refine lv_iload_n hx hb dX5_clearCorner_48 rfl (lv_at hl 2 rfl) ?_
              refine lv_iload_n hx hb dX5_clearCorner_49 rfl (lv_at hl 0 rfl) ?_
              refine lv_aload_n hx hb dX5_clearCorner_50 rfl (lv_at hl 1 rfl) ?_
              refine x_get (ci := 5) (C := RX5) (T := TX5) (N := 6) (v := .int (t_6.1 11)) B h hin5 11 4 rfl rfl (by decide) (by decide +kernel) rfl dX5_clearCorner_51 ?_
              obtain ⟨hd_7, hR⟩ := hR
              refine lv_irem hx hb dX5_clearCorner_54 hd_7 ?_
              refine lv_topi (fun v_7 ev_7 => ?_)
              have hR := hR v_7 ev_7
              refine x_cVVF (n := 2) (As := [.int (li 1), .int v_7]) (rest := []) B h (wkX5_swapColumns l D cI cJ cB cZ ad k t_6 (li 1) v_7 _ hR) ⟨⟨_, rfl⟩, by decide +kernel, Nat.le_of_ble_eq_true rfl, Nat.le_of_ble_eq_true rfl⟩ gX5_clearCorner_X5_swapColumns (show ((wX cI cJ cB cZ ad t_6) : va_W)[11]? = some (_, .inr (5, _)) from rfl) rfl rfl hl.1 rfl (Nat.le_of_ble_eq_true rfl) dX5_clearCorner_55 ⟨Nat.le_of_ble_eq_true rfl, Nat.le_of_ble_eq_true rfl⟩ (fun t_8 H locs hR h => ?_)
              refine lv_aload_n hx hb dX5_clearCorner_58 rfl (lv_at hl 1 rfl) ?_
              refine lv_iload_n hx hb dX5_clearCorner_59 rfl (lv_at hl 2 rfl) ?_
              refine x_cVIF (n := 1) (As := [.int (li 1)]) (rest := []) B h (wkX5_reduceRows l D cI cJ cB cZ ad k t_8 (li 1) _ hR) ⟨⟨_, rfl⟩, by decide +kernel, Nat.le_of_ble_eq_true rfl, Nat.le_of_ble_eq_true rfl⟩ gX5_clearCorner_X5_reduceRows (show ((wX cI cJ cB cZ ad t_8) : va_W)[11]? = some (_, .inr (5, _)) from rfl) rfl rfl hl.1 rfl (Nat.le_of_ble_eq_true rfl) dX5_clearCorner_60 ⟨Nat.le_of_ble_eq_true rfl, Nat.le_of_ble_eq_true rfl⟩ (fun r_9 t_9 H locs hR h => ?_)
              refine lv_istore (lv' := [(4, .int r_9), (3, .int r_2), (0, .ref (ad 11)), (1, .int (li 1)), (2, .int (li 2))]) hx hb dX5_clearCorner_63 hl (by decide) rfl (fun ls hl => ?_)
              refine lv_aload_n hx hb dX5_clearCorner_65 rfl (lv_at hl 2 rfl) ?_
              refine lv_iload_n hx hb dX5_clearCorner_66 rfl (lv_at hl 3 rfl) ?_
              refine x_cVIF (n := 1) (As := [.int (li 1)]) (rest := []) B h (wkX5_reduceColumns l D cI cJ cB cZ ad k t_9 (li 1) _ hR) ⟨⟨_, rfl⟩, by decide +kernel, Nat.le_of_ble_eq_true rfl, Nat.le_of_ble_eq_true rfl⟩ gX5_clearCorner_X5_reduceColumns (show ((wX cI cJ cB cZ ad t_9) : va_W)[11]? = some (_, .inr (5, _)) from rfl) rfl rfl hl.1 rfl (Nat.le_of_ble_eq_true rfl) dX5_clearCorner_67 ⟨Nat.le_of_ble_eq_true rfl, Nat.le_of_ble_eq_true rfl⟩ (fun r_10 t_10 H locs hR h => ?_)
              refine lv_istore (lv' := [(5, .int r_10), (4, .int r_9), (3, .int r_2), (0, .ref (ad 11)), (1, .int (li 1)), (2, .int (li 2))]) hx hb dX5_clearCorner_70 hl (by decide) rfl (fun ls hl => ?_)
              refine lv_iload hx hb dX5_clearCorner_72 (lv_at hl 1 rfl) ?_
              refine lv_if_eq (tgt := 103) hx hb dX5_clearCorner_74 (by decide) (fun c_11 => ?_) (fun c_11 => ?_)
              · have hR := hR.1 c_11
                exact ih.2.2.2 t_10 (uI (uI (uI li 3 r_2) 4 r_9) 5 r_10) lj H locs ls hR (lv_sub hl [3, 4, 5, 2, 1, 0] rfl) h
              · have hR := hR.2 c_11
                refine lv_iload hx hb dX5_clearCorner_77 (lv_at hl 0 rfl) ?_
                refine lv_if_eq (tgt := 103) hx hb dX5_clearCorner_79 (by decide) (fun c_12 => ?_) (fun c_12 => ?_)
                · have hR := hR.1 c_12
                  exact ih.2.2.2 t_10 (uI (uI (uI li 3 r_2) 4 r_9) 5 r_10) lj H locs ls hR (lv_sub hl [3, 4, 5, 2, 1, 0] rfl) h
                · have hR := hR.2 c_12
                  refine lv_aload_n hx hb dX5_clearCorner_82 rfl (lv_at hl 3 rfl) ?_
                  refine x_get (ci := 5) (C := RX5) (T := TX5) (N := 6) (v := .ref (ad 30)) B h hin5 11 0 rfl rfl (by decide) (by decide +kernel) rfl dX5_clearCorner_83 ?_
                  refine lv_iload_n hx hb dX5_clearCorner_86 rfl (lv_at hl 4 rfl) ?_
                  refine lv_aload_n hx hb dX5_clearCorner_87 rfl (lv_at hl 3 rfl) ?_
                  refine x_get (ci := 5) (C := RX5) (T := TX5) (N := 6) (v := .int (t_10.1 11)) B h hin5 11 4 rfl rfl (by decide) (by decide +kernel) rfl dX5_clearCorner_88 ?_
                  refine lv_imul hx hb dX5_clearCorner_91 ?_
                  refine lv_topi (fun v_13 ev_13 => ?_)
                  have hR := hR v_13 ev_13
                  refine lv_iload_n hx hb dX5_clearCorner_92 rfl (lv_at hl 4 rfl) ?_
                  refine lv_iadd hx hb dX5_clearCorner_93 ?_
                  refine lv_topi (fun v_14 ev_14 => ?_)
                  have hR := hR v_14 ev_14
                  obtain ⟨hb_15, hR⟩ := hR
                  refine va_lald (f := (t_10.2.2.2 7)) hx hb B.2.1 h.1 30 1 rfl rfl hb_15 dX5_clearCorner_94 ?_
                  refine lv_topl (fun v_15 ev_15 => ?_)
                  have hR := hR v_15 ev_15
                  refine lv_aload_n hx hb dX5_clearCorner_95 rfl (lv_at hl 3 rfl) ?_
                  refine x_get (ci := 5) (C := RX5) (T := TX5) (N := 6) (v := .long (t_10.2.1 7)) B h hin5 11 5 rfl rfl (by decide) (by decide +kernel) rfl dX5_clearCorner_96 ?_
                  refine x_cSLE (n := 2) (As := [.long v_15, .long (t_10.2.1 7)]) (rest := []) B h (wkX5_gcd l D cI cJ cB cZ ad k v_15 (t_10.2.1 7) _ hR) ⟨⟨_, rfl⟩, by decide +kernel, Nat.le_of_ble_eq_true rfl, Nat.le_of_ble_eq_true rfl⟩ gX5_clearCorner_X5_gcd rfl hl.1 rfl (Nat.le_of_ble_eq_true rfl) dX5_clearCorner_99 ⟨Nat.le_of_ble_eq_true rfl, Nat.le_of_ble_eq_true rfl⟩ (fun r_16 _ H locs hR h => ?_)
                  exact x_lret (w1 := (fun u : XT => (wX cI cJ cB cZ ad u))) t_10 B h hr hR dX5_clearCorner_102
            · have hR := hR.2 c_4
              exact ih.2.2.1 t_2 (uI li 3 r_2) lj H locs ls hR (lv_sub hl [1, 2, 3, 0] rfl) h
      · intro t li lj H locs ls hR hl h
        have hR : wbX5_clearCorner_2 (wpX5_clearCorner k) k t li lj Q := hR
        unfold wbX5_clearCorner_2 at hR
        refine lv_aload_n hx hb dX5_clearCorner_27 rfl (lv_at hl 0 rfl) ?_
        refine x_get (ci := 5) (C := RX5) (T := TX5) (N := 6) (v := .long (t.2.1 7)) B h hin5 11 5 rfl rfl (by decide) (by decide +kernel) rfl dX5_clearCorner_28 ?_
        exact x_lret (w1 := (fun u : XT => (wX cI cJ cB cZ ad u))) t B h hr hR dX5_clearCorner_31
      · intro t li lj H locs ls hR hl h
        have hR : wbX5_clearCorner_3 (wpX5_clearCorner k) k t li lj Q := hR
        unfold wbX5_clearCorner_3 at hR
        obtain ⟨v_17, ev_17⟩ : ∃ v : Int32, v = (li 2) + Int32.ofInt 1 := ⟨_, rfl⟩
        have hR := hR v_17 ev_17
        refine lv_iinc (v := v_17) (lv' := [(2, .int v_17), (0, .ref (ad 11)), (1, .int (li 1)), (3, .int (li 3)), (4, .int (li 4)), (5, .int (li 5))]) hx hb dX5_clearCorner_103 hl (k := 2) rfl ev_17.symm (by decide) rfl (fun ls hl => ?_)
        refine lv_goto (tgt := 2) hx hb dX5_clearCorner_106 (by decide) ?_
        exact ih.2.1 t (uI li 2 v_17) lj H locs ls hR (lv_sub hl [1, 2, 0] rfl) h
  exact (main k).1 t _ _ s.heap [] ls hR hl h
