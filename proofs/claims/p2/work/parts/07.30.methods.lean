def wbX11_pairUpwards_0 (rec : Nat → XT → (Nat → Int32) → (Nat → Int64) → (XT → Prop) → Prop) (k : Nat) (t : XT) (li : Nat → Int32) (lj : Nat → Int64) (Q : XT → Prop) : Prop :=
  rec 1 t (uI li 1 0) lj Q
def wbX11_pairUpwards_1 (rec : Nat → XT → (Nat → Int32) → (Nat → Int64) → (XT → Prop) → Prop) (k : Nat) (t : XT) (li : Nat → Int32) (lj : Nat → Int64) (Q : XT → Prop) : Prop :=
  ((((t.1 4) : Int32) ≤ (li 1)) → Q t) ∧ (¬ (((t.1 4) : Int32) ≤ (li 1)) → (wqX6_isCritical k t (li 1) (fun r_2 t_2 => ((r_2 = 0) → rec 2 t_2 li (uI lj 100 0) Q) ∧ (¬ (r_2 = 0) → (vp_in (li 1) 64 ∧ (∀ v_4 : Int64, v_4 = (t_2.2.2.2 1) (li 1).toNatClampNeg → (wqX6_unpaired k t_2  (fun r_5 t_5 => (∀ v_6 : Int64, v_6 = (v_4 &&& r_5) → rec 2 t_5 li (uI lj 100 v_6) Q)))))))))
def wbX11_pairUpwards_2 (rec : Nat → XT → (Nat → Int32) → (Nat → Int64) → (XT → Prop) → Prop) (k : Nat) (t : XT) (li : Nat → Int32) (lj : Nat → Int64) (Q : XT → Prop) : Prop :=
  (∀ v_7 : Int32, v_7 = ((li 1) + 1) → rec 3 t (uI li 4 v_7) (uI lj 2 (lj 100)) Q)
def wbX11_pairUpwards_3 (rec : Nat → XT → (Nat → Int32) → (Nat → Int64) → (XT → Prop) → Prop) (k : Nat) (t : XT) (li : Nat → Int32) (lj : Nat → Int64) (Q : XT → Prop) : Prop :=
  ((((t.1 4) : Int32) ≤ (li 4)) → rec 5 t li lj Q) ∧ (¬ (((t.1 4) : Int32) ≤ (li 4)) → (∀ v_9 : Int32, v_9 = (lg_cmp (lj 2) 0) → ((v_9 = 0) → rec 5 t li lj Q) ∧ (¬ (v_9 = 0) → (wqX11_isIn k (lj 2) (li 4) (fun r_11 => ((r_11 = 0) → rec 4 t li lj Q) ∧ (¬ (r_11 = 0) → (wqX6_staysAcyclic k t (li 1) (li 4) (fun r_13 t_13 => ((r_13 = 0) → rec 4 t_13 li lj Q) ∧ (¬ (r_13 = 0) → (wqX6_unite k t_13 (li 1) (li 4) (fun t_15 => rec 4 t_15 li (uI lj 2 0) Q)))))))))))
def wbX11_pairUpwards_4 (rec : Nat → XT → (Nat → Int32) → (Nat → Int64) → (XT → Prop) → Prop) (k : Nat) (t : XT) (li : Nat → Int32) (lj : Nat → Int64) (Q : XT → Prop) : Prop :=
  (∀ v_16 : Int32, v_16 = (li 4) + Int32.ofInt 1 → rec 3 t (uI li 4 v_16) lj Q)
def wbX11_pairUpwards_5 (rec : Nat → XT → (Nat → Int32) → (Nat → Int64) → (XT → Prop) → Prop) (k : Nat) (t : XT) (li : Nat → Int32) (lj : Nat → Int64) (Q : XT → Prop) : Prop :=
  (∀ v_17 : Int32, v_17 = (li 1) + Int32.ofInt 1 → rec 1 t (uI li 1 v_17) lj Q)
def wpX11_pairUpwards : Nat → Nat → XT → (Nat → Int32) → (Nat → Int64) → (XT → Prop) → Prop
  | 0, _, _, _, _, _ => False
  | k + 1, 0, t, li, lj, Q => wbX11_pairUpwards_0 (wpX11_pairUpwards k) k t li lj Q
  | k + 1, 1, t, li, lj, Q => wbX11_pairUpwards_1 (wpX11_pairUpwards k) k t li lj Q
  | k + 1, 2, t, li, lj, Q => wbX11_pairUpwards_2 (wpX11_pairUpwards k) k t li lj Q
  | k + 1, 3, t, li, lj, Q => wbX11_pairUpwards_3 (wpX11_pairUpwards k) k t li lj Q
  | k + 1, 4, t, li, lj, Q => wbX11_pairUpwards_4 (wpX11_pairUpwards k) k t li lj Q
  | k + 1, 5, t, li, lj, Q => wbX11_pairUpwards_5 (wpX11_pairUpwards k) k t li lj Q
  | _ + 1, _, _, _, _, _ => False
def wqX11_pairUpwards (k : Nat) (t : XT)  (Q : XT → Prop) : Prop := wpX11_pairUpwards k 0 t (fun _ => 0) (fun _ => 0) Q
set_option maxHeartbeats 8000000 in
set_option maxRecDepth 100000 in
theorem wkX11_pairUpwards (l : Launch) (D : va_G) (cI cJ cB cZ : ClassId) (ad : Nat → Nat) (k : Nat) (t : XT)  (Q : XT → Prop) (hR : wqX11_pairUpwards k t  Q) : MetV l yX11_pairUpwards wsX11_pairUpwards 3 72 0 0 D (TYS cI cJ cB cZ) (wX cI cJ cB cZ ad t) [.ref (ad 0)] (fun u => Q u) (fun u : XT => (wX cI cJ cB cZ ad u)) := by
  refine x_startV (ty := .int) (cc := cX11_pairUpwards) (by decide) rfl (Nat.le_of_ble_eq_true rfl) ?_
  intro p e s m args below meth c A ls B hr hnm h hl
  have hx := B.1.1
  have hb := B.1.2.1
  have hml := B.1.2.2.1
  have hts := B.1.2.2.2.2
  have hown : s.vm.findClass RX11 = some m.cls := B.1.2.2.2.1
  have hin9 : ∀ w ∈ u_ws RX9 TX9 7, w ∈ wsX11_pairUpwards := by decide +kernel
  have hin11 : ∀ w ∈ u_ws RX11 TX11 11, w ∈ wsX11_pairUpwards := by decide +kernel
  have main : ∀ k : Nat, (∀ (t : XT) (li : Nat → Int32) (lj : Nat → Int64) (H : Heap) (locs : List Loc) (ls : Array Slot), wpX11_pairUpwards k 0 t li lj Q → lv_has ls 5 [(0, .ref (ad 0))] → Hp D A s.heap (wX cI cJ cB cZ ad t) H locs → W p l e { frames := 3, cells := 0, slots := 0, locals := 72 } s m args below meth c H locs 0 0 (MQ below (va_Qv (fun u => Q u) (fun u t => xEnd D ((fun u : XT => (wX cI cJ cB cZ ad u)) u) A t) A) args s 0 0 A) (F0 m 0 ls [])) ∧
      (∀ (t : XT) (li : Nat → Int32) (lj : Nat → Int64) (H : Heap) (locs : List Loc) (ls : Array Slot), wpX11_pairUpwards k 1 t li lj Q → lv_has ls 5 [(0, .ref (ad 0)), (1, .int (li 1))] → Hp D A s.heap (wX cI cJ cB cZ ad t) H locs → W p l e { frames := 3, cells := 0, slots := 0, locals := 72 } s m args below meth c H locs 0 0 (MQ below (va_Qv (fun u => Q u) (fun u t => xEnd D ((fun u : XT => (wX cI cJ cB cZ ad u)) u) A t) A) args s 0 0 A) (F0 m 2 ls [])) ∧
      (∀ (t : XT) (li : Nat → Int32) (lj : Nat → Int64) (H : Heap) (locs : List Loc) (ls : Array Slot), wpX11_pairUpwards k 2 t li lj Q → lv_has ls 5 [(0, .ref (ad 0)), (1, .int (li 1))] → Hp D A s.heap (wX cI cJ cB cZ ad t) H locs → W p l e { frames := 3, cells := 0, slots := 0, locals := 72 } s m args below meth c H locs 0 0 (MQ below (va_Qv (fun u => Q u) (fun u t => xEnd D ((fun u : XT => (wX cI cJ cB cZ ad u)) u) A t) A) args s 0 0 A) (F0 m 45 ls [.long (lj 100)])) ∧
      (∀ (t : XT) (li : Nat → Int32) (lj : Nat → Int64) (H : Heap) (locs : List Loc) (ls : Array Slot), wpX11_pairUpwards k 3 t li lj Q → lv_has ls 5 [(0, .ref (ad 0)), (1, .int (li 1)), (2, .long (lj 2)), (4, .int (li 4))] → Hp D A s.heap (wX cI cJ cB cZ ad t) H locs → W p l e { frames := 3, cells := 0, slots := 0, locals := 72 } s m args below meth c H locs 0 0 (MQ below (va_Qv (fun u => Q u) (fun u t => xEnd D ((fun u : XT => (wX cI cJ cB cZ ad u)) u) A t) A) args s 0 0 A) (F0 m 51 ls [])) ∧
      (∀ (t : XT) (li : Nat → Int32) (lj : Nat → Int64) (H : Heap) (locs : List Loc) (ls : Array Slot), wpX11_pairUpwards k 4 t li lj Q → lv_has ls 5 [(0, .ref (ad 0)), (1, .int (li 1)), (2, .long (lj 2)), (4, .int (li 4))] → Hp D A s.heap (wX cI cJ cB cZ ad t) H locs → W p l e { frames := 3, cells := 0, slots := 0, locals := 72 } s m args below meth c H locs 0 0 (MQ below (va_Qv (fun u => Q u) (fun u t => xEnd D ((fun u : XT => (wX cI cJ cB cZ ad u)) u) A t) A) args s 0 0 A) (F0 m 103 ls [])) ∧
      (∀ (t : XT) (li : Nat → Int32) (lj : Nat → Int64) (H : Heap) (locs : List Loc) (ls : Array Slot), wpX11_pairUpwards k 5 t li lj Q → lv_has ls 5 [(0, .ref (ad 0)), (1, .int (li 1)), (2, .long (lj 2)), (4, .int (li 4))] → Hp D A s.heap (wX cI cJ cB cZ ad t) H locs → W p l e { frames := 3, cells := 0, slots := 0, locals := 72 } s m args below meth c H locs 0 0 (MQ below (va_Qv (fun u => Q u) (fun u t => xEnd D ((fun u : XT => (wX cI cJ cB cZ ad u)) u) A t) A) args s 0 0 A) (F0 m 109 ls [])) := by
    intro k
    induction k with
    | zero => exact ⟨fun _ _ _ _ _ _ hR => False.elim hR, fun _ _ _ _ _ _ hR => False.elim hR, fun _ _ _ _ _ _ hR => False.elim hR, fun _ _ _ _ _ _ hR => False.elim hR, fun _ _ _ _ _ _ hR => False.elim hR, fun _ _ _ _ _ _ hR => False.elim hR⟩
    | succ k ih =>
      refine ⟨?_, ?_, ?_, ?_, ?_, ?_⟩
      · intro t li lj H locs ls hR hl h
        have hR : wbX11_pairUpwards_0 (wpX11_pairUpwards k) k t li lj Q := hR
        unfold wbX11_pairUpwards_0 at hR
        refine lv_iconst (v := 0) hx hb dX11_pairUpwards_0 (by decide) ?_
        refine lv_istore_n (lv' := [(1, .int 0), (0, .ref (ad 0))]) hx hb dX11_pairUpwards_1 rfl hl (by decide) rfl (fun ls hl => ?_)
        exact ih.2.1 t (uI li 1 0) lj H locs ls hR (lv_sub hl [1, 0] rfl) h
      · intro t li lj H locs ls hR hl h
        have hR : wbX11_pairUpwards_1 (wpX11_pairUpwards k) k t li lj Q := hR
        unfold wbX11_pairUpwards_1 at hR
        refine lv_iload_n hx hb dX11_pairUpwards_2 rfl (lv_at hl 1 rfl) ?_
        refine lv_aload_n hx hb dX11_pairUpwards_3 rfl (lv_at hl 0 rfl) ?_
        refine x_get (ci := 11) (C := RX11) (T := TX11) (N := 11) (v := .ref (ad 3)) B h hin11 0 2 rfl rfl (by decide) (by decide +kernel) rfl dX11_pairUpwards_4 ?_
        refine x_get (ci := 9) (C := RX9) (T := TX9) (N := 7) (v := .int (t.1 4)) B h hin9 3 0 rfl rfl (by decide) (by decide +kernel) rfl dX11_pairUpwards_7 ?_
        refine lv_icmp_ge (tgt := 115) hx hb dX11_pairUpwards_10 (by decide) (fun c_1 => ?_) (fun c_1 => ?_)
        · have hR := hR.1 c_1
          exact x_vret (w1 := (fun u : XT => (wX cI cJ cB cZ ad u))) t B h hr hR dX11_pairUpwards_115
        · have hR := hR.2 c_1
          refine lv_aload_n hx hb dX11_pairUpwards_13 rfl (lv_at hl 0 rfl) ?_
          refine x_get (ci := 11) (C := RX11) (T := TX11) (N := 11) (v := .ref (ad 4)) B h hin11 0 3 rfl rfl (by decide) (by decide +kernel) rfl dX11_pairUpwards_14 ?_
          refine lv_iload_n hx hb dX11_pairUpwards_17 rfl (lv_at hl 1 rfl) ?_
          refine x_cVIF (n := 1) (As := [.int (li 1)]) (rest := []) B h (wkX6_isCritical l D cI cJ cB cZ ad k t (li 1) _ hR) ⟨⟨_, rfl⟩, by decide +kernel, Nat.le_of_ble_eq_true rfl, Nat.le_of_ble_eq_true rfl⟩ gX11_pairUpwards_X6_isCritical (show ((wX cI cJ cB cZ ad t) : va_W)[4]? = some (_, .inr (6, _)) from rfl) rfl rfl hl.1 rfl (Nat.le_of_ble_eq_true rfl) dX11_pairUpwards_18 ⟨Nat.le_of_ble_eq_true rfl, Nat.le_of_ble_eq_true rfl⟩ (fun r_2 t_2 H locs hR h => ?_)
          refine lv_if_eq (tgt := 44) hx hb dX11_pairUpwards_21 (by decide) (fun c_3 => ?_) (fun c_3 => ?_)
          · have hR := hR.1 c_3
            refine lv_lconst (v := 0) hx hb dX11_pairUpwards_44 (by decide) ?_
            exact ih.2.2.1 t_2 li (uI lj 100 0) H locs ls hR (lv_sub hl [0, 1] rfl) h
          · have hR := hR.2 c_3
            refine lv_aload_n hx hb dX11_pairUpwards_24 rfl (lv_at hl 0 rfl) ?_
            refine x_get (ci := 11) (C := RX11) (T := TX11) (N := 11) (v := .ref (ad 3)) B h hin11 0 2 rfl rfl (by decide) (by decide +kernel) rfl dX11_pairUpwards_25 ?_
            refine x_get (ci := 9) (C := RX9) (T := TX9) (N := 7) (v := .ref (ad 18)) B h hin9 3 5 rfl rfl (by decide) (by decide +kernel) rfl dX11_pairUpwards_28 ?_
            refine lv_iload_n hx hb dX11_pairUpwards_31 rfl (lv_at hl 1 rfl) ?_
            obtain ⟨hb_4, hR⟩ := hR
            refine va_lald (f := (t_2.2.2.2 1)) hx hb B.2.1 h.1 18 1 rfl rfl hb_4 dX11_pairUpwards_32 ?_
            refine lv_topl (fun v_4 ev_4 => ?_)
            have hR := hR v_4 ev_4
            refine lv_aload_n hx hb dX11_pairUpwards_33 rfl (lv_at hl 0 rfl) ?_
            refine x_get (ci := 11) (C := RX11) (T := TX11) (N := 11) (v := .ref (ad 4)) B h hin11 0 3 rfl rfl (by decide) (by decide +kernel) rfl dX11_pairUpwards_34 ?_
            refine x_cVLF (n := 0) (As := []) (rest := [.long v_4]) B h (wkX6_unpaired l D cI cJ cB cZ ad k t_2  _ hR) ⟨⟨_, rfl⟩, by decide +kernel, Nat.le_of_ble_eq_true rfl, Nat.le_of_ble_eq_true rfl⟩ gX11_pairUpwards_X6_unpaired (show ((wX cI cJ cB cZ ad t_2) : va_W)[4]? = some (_, .inr (6, _)) from rfl) rfl rfl hl.1 rfl (Nat.le_of_ble_eq_true rfl) dX11_pairUpwards_37 ⟨Nat.le_of_ble_eq_true rfl, Nat.le_of_ble_eq_true rfl⟩ (fun r_5 t_5 H locs hR h => ?_)
            refine lv_land hx hb dX11_pairUpwards_40 ?_
            refine lv_topl (fun v_6 ev_6 => ?_)
            have hR := hR v_6 ev_6
            refine lv_goto (tgt := 45) hx hb dX11_pairUpwards_41 (by decide) ?_
            exact ih.2.2.1 t_5 li (uI lj 100 v_6) H locs ls hR (lv_sub hl [0, 1] rfl) h
      · intro t li lj H locs ls hR hl h
        have hR : wbX11_pairUpwards_2 (wpX11_pairUpwards k) k t li lj Q := hR
        unfold wbX11_pairUpwards_2 at hR
        refine lv_lstore_n (lv' := [(2, .long (lj 100)), (0, .ref (ad 0)), (1, .int (li 1))]) hx hb dX11_pairUpwards_45 rfl hl (by decide) rfl (fun ls hl => ?_)
        refine lv_iload_n hx hb dX11_pairUpwards_46 rfl (lv_at hl 2 rfl) ?_
        refine lv_iconst (v := 1) hx hb dX11_pairUpwards_47 (by decide) ?_
        refine lv_iadd hx hb dX11_pairUpwards_48 ?_
        refine lv_topi (fun v_7 ev_7 => ?_)
        have hR := hR v_7 ev_7
        refine lv_istore (lv' := [(4, .int v_7), (2, .long (lj 100)), (0, .ref (ad 0)), (1, .int (li 1))]) hx hb dX11_pairUpwards_49 hl (by decide) rfl (fun ls hl => ?_)
        exact ih.2.2.2.1 t (uI li 4 v_7) (uI lj 2 (lj 100)) H locs ls hR (lv_sub hl [2, 3, 1, 0] rfl) h
      · intro t li lj H locs ls hR hl h
        have hR : wbX11_pairUpwards_3 (wpX11_pairUpwards k) k t li lj Q := hR
        unfold wbX11_pairUpwards_3 at hR
        refine lv_iload hx hb dX11_pairUpwards_51 (lv_at hl 3 rfl) ?_
        refine lv_aload_n hx hb dX11_pairUpwards_53 rfl (lv_at hl 0 rfl) ?_
        refine x_get (ci := 11) (C := RX11) (T := TX11) (N := 11) (v := .ref (ad 3)) B h hin11 0 2 rfl rfl (by decide) (by decide +kernel) rfl dX11_pairUpwards_54 ?_
        refine x_get (ci := 9) (C := RX9) (T := TX9) (N := 7) (v := .int (t.1 4)) B h hin9 3 0 rfl rfl (by decide) (by decide +kernel) rfl dX11_pairUpwards_57 ?_
        refine lv_icmp_ge (tgt := 109) hx hb dX11_pairUpwards_60 (by decide) (fun c_8 => ?_) (fun c_8 => ?_)
        · have hR := hR.1 c_8
          exact ih.2.2.2.2.2 t li lj H locs ls hR (lv_sub hl [0, 1, 2, 3] rfl) h
        · have hR := hR.2 c_8
          refine lv_lload_n hx hb dX11_pairUpwards_63 rfl (lv_at hl 2 rfl) ?_
          refine lv_lconst (v := 0) hx hb dX11_pairUpwards_64 (by decide) ?_
          refine W.lcmp hx hb dX11_pairUpwards_65 ?_
          refine lv_topi (fun v_9 ev_9 => ?_)
          have hR := hR v_9 ev_9
          refine lv_if_eq (tgt := 109) hx hb dX11_pairUpwards_66 (by decide) (fun c_10 => ?_) (fun c_10 => ?_)
          · have hR := hR.1 c_10
            exact ih.2.2.2.2.2 t li lj H locs ls hR (lv_sub hl [0, 1, 2, 3] rfl) h
          · have hR := hR.2 c_10
            refine lv_lload_n hx hb dX11_pairUpwards_69 rfl (lv_at hl 2 rfl) ?_
            refine lv_iload hx hb dX11_pairUpwards_70 (lv_at hl 3 rfl) ?_
            refine x_cSIE (n := 2) (As := [.long (lj 2), .int (li 4)]) (rest := []) B h (wkX11_isIn l D cI cJ cB cZ ad k (lj 2) (li 4) _ hR) ⟨⟨_, rfl⟩, by decide +kernel, Nat.le_of_ble_eq_true rfl, Nat.le_of_ble_eq_true rfl⟩ gX11_pairUpwards_X11_isIn rfl hl.1 rfl (Nat.le_of_ble_eq_true rfl) dX11_pairUpwards_72 ⟨Nat.le_of_ble_eq_true rfl, Nat.le_of_ble_eq_true rfl⟩ (fun r_11 _ H locs hR h => ?_)
            refine lv_if_eq (tgt := 103) hx hb dX11_pairUpwards_75 (by decide) (fun c_12 => ?_) (fun c_12 => ?_)
            · have hR := hR.1 c_12
              exact ih.2.2.2.2.1 t li lj H locs ls hR (lv_sub hl [0, 1, 2, 3] rfl) h
            · have hR := hR.2 c_12
              refine lv_aload_n hx hb dX11_pairUpwards_78 rfl (lv_at hl 0 rfl) ?_
              refine x_get (ci := 11) (C := RX11) (T := TX11) (N := 11) (v := .ref (ad 4)) B h hin11 0 3 rfl rfl (by decide) (by decide +kernel) rfl dX11_pairUpwards_79 ?_
              refine lv_iload_n hx hb dX11_pairUpwards_82 rfl (lv_at hl 1 rfl) ?_
              refine lv_iload hx hb dX11_pairUpwards_83 (lv_at hl 3 rfl) ?_
              refine x_cVIF (n := 2) (As := [.int (li 1), .int (li 4)]) (rest := []) B h (wkX6_staysAcyclic l D cI cJ cB cZ ad k t (li 1) (li 4) _ hR) ⟨⟨_, rfl⟩, by decide +kernel, Nat.le_of_ble_eq_true rfl, Nat.le_of_ble_eq_true rfl⟩ gX11_pairUpwards_X6_staysAcyclic (show ((wX cI cJ cB cZ ad t) : va_W)[4]? = some (_, .inr (6, _)) from rfl) rfl rfl hl.1 rfl (Nat.le_of_ble_eq_true rfl) dX11_pairUpwards_85 ⟨Nat.le_of_ble_eq_true rfl, Nat.le_of_ble_eq_true rfl⟩ (fun r_13 t_13 H locs hR h => ?_)
              refine lv_if_eq (tgt := 103) hx hb dX11_pairUpwards_88 (by decide) (fun c_14 => ?_) (fun c_14 => ?_)
              · have hR := hR.1 c_14
                exact ih.2.2.2.2.1 t_13 li lj H locs ls hR (lv_sub hl [0, 1, 2, 3] rfl) h
              · have hR := hR.2 c_14
                refine lv_aload_n hx hb dX11_pairUpwards_91 rfl (lv_at hl 0 rfl) ?_
                refine x_get (ci := 11) (C := RX11) (T := TX11) (N := 11) (v := .ref (ad 4)) B h hin11 0 3 rfl rfl (by decide) (by decide +kernel) rfl dX11_pairUpwards_92 ?_
                refine lv_iload_n hx hb dX11_pairUpwards_95 rfl (lv_at hl 1 rfl) ?_
                refine lv_iload hx hb dX11_pairUpwards_96 (lv_at hl 3 rfl) ?_
                refine x_cVVF (n := 2) (As := [.int (li 1), .int (li 4)]) (rest := []) B h (wkX6_unite l D cI cJ cB cZ ad k t_13 (li 1) (li 4) _ hR) ⟨⟨_, rfl⟩, by decide +kernel, Nat.le_of_ble_eq_true rfl, Nat.le_of_ble_eq_true rfl⟩ gX11_pairUpwards_X6_unite (show ((wX cI cJ cB cZ ad t_13) : va_W)[4]? = some (_, .inr (6, _)) from rfl) rfl rfl hl.1 rfl (Nat.le_of_ble_eq_true rfl) dX11_pairUpwards_98 ⟨Nat.le_of_ble_eq_true rfl, Nat.le_of_ble_eq_true rfl⟩ (fun t_15 H locs hR h => ?_)
                refine lv_lconst (v := 0) hx hb dX11_pairUpwards_101 (by decide) ?_
                refine lv_lstore_n (lv' := [(2, .long 0), (0, .ref (ad 0)), (1, .int (li 1)), (4, .int (li 4))]) hx hb dX11_pairUpwards_102 rfl hl (by decide) rfl (fun ls hl => ?_)
                exact ih.2.2.2.2.1 t_15 li (uI lj 2 0) H locs ls hR (lv_sub hl [1, 2, 0, 3] rfl) h
      · intro t li lj H locs ls hR hl h
        have hR : wbX11_pairUpwards_4 (wpX11_pairUpwards k) k t li lj Q := hR
        unfold wbX11_pairUpwards_4 at hR
        obtain ⟨v_16, ev_16⟩ : ∃ v : Int32, v = (li 4) + Int32.ofInt 1 := ⟨_, rfl⟩
        have hR := hR v_16 ev_16
        refine lv_iinc (v := v_16) (lv' := [(4, .int v_16), (0, .ref (ad 0)), (1, .int (li 1)), (2, .long (lj 2))]) hx hb dX11_pairUpwards_103 hl (k := 3) rfl ev_16.symm (by decide) rfl (fun ls hl => ?_)
        refine lv_goto (tgt := 51) hx hb dX11_pairUpwards_106 (by decide) ?_
        exact ih.2.2.2.1 t (uI li 4 v_16) lj H locs ls hR (lv_sub hl [1, 2, 3, 0] rfl) h
      · intro t li lj H locs ls hR hl h
        have hR : wbX11_pairUpwards_5 (wpX11_pairUpwards k) k t li lj Q := hR
        unfold wbX11_pairUpwards_5 at hR
        obtain ⟨v_17, ev_17⟩ : ∃ v : Int32, v = (li 1) + Int32.ofInt 1 := ⟨_, rfl⟩
        have hR := hR v_17 ev_17
        refine lv_iinc (v := v_17) (lv' := [(1, .int v_17), (0, .ref (ad 0)), (2, .long (lj 2)), (4, .int (li 4))]) hx hb dX11_pairUpwards_109 hl (k := 1) rfl ev_17.symm (by decide) rfl (fun ls hl => ?_)
        refine lv_goto (tgt := 2) hx hb dX11_pairUpwards_112 (by decide) ?_
        exact ih.2.1 t (uI li 1 v_17) lj H locs ls hR (lv_sub hl [1, 0] rfl) h
  exact (main k).1 t _ _ s.heap [] ls hR hl h
def wbX11_auto_0 (rec : Nat → XT → (Nat → Int32) → (Nat → Int64) → (Int32 → XT → Prop) → Prop) (k : Nat) (t : XT) (li : Nat → Int32) (lj : Nat → Int64) (Q : Int32 → XT → Prop) : Prop :=
  (((li 1) < 0) → rec 1 t li lj Q) ∧ (¬ ((li 1) < 0) → (((2 : Int32) < (li 1)) → rec 1 t li lj Q) ∧ (¬ ((2 : Int32) < (li 1)) → ((¬ (t.1 4) = 0) → (wqX3_save_c4 k t  (fun t_4 => (wqX6_restart k t_4 (t_4.2.1 0) (fun t_5 => ((¬ (li 1) = 0) → ((¬ (li 1) = 1) → (wqX11_pairByPeeling k t_5  (fun t_8 => rec 2 t_8 li lj Q))) ∧ (((li 1) = 1) → (wqX11_pairDownwards k t_5  (fun t_9 => rec 2 t_9 li lj Q)))) ∧ (((li 1) = 0) → (wqX11_pairUpwards k t_5  (fun t_10 => rec 2 t_10 li lj Q)))))))) ∧ (((t.1 4) = 0) → rec 1 t li lj Q)))
def wbX11_auto_1 (rec : Nat → XT → (Nat → Int32) → (Nat → Int64) → (Int32 → XT → Prop) → Prop) (k : Nat) (t : XT) (li : Nat → Int32) (lj : Nat → Int64) (Q : Int32 → XT → Prop) : Prop :=
  Q (-1) t
def wbX11_auto_2 (rec : Nat → XT → (Nat → Int32) → (Nat → Int64) → (Int32 → XT → Prop) → Prop) (k : Nat) (t : XT) (li : Nat → Int32) (lj : Nat → Int64) (Q : Int32 → XT → Prop) : Prop :=
  (wqX11_criticalOnes k t  (fun r_11 t_11 => Q r_11 t_11))
def wpX11_auto : Nat → Nat → XT → (Nat → Int32) → (Nat → Int64) → (Int32 → XT → Prop) → Prop
  | 0, _, _, _, _, _ => False
  | k + 1, 0, t, li, lj, Q => wbX11_auto_0 (wpX11_auto k) k t li lj Q
  | k + 1, 1, t, li, lj, Q => wbX11_auto_1 (wpX11_auto k) k t li lj Q
  | k + 1, 2, t, li, lj, Q => wbX11_auto_2 (wpX11_auto k) k t li lj Q
  | _ + 1, _, _, _, _, _ => False
def wqX11_auto (k : Nat) (t : XT) (a1 : Int32) (Q : Int32 → XT → Prop) : Prop := wpX11_auto k 0 t (uI (fun _ => 0) 1 a1) (fun _ => 0) Q
set_option maxHeartbeats 8000000 in
set_option maxRecDepth 100000 in
theorem wkX11_auto (l : Launch) (D : va_G) (cI cJ cB cZ : ClassId) (ad : Nat → Nat) (k : Nat) (t : XT) (a1 : Int32) (Q : Int32 → XT → Prop) (hR : wqX11_auto k t a1 Q) : MetI l yX11_auto wsX11_auto 5 113 0 0 D (TYS cI cJ cB cZ) (wX cI cJ cB cZ ad t) [.ref (ad 0), .int a1] (fun r u => Q r u) (fun u : XT => (wX cI cJ cB cZ ad u)) := by
  refine x_startI (ty := .int) (cc := cX11_auto) (by decide) rfl (Nat.le_of_ble_eq_true rfl) ?_
  intro p e s m args below meth c A ls B hr hnm h hl
  have hx := B.1.1
  have hb := B.1.2.1
  have hml := B.1.2.2.1
  have hts := B.1.2.2.2.2
  have hown : s.vm.findClass RX11 = some m.cls := B.1.2.2.2.1
  have hin6 : ∀ w ∈ u_ws RX6 TX6 6, w ∈ wsX11_auto := by decide +kernel
  have hin9 : ∀ w ∈ u_ws RX9 TX9 7, w ∈ wsX11_auto := by decide +kernel
  have hin11 : ∀ w ∈ u_ws RX11 TX11 11, w ∈ wsX11_auto := by decide +kernel
  have main : ∀ k : Nat, (∀ (t : XT) (li : Nat → Int32) (lj : Nat → Int64) (H : Heap) (locs : List Loc) (ls : Array Slot), wpX11_auto k 0 t li lj Q → lv_has ls 2 [(0, .ref (ad 0)), (1, .int (li 1))] → Hp D A s.heap (wX cI cJ cB cZ ad t) H locs → W p l e { frames := 5, cells := 0, slots := 0, locals := 113 } s m args below meth c H locs 0 0 (MQ below (va_Qi (fun r u => Q r u) (fun u t => xEnd D ((fun u : XT => (wX cI cJ cB cZ ad u)) u) A t) A) args s 0 0 A) (F0 m 0 ls [])) ∧
      (∀ (t : XT) (li : Nat → Int32) (lj : Nat → Int64) (H : Heap) (locs : List Loc) (ls : Array Slot), wpX11_auto k 1 t li lj Q → lv_has ls 2 [(0, .ref (ad 0)), (1, .int (li 1))] → Hp D A s.heap (wX cI cJ cB cZ ad t) H locs → W p l e { frames := 5, cells := 0, slots := 0, locals := 113 } s m args below meth c H locs 0 0 (MQ below (va_Qi (fun r u => Q r u) (fun u t => xEnd D ((fun u : XT => (wX cI cJ cB cZ ad u)) u) A t) A) args s 0 0 A) (F0 m 19 ls [])) ∧
      (∀ (t : XT) (li : Nat → Int32) (lj : Nat → Int64) (H : Heap) (locs : List Loc) (ls : Array Slot), wpX11_auto k 2 t li lj Q → lv_has ls 2 [(0, .ref (ad 0)), (1, .int (li 1))] → Hp D A s.heap (wX cI cJ cB cZ ad t) H locs → W p l e { frames := 5, cells := 0, slots := 0, locals := 113 } s m args below meth c H locs 0 0 (MQ below (va_Qi (fun r u => Q r u) (fun u t => xEnd D ((fun u : XT => (wX cI cJ cB cZ ad u)) u) A t) A) args s 0 0 A) (F0 m 73 ls [])) := by
    intro k
    induction k with
    | zero => exact ⟨fun _ _ _ _ _ _ hR => False.elim hR, fun _ _ _ _ _ _ hR => False.elim hR, fun _ _ _ _ _ _ hR => False.elim hR⟩
    | succ k ih =>
      refine ⟨?_, ?_, ?_⟩
      · intro t li lj H locs ls hR hl h
        have hR : wbX11_auto_0 (wpX11_auto k) k t li lj Q := hR
        unfold wbX11_auto_0 at hR
        refine lv_iload_n hx hb dX11_auto_0 rfl (lv_at hl 1 rfl) ?_
        refine lv_if_lt (tgt := 19) hx hb dX11_auto_1 (by decide) (fun c_1 => ?_) (fun c_1 => ?_)
        · have hR := hR.1 c_1
          exact ih.2.1 t li lj H locs ls hR (lv_sub hl [0, 1] rfl) h
        · have hR := hR.2 c_1
          refine lv_iload_n hx hb dX11_auto_4 rfl (lv_at hl 1 rfl) ?_
          refine lv_iconst (v := 2) hx hb dX11_auto_5 (by decide) ?_
          refine lv_icmp_gt (tgt := 19) hx hb dX11_auto_6 (by decide) (fun c_2 => ?_) (fun c_2 => ?_)
          · have hR := hR.1 c_2
            exact ih.2.1 t li lj H locs ls hR (lv_sub hl [0, 1] rfl) h
          · have hR := hR.2 c_2
            refine lv_aload_n hx hb dX11_auto_9 rfl (lv_at hl 0 rfl) ?_
            refine x_get (ci := 11) (C := RX11) (T := TX11) (N := 11) (v := .ref (ad 3)) B h hin11 0 2 rfl rfl (by decide) (by decide +kernel) rfl dX11_auto_10 ?_
            refine x_get (ci := 9) (C := RX9) (T := TX9) (N := 7) (v := .int (t.1 4)) B h hin9 3 0 rfl rfl (by decide) (by decide +kernel) rfl dX11_auto_13 ?_
            refine lv_if_ne (tgt := 21) hx hb dX11_auto_16 (by decide) (fun c_3 => ?_) (fun c_3 => ?_)
            · have hR := hR.1 c_3
              refine lv_aload_n hx hb dX11_auto_21 rfl (lv_at hl 0 rfl) ?_
              refine x_get (ci := 11) (C := RX11) (T := TX11) (N := 11) (v := .ref (ad 9)) B h hin11 0 8 rfl rfl (by decide) (by decide +kernel) rfl dX11_auto_22 ?_
              refine lv_aload_n hx hb dX11_auto_25 rfl (lv_at hl 0 rfl) ?_
              refine x_get (ci := 11) (C := RX11) (T := TX11) (N := 11) (v := .ref (ad 4)) B h hin11 0 3 rfl rfl (by decide) (by decide +kernel) rfl dX11_auto_26 ?_
              refine x_cVVF (n := 1) (As := [.ref (ad 4)]) (rest := []) B h (wkX3_save_c4 l D cI cJ cB cZ ad k t  _ hR) ⟨⟨_, rfl⟩, by decide +kernel, Nat.le_of_ble_eq_true rfl, Nat.le_of_ble_eq_true rfl⟩ gX11_auto_X3_save (show ((wX cI cJ cB cZ ad t) : va_W)[9]? = some (_, .inr (3, _)) from rfl) rfl rfl hl.1 rfl (Nat.le_of_ble_eq_true rfl) dX11_auto_29 ⟨Nat.le_of_ble_eq_true rfl, Nat.le_of_ble_eq_true rfl⟩ (fun t_4 H locs hR h => ?_)
              refine lv_aload_n hx hb dX11_auto_32 rfl (lv_at hl 0 rfl) ?_
              refine x_get (ci := 11) (C := RX11) (T := TX11) (N := 11) (v := .ref (ad 4)) B h hin11 0 3 rfl rfl (by decide) (by decide +kernel) rfl dX11_auto_33 ?_
              refine lv_aload_n hx hb dX11_auto_36 rfl (lv_at hl 0 rfl) ?_
              refine x_get (ci := 11) (C := RX11) (T := TX11) (N := 11) (v := .ref (ad 4)) B h hin11 0 3 rfl rfl (by decide) (by decide +kernel) rfl dX11_auto_37 ?_
              refine x_get (ci := 6) (C := RX6) (T := TX6) (N := 6) (v := .long (t_4.2.1 0)) B h hin6 4 2 rfl rfl (by decide) (by decide +kernel) rfl dX11_auto_40 ?_
              refine x_cVVF (n := 1) (As := [.long (t_4.2.1 0)]) (rest := []) B h (wkX6_restart l D cI cJ cB cZ ad k t_4 (t_4.2.1 0) _ hR) ⟨⟨_, rfl⟩, by decide +kernel, Nat.le_of_ble_eq_true rfl, Nat.le_of_ble_eq_true rfl⟩ gX11_auto_X6_restart (show ((wX cI cJ cB cZ ad t_4) : va_W)[4]? = some (_, .inr (6, _)) from rfl) rfl rfl hl.1 rfl (Nat.le_of_ble_eq_true rfl) dX11_auto_43 ⟨Nat.le_of_ble_eq_true rfl, Nat.le_of_ble_eq_true rfl⟩ (fun t_5 H locs hR h => ?_)
              refine lv_iload_n hx hb dX11_auto_46 rfl (lv_at hl 1 rfl) ?_
              refine lv_if_ne (tgt := 57) hx hb dX11_auto_47 (by decide) (fun c_6 => ?_) (fun c_6 => ?_)
              · have hR := hR.1 c_6
                refine lv_iload_n hx hb dX11_auto_57 rfl (lv_at hl 1 rfl) ?_
                refine lv_iconst (v := 1) hx hb dX11_auto_58 (by decide) ?_
                refine lv_icmp_ne (tgt := 69) hx hb dX11_auto_59 (by decide) (fun c_7 => ?_) (fun c_7 => ?_)
                · have hR := hR.1 c_7
                  refine lv_aload_n hx hb dX11_auto_69 rfl (lv_at hl 0 rfl) ?_
                  refine x_cVVF (n := 0) (As := []) (rest := []) B h (wkX11_pairByPeeling l D cI cJ cB cZ ad k t_5  _ hR) ⟨⟨_, rfl⟩, by decide +kernel, Nat.le_of_ble_eq_true rfl, Nat.le_of_ble_eq_true rfl⟩ gX11_auto_X11_pairByPeeling (show ((wX cI cJ cB cZ ad t_5) : va_W)[0]? = some (_, .inr (11, _)) from rfl) rfl rfl hl.1 rfl (Nat.le_of_ble_eq_true rfl) dX11_auto_70 ⟨Nat.le_of_ble_eq_true rfl, Nat.le_of_ble_eq_true rfl⟩ (fun t_8 H locs hR h => ?_)
                  exact ih.2.2 t_8 li lj H locs ls hR (lv_sub hl [0, 1] rfl) h
                · have hR := hR.2 c_7
                  refine lv_aload_n hx hb dX11_auto_62 rfl (lv_at hl 0 rfl) ?_
                  refine x_cVVF (n := 0) (As := []) (rest := []) B h (wkX11_pairDownwards l D cI cJ cB cZ ad k t_5  _ hR) ⟨⟨_, rfl⟩, by decide +kernel, Nat.le_of_ble_eq_true rfl, Nat.le_of_ble_eq_true rfl⟩ gX11_auto_X11_pairDownwards (show ((wX cI cJ cB cZ ad t_5) : va_W)[0]? = some (_, .inr (11, _)) from rfl) rfl rfl hl.1 rfl (Nat.le_of_ble_eq_true rfl) dX11_auto_63 ⟨Nat.le_of_ble_eq_true rfl, Nat.le_of_ble_eq_true rfl⟩ (fun t_9 H locs hR h => ?_)
                  refine lv_goto (tgt := 73) hx hb dX11_auto_66 (by decide) ?_
                  exact ih.2.2 t_9 li lj H locs ls hR (lv_sub hl [0, 1] rfl) h
              · have hR := hR.2 c_6
                refine lv_aload_n hx hb dX11_auto_50 rfl (lv_at hl 0 rfl) ?_
                refine x_cVVF (n := 0) (As := []) (rest := []) B h (wkX11_pairUpwards l D cI cJ cB cZ ad k t_5  _ hR) ⟨⟨_, rfl⟩, by decide +kernel, Nat.le_of_ble_eq_true rfl, Nat.le_of_ble_eq_true rfl⟩ gX11_auto_X11_pairUpwards (show ((wX cI cJ cB cZ ad t_5) : va_W)[0]? = some (_, .inr (11, _)) from rfl) rfl rfl hl.1 rfl (Nat.le_of_ble_eq_true rfl) dX11_auto_51 ⟨Nat.le_of_ble_eq_true rfl, Nat.le_of_ble_eq_true rfl⟩ (fun t_10 H locs hR h => ?_)
                refine lv_goto (tgt := 73) hx hb dX11_auto_54 (by decide) ?_
                exact ih.2.2 t_10 li lj H locs ls hR (lv_sub hl [0, 1] rfl) h
            · have hR := hR.2 c_3
              exact ih.2.1 t li lj H locs ls hR (lv_sub hl [0, 1] rfl) h
      · intro t li lj H locs ls hR hl h
        have hR : wbX11_auto_1 (wpX11_auto k) k t li lj Q := hR
        unfold wbX11_auto_1 at hR
        refine lv_iconst (v := (-1)) hx hb dX11_auto_19 (by decide) ?_
        exact x_iret (w1 := (fun u : XT => (wX cI cJ cB cZ ad u))) t B h hr rfl hR dX11_auto_20
      · intro t li lj H locs ls hR hl h
        have hR : wbX11_auto_2 (wpX11_auto k) k t li lj Q := hR
        unfold wbX11_auto_2 at hR
        refine lv_aload_n hx hb dX11_auto_73 rfl (lv_at hl 0 rfl) ?_
        refine x_cVIF (n := 0) (As := []) (rest := []) B h (wkX11_criticalOnes l D cI cJ cB cZ ad k t  _ hR) ⟨⟨_, rfl⟩, by decide +kernel, Nat.le_of_ble_eq_true rfl, Nat.le_of_ble_eq_true rfl⟩ gX11_auto_X11_criticalOnes (show ((wX cI cJ cB cZ ad t) : va_W)[0]? = some (_, .inr (11, _)) from rfl) rfl rfl hl.1 rfl (Nat.le_of_ble_eq_true rfl) dX11_auto_74 ⟨Nat.le_of_ble_eq_true rfl, Nat.le_of_ble_eq_true rfl⟩ (fun r_11 t_11 H locs hR h => ?_)
        exact x_iret (w1 := (fun u : XT => (wX cI cJ cB cZ ad u))) t_11 B h hr rfl hR dX11_auto_77
  exact (main k).1 t _ _ s.heap [] ls hR hl h
def wbX11_areEnds_0 (rec : Nat → XT → (Nat → Int32) → (Nat → Int64) → (Int32 → XT → Prop) → Prop) (k : Nat) (t : XT) (li : Nat → Int32) (lj : Nat → Int64) (Q : Int32 → XT → Prop) : Prop :=
  (wqX11_isThere k t (li 1) (fun r_1 t_1 => ((r_1 = 0) → rec 1 t_1 li lj Q) ∧ (¬ (r_1 = 0) → (wqX11_isThere k t_1 (li 2) (fun r_3 t_3 => ((¬ r_3 = 0) → (vp_in (li 1) 64 ∧ (∀ v_5 : Int32, v_5 = (t_3.2.2.1 3) (li 1).toNatClampNeg → (vp_in (li 2) 64 ∧ (∀ v_6 : Int32, v_6 = (t_3.2.2.1 3) (li 2).toNatClampNeg → (∀ v_7 : Int32, v_7 = (v_6 + 1) → ((v_5 = v_7) → (wqX6_isCritical k t_3 (li 1) (fun r_9 t_9 => ((r_9 = 0) → rec 2 t_9 li lj Q) ∧ (¬ (r_9 = 0) → (wqX6_isCritical k t_9 (li 2) (fun r_11 t_11 => ((r_11 = 0) → rec 2 t_11 li lj Q) ∧ (¬ (r_11 = 0) → Q 1 t_11))))))) ∧ (¬ (v_5 = v_7) → Q 0 t_3))))))) ∧ ((r_3 = 0) → rec 1 t_3 li lj Q))))))
def wbX11_areEnds_1 (rec : Nat → XT → (Nat → Int32) → (Nat → Int64) → (Int32 → XT → Prop) → Prop) (k : Nat) (t : XT) (li : Nat → Int32) (lj : Nat → Int64) (Q : Int32 → XT → Prop) : Prop :=
  Q 0 t
def wbX11_areEnds_2 (rec : Nat → XT → (Nat → Int32) → (Nat → Int64) → (Int32 → XT → Prop) → Prop) (k : Nat) (t : XT) (li : Nat → Int32) (lj : Nat → Int64) (Q : Int32 → XT → Prop) : Prop :=
  Q 0 t
def wpX11_areEnds : Nat → Nat → XT → (Nat → Int32) → (Nat → Int64) → (Int32 → XT → Prop) → Prop
  | 0, _, _, _, _, _ => False
  | k + 1, 0, t, li, lj, Q => wbX11_areEnds_0 (wpX11_areEnds k) k t li lj Q
  | k + 1, 1, t, li, lj, Q => wbX11_areEnds_1 (wpX11_areEnds k) k t li lj Q
  | k + 1, 2, t, li, lj, Q => wbX11_areEnds_2 (wpX11_areEnds k) k t li lj Q
  | _ + 1, _, _, _, _, _ => False
def wqX11_areEnds (k : Nat) (t : XT) (a1 : Int32) (a2 : Int32) (Q : Int32 → XT → Prop) : Prop := wpX11_areEnds k 0 t (uI (uI (fun _ => 0) 1 a1) 2 a2) (fun _ => 0) Q
set_option maxHeartbeats 8000000 in
set_option maxRecDepth 100000 in
theorem wkX11_areEnds (l : Launch) (D : va_G) (cI cJ cB cZ : ClassId) (ad : Nat → Nat) (k : Nat) (t : XT) (a1 : Int32) (a2 : Int32) (Q : Int32 → XT → Prop) (hR : wqX11_areEnds k t a1 a2 Q) : MetI l yX11_areEnds wsX11_areEnds 2 43 0 0 D (TYS cI cJ cB cZ) (wX cI cJ cB cZ ad t) [.ref (ad 0), .int a1, .int a2] (fun r u => Q r u) (fun u : XT => (wX cI cJ cB cZ ad u)) := by
  refine x_startI (ty := .boolean) (cc := cX11_areEnds) (by decide) rfl (Nat.le_of_ble_eq_true rfl) ?_
  intro p e s m args below meth c A ls B hr hnm h hl
  have hx := B.1.1
  have hb := B.1.2.1
  have hml := B.1.2.2.1
  have hts := B.1.2.2.2.2
  have hown : s.vm.findClass RX11 = some m.cls := B.1.2.2.2.1
  have hin9 : ∀ w ∈ u_ws RX9 TX9 7, w ∈ wsX11_areEnds := by decide +kernel
  have hin11 : ∀ w ∈ u_ws RX11 TX11 11, w ∈ wsX11_areEnds := by decide +kernel
  have main : ∀ k : Nat, (∀ (t : XT) (li : Nat → Int32) (lj : Nat → Int64) (H : Heap) (locs : List Loc) (ls : Array Slot), wpX11_areEnds k 0 t li lj Q → lv_has ls 3 [(0, .ref (ad 0)), (1, .int (li 1)), (2, .int (li 2))] → Hp D A s.heap (wX cI cJ cB cZ ad t) H locs → W p l e { frames := 2, cells := 0, slots := 0, locals := 43 } s m args below meth c H locs 0 0 (MQ below (va_Qi (fun r u => Q r u) (fun u t => xEnd D ((fun u : XT => (wX cI cJ cB cZ ad u)) u) A t) A) args s 0 0 A) (F0 m 0 ls [])) ∧
      (∀ (t : XT) (li : Nat → Int32) (lj : Nat → Int64) (H : Heap) (locs : List Loc) (ls : Array Slot), wpX11_areEnds k 1 t li lj Q → lv_has ls 3 [(0, .ref (ad 0)), (1, .int (li 1)), (2, .int (li 2))] → Hp D A s.heap (wX cI cJ cB cZ ad t) H locs → W p l e { frames := 2, cells := 0, slots := 0, locals := 43 } s m args below meth c H locs 0 0 (MQ below (va_Qi (fun r u => Q r u) (fun u t => xEnd D ((fun u : XT => (wX cI cJ cB cZ ad u)) u) A t) A) args s 0 0 A) (F0 m 16 ls [])) ∧
      (∀ (t : XT) (li : Nat → Int32) (lj : Nat → Int64) (H : Heap) (locs : List Loc) (ls : Array Slot), wpX11_areEnds k 2 t li lj Q → lv_has ls 3 [(0, .ref (ad 0)), (1, .int (li 1)), (2, .int (li 2))] → Hp D A s.heap (wX cI cJ cB cZ ad t) H locs → W p l e { frames := 2, cells := 0, slots := 0, locals := 43 } s m args below meth c H locs 0 0 (MQ below (va_Qi (fun r u => Q r u) (fun u t => xEnd D ((fun u : XT => (wX cI cJ cB cZ ad u)) u) A t) A) args s 0 0 A) (F0 m 69 ls [])) := by
    intro k
    induction k with
    | zero => exact ⟨fun _ _ _ _ _ _ hR => False.elim hR, fun _ _ _ _ _ _ hR => False.elim hR, fun _ _ _ _ _ _ hR => False.elim hR⟩
    | succ k ih =>
      refine ⟨?_, ?_, ?_⟩
      · intro t li lj H locs ls hR hl h
        have hR : wbX11_areEnds_0 (wpX11_areEnds k) k t li lj Q := hR
        unfold wbX11_areEnds_0 at hR
        refine lv_aload_n hx hb dX11_areEnds_0 rfl (lv_at hl 0 rfl) ?_
        refine lv_iload_n hx hb dX11_areEnds_1 rfl (lv_at hl 1 rfl) ?_
        refine x_cVIF (n := 1) (As := [.int (li 1)]) (rest := []) B h (wkX11_isThere l D cI cJ cB cZ ad k t (li 1) _ hR) ⟨⟨_, rfl⟩, by decide +kernel, Nat.le_of_ble_eq_true rfl, Nat.le_of_ble_eq_true rfl⟩ gX11_areEnds_X11_isThere (show ((wX cI cJ cB cZ ad t) : va_W)[0]? = some (_, .inr (11, _)) from rfl) rfl rfl hl.1 rfl (Nat.le_of_ble_eq_true rfl) dX11_areEnds_2 ⟨Nat.le_of_ble_eq_true rfl, Nat.le_of_ble_eq_true rfl⟩ (fun r_1 t_1 H locs hR h => ?_)
        refine lv_if_eq (tgt := 16) hx hb dX11_areEnds_5 (by decide) (fun c_2 => ?_) (fun c_2 => ?_)
        · have hR := hR.1 c_2
          exact ih.2.1 t_1 li lj H locs ls hR (lv_sub hl [0, 1, 2] rfl) h
        · have hR := hR.2 c_2
          refine lv_aload_n hx hb dX11_areEnds_8 rfl (lv_at hl 0 rfl) ?_
          refine lv_iload_n hx hb dX11_areEnds_9 rfl (lv_at hl 2 rfl) ?_
          refine x_cVIF (n := 1) (As := [.int (li 2)]) (rest := []) B h (wkX11_isThere l D cI cJ cB cZ ad k t_1 (li 2) _ hR) ⟨⟨_, rfl⟩, by decide +kernel, Nat.le_of_ble_eq_true rfl, Nat.le_of_ble_eq_true rfl⟩ gX11_areEnds_X11_isThere (show ((wX cI cJ cB cZ ad t_1) : va_W)[0]? = some (_, .inr (11, _)) from rfl) rfl rfl hl.1 rfl (Nat.le_of_ble_eq_true rfl) dX11_areEnds_10 ⟨Nat.le_of_ble_eq_true rfl, Nat.le_of_ble_eq_true rfl⟩ (fun r_3 t_3 H locs hR h => ?_)
          refine lv_if_ne (tgt := 18) hx hb dX11_areEnds_13 (by decide) (fun c_4 => ?_) (fun c_4 => ?_)
          · have hR := hR.1 c_4
            refine lv_aload_n hx hb dX11_areEnds_18 rfl (lv_at hl 0 rfl) ?_
            refine x_get (ci := 11) (C := RX11) (T := TX11) (N := 11) (v := .ref (ad 3)) B h hin11 0 2 rfl rfl (by decide) (by decide +kernel) rfl dX11_areEnds_19 ?_
            refine x_get (ci := 9) (C := RX9) (T := TX9) (N := 7) (v := .ref (ad 15)) B h hin9 3 2 rfl rfl (by decide) (by decide +kernel) rfl dX11_areEnds_22 ?_
            refine lv_iload_n hx hb dX11_areEnds_25 rfl (lv_at hl 1 rfl) ?_
            obtain ⟨hb_5, hR⟩ := hR
            refine va_iald (f := (t_3.2.2.1 3)) hx hb B.2.1 h.1 15 0 rfl rfl hb_5 dX11_areEnds_26 ?_
            refine lv_topi (fun v_5 ev_5 => ?_)
            have hR := hR v_5 ev_5
            refine lv_aload_n hx hb dX11_areEnds_27 rfl (lv_at hl 0 rfl) ?_
            refine x_get (ci := 11) (C := RX11) (T := TX11) (N := 11) (v := .ref (ad 3)) B h hin11 0 2 rfl rfl (by decide) (by decide +kernel) rfl dX11_areEnds_28 ?_
            refine x_get (ci := 9) (C := RX9) (T := TX9) (N := 7) (v := .ref (ad 15)) B h hin9 3 2 rfl rfl (by decide) (by decide +kernel) rfl dX11_areEnds_31 ?_
            refine lv_iload_n hx hb dX11_areEnds_34 rfl (lv_at hl 2 rfl) ?_
            obtain ⟨hb_6, hR⟩ := hR
            refine va_iald (f := (t_3.2.2.1 3)) hx hb B.2.1 h.1 15 0 rfl rfl hb_6 dX11_areEnds_35 ?_
            refine lv_topi (fun v_6 ev_6 => ?_)
            have hR := hR v_6 ev_6
            refine lv_iconst (v := 1) hx hb dX11_areEnds_36 (by decide) ?_
            refine lv_iadd hx hb dX11_areEnds_37 ?_
            refine lv_topi (fun v_7 ev_7 => ?_)
            have hR := hR v_7 ev_7
            refine lv_icmp_eq (tgt := 43) hx hb dX11_areEnds_38 (by decide) (fun c_8 => ?_) (fun c_8 => ?_)
            · have hR := hR.1 c_8
              refine lv_aload_n hx hb dX11_areEnds_43 rfl (lv_at hl 0 rfl) ?_
              refine x_get (ci := 11) (C := RX11) (T := TX11) (N := 11) (v := .ref (ad 4)) B h hin11 0 3 rfl rfl (by decide) (by decide +kernel) rfl dX11_areEnds_44 ?_
              refine lv_iload_n hx hb dX11_areEnds_47 rfl (lv_at hl 1 rfl) ?_
              refine x_cVIF (n := 1) (As := [.int (li 1)]) (rest := []) B h (wkX6_isCritical l D cI cJ cB cZ ad k t_3 (li 1) _ hR) ⟨⟨_, rfl⟩, by decide +kernel, Nat.le_of_ble_eq_true rfl, Nat.le_of_ble_eq_true rfl⟩ gX11_areEnds_X6_isCritical (show ((wX cI cJ cB cZ ad t_3) : va_W)[4]? = some (_, .inr (6, _)) from rfl) rfl rfl hl.1 rfl (Nat.le_of_ble_eq_true rfl) dX11_areEnds_48 ⟨Nat.le_of_ble_eq_true rfl, Nat.le_of_ble_eq_true rfl⟩ (fun r_9 t_9 H locs hR h => ?_)
              refine lv_if_eq (tgt := 69) hx hb dX11_areEnds_51 (by decide) (fun c_10 => ?_) (fun c_10 => ?_)
              · have hR := hR.1 c_10
                exact ih.2.2 t_9 li lj H locs ls hR (lv_sub hl [0, 1, 2] rfl) h
              · have hR := hR.2 c_10
                refine lv_aload_n hx hb dX11_areEnds_54 rfl (lv_at hl 0 rfl) ?_
                refine x_get (ci := 11) (C := RX11) (T := TX11) (N := 11) (v := .ref (ad 4)) B h hin11 0 3 rfl rfl (by decide) (by decide +kernel) rfl dX11_areEnds_55 ?_
                refine lv_iload_n hx hb dX11_areEnds_58 rfl (lv_at hl 2 rfl) ?_
                refine x_cVIF (n := 1) (As := [.int (li 2)]) (rest := []) B h (wkX6_isCritical l D cI cJ cB cZ ad k t_9 (li 2) _ hR) ⟨⟨_, rfl⟩, by decide +kernel, Nat.le_of_ble_eq_true rfl, Nat.le_of_ble_eq_true rfl⟩ gX11_areEnds_X6_isCritical (show ((wX cI cJ cB cZ ad t_9) : va_W)[4]? = some (_, .inr (6, _)) from rfl) rfl rfl hl.1 rfl (Nat.le_of_ble_eq_true rfl) dX11_areEnds_59 ⟨Nat.le_of_ble_eq_true rfl, Nat.le_of_ble_eq_true rfl⟩ (fun r_11 t_11 H locs hR h => ?_)
                refine lv_if_eq (tgt := 69) hx hb dX11_areEnds_62 (by decide) (fun c_12 => ?_) (fun c_12 => ?_)
                · have hR := hR.1 c_12
                  exact ih.2.2 t_11 li lj H locs ls hR (lv_sub hl [0, 1, 2] rfl) h
                · have hR := hR.2 c_12
                  refine lv_iconst (v := 1) hx hb dX11_areEnds_65 (by decide) ?_
                  refine lv_goto (tgt := 70) hx hb dX11_areEnds_66 (by decide) ?_
                  exact x_iret (w1 := (fun u : XT => (wX cI cJ cB cZ ad u))) t_11 B h hr rfl hR dX11_areEnds_70
            · have hR := hR.2 c_8
              refine lv_iconst (v := 0) hx hb dX11_areEnds_41 (by decide) ?_
              exact x_iret (w1 := (fun u : XT => (wX cI cJ cB cZ ad u))) t_3 B h hr rfl hR dX11_areEnds_42
          · have hR := hR.2 c_4
            exact ih.2.1 t_3 li lj H locs ls hR (lv_sub hl [0, 1, 2] rfl) h
      · intro t li lj H locs ls hR hl h
        have hR : wbX11_areEnds_1 (wpX11_areEnds k) k t li lj Q := hR
        unfold wbX11_areEnds_1 at hR
        refine lv_iconst (v := 0) hx hb dX11_areEnds_16 (by decide) ?_
        exact x_iret (w1 := (fun u : XT => (wX cI cJ cB cZ ad u))) t B h hr rfl hR dX11_areEnds_17
      · intro t li lj H locs ls hR hl h
        have hR : wbX11_areEnds_2 (wpX11_areEnds k) k t li lj Q := hR
        unfold wbX11_areEnds_2 at hR
        refine lv_iconst (v := 0) hx hb dX11_areEnds_69 (by decide) ?_
        exact x_iret (w1 := (fun u : XT => (wX cI cJ cB cZ ad u))) t B h hr rfl hR dX11_areEnds_70
  exact (main k).1 t _ _ s.heap [] ls hR hl h
def wbX6_below_0 (rec : Nat → XT → (Nat → Int32) → (Nat → Int64) → (Int64 → XT → Prop) → Prop) (k : Nat) (t : XT) (li : Nat → Int32) (lj : Nat → Int64) (Q : Int64 → XT → Prop) : Prop :=
  (vp_in (li 1) 64 ∧ (∀ v_1 : Int32, v_1 = (t.2.2.1 5) (li 1).toNatClampNeg → ((¬ v_1 = (-1)) → (vp_in (li 1) 64 ∧ (∀ v_3 : Int64, v_3 = (t.2.2.2 0) (li 1).toNatClampNeg → (vp_in (li 1) 64 ∧ (∀ v_4 : Int32, v_4 = (t.2.2.1 5) (li 1).toNatClampNeg → (∀ v_5 : Int64, v_5 = ((1 : Int64) <<< (v_4.toInt64 &&& 63)) → (∀ v_6 : Int64, v_6 = (v_5 ^^^ (-1)) → (∀ v_7 : Int64, v_7 = (v_3 &&& v_6) → Q v_7 t)))))))) ∧ ((v_1 = (-1)) → (vp_in (li 1) 64 ∧ (∀ v_8 : Int64, v_8 = (t.2.2.2 0) (li 1).toNatClampNeg → Q v_8 t)))))
def wpX6_below : Nat → Nat → XT → (Nat → Int32) → (Nat → Int64) → (Int64 → XT → Prop) → Prop
  | 0, _, _, _, _, _ => False
  | k + 1, 0, t, li, lj, Q => wbX6_below_0 (wpX6_below k) k t li lj Q
  | _ + 1, _, _, _, _, _ => False
def wqX6_below (k : Nat) (t : XT) (a1 : Int32) (Q : Int64 → XT → Prop) : Prop := wpX6_below k 0 t (uI (fun _ => 0) 1 a1) (fun _ => 0) Q
set_option maxHeartbeats 8000000 in
set_option maxRecDepth 100000 in
theorem wkX6_below (l : Launch) (D : va_G) (cI cJ cB cZ : ClassId) (ad : Nat → Nat) (k : Nat) (t : XT) (a1 : Int32) (Q : Int64 → XT → Prop) (hR : wqX6_below k t a1 Q) : MetL l yX6_below wsX6_below 0 0 0 0 D (TYS cI cJ cB cZ) (wX cI cJ cB cZ ad t) [.ref (ad 4), .int a1] (fun r u => Q r u) (fun u : XT => (wX cI cJ cB cZ ad u)) := by
  refine x_startL (ty := .long) (cc := cX6_below) (by decide) rfl (Nat.le_of_ble_eq_true rfl) ?_
  intro p e s m args below meth c A ls B hr hnm h hl
  have hx := B.1.1
  have hb := B.1.2.1
  have hml := B.1.2.2.1
  have hts := B.1.2.2.2.2
  have hown : s.vm.findClass RX6 = some m.cls := B.1.2.2.2.1
  have hin6 : ∀ w ∈ u_ws RX6 TX6 6, w ∈ wsX6_below := by decide +kernel
  have hin9 : ∀ w ∈ u_ws RX9 TX9 7, w ∈ wsX6_below := by decide +kernel
  have main : ∀ k : Nat, (∀ (t : XT) (li : Nat → Int32) (lj : Nat → Int64) (H : Heap) (locs : List Loc) (ls : Array Slot), wpX6_below k 0 t li lj Q → lv_has ls 2 [(0, .ref (ad 4)), (1, .int (li 1))] → Hp D A s.heap (wX cI cJ cB cZ ad t) H locs → W p l e { frames := 0, cells := 0, slots := 0, locals := 0 } s m args below meth c H locs 0 0 (MQ below (va_Ql (fun r u => Q r u) (fun u t => xEnd D ((fun u : XT => (wX cI cJ cB cZ ad u)) u) A t) A) args s 0 0 A) (F0 m 0 ls [])) := by
    intro k
    induction k with
    | zero => exact fun _ _ _ _ _ _ hR => False.elim hR
    | succ k ih =>
      intro t li lj H locs ls hR hl h
      have hR : wbX6_below_0 (wpX6_below k) k t li lj Q := hR
      unfold wbX6_below_0 at hR
      refine lv_aload_n hx hb dX6_below_0 rfl (lv_at hl 0 rfl) ?_
      refine x_get (ci := 6) (C := RX6) (T := TX6) (N := 6) (v := .ref (ad 20)) B h hin6 4 1 rfl rfl (by decide) (by decide +kernel) rfl dX6_below_1 ?_
      refine lv_iload_n hx hb dX6_below_4 rfl (lv_at hl 1 rfl) ?_
      obtain ⟨hb_1, hR⟩ := hR
      refine va_iald (f := (t.2.2.1 5)) hx hb B.2.1 h.1 20 0 rfl rfl hb_1 dX6_below_5 ?_
      refine lv_topi (fun v_1 ev_1 => ?_)
      have hR := hR v_1 ev_1
      refine lv_iconst (v := (-1)) hx hb dX6_below_6 (by decide) ?_
      refine lv_icmp_ne (tgt := 22) hx hb dX6_below_7 (by decide) (fun c_2 => ?_) (fun c_2 => ?_)
      · have hR := hR.1 c_2
        refine lv_aload_n hx hb dX6_below_22 rfl (lv_at hl 0 rfl) ?_
        refine x_get (ci := 6) (C := RX6) (T := TX6) (N := 6) (v := .ref (ad 3)) B h hin6 4 0 rfl rfl (by decide) (by decide +kernel) rfl dX6_below_23 ?_
        refine x_get (ci := 9) (C := RX9) (T := TX9) (N := 7) (v := .ref (ad 17)) B h hin9 3 4 rfl rfl (by decide) (by decide +kernel) rfl dX6_below_26 ?_
        refine lv_iload_n hx hb dX6_below_29 rfl (lv_at hl 1 rfl) ?_
        obtain ⟨hb_3, hR⟩ := hR
        refine va_lald (f := (t.2.2.2 0)) hx hb B.2.1 h.1 17 1 rfl rfl hb_3 dX6_below_30 ?_
        refine lv_topl (fun v_3 ev_3 => ?_)
        have hR := hR v_3 ev_3
        refine lv_lconst (v := 1) hx hb dX6_below_31 (by decide) ?_
        refine lv_aload_n hx hb dX6_below_32 rfl (lv_at hl 0 rfl) ?_
        refine x_get (ci := 6) (C := RX6) (T := TX6) (N := 6) (v := .ref (ad 20)) B h hin6 4 1 rfl rfl (by decide) (by decide +kernel) rfl dX6_below_33 ?_
        refine lv_iload_n hx hb dX6_below_36 rfl (lv_at hl 1 rfl) ?_
        obtain ⟨hb_4, hR⟩ := hR
        refine va_iald (f := (t.2.2.1 5)) hx hb B.2.1 h.1 20 0 rfl rfl hb_4 dX6_below_37 ?_
        refine lv_topi (fun v_4 ev_4 => ?_)
        have hR := hR v_4 ev_4
        obtain ⟨v_5, ev_5⟩ : ∃ v : Int64, v = ((1 : Int64) <<< (v_4.toInt64 &&& 63)) := ⟨_, rfl⟩
        have hR := hR v_5 ev_5
        refine lv_lshl (v := v_5) hx hb dX6_below_38 ev_5.symm ?_
        refine lv_ldc2 (v := (-1)) hx hb hown (hts (.constantLong RX6 43 (-1)) (by decide +kernel)) dX6_below_39 ?_
        refine lv_lxor hx hb dX6_below_42 ?_
        refine lv_topl (fun v_6 ev_6 => ?_)
        have hR := hR v_6 ev_6
        refine lv_land hx hb dX6_below_43 ?_
        refine lv_topl (fun v_7 ev_7 => ?_)
        have hR := hR v_7 ev_7
        exact x_lret (w1 := (fun u : XT => (wX cI cJ cB cZ ad u))) t B h hr hR dX6_below_44
      · have hR := hR.2 c_2
        refine lv_aload_n hx hb dX6_below_10 rfl (lv_at hl 0 rfl) ?_
        refine x_get (ci := 6) (C := RX6) (T := TX6) (N := 6) (v := .ref (ad 3)) B h hin6 4 0 rfl rfl (by decide) (by decide +kernel) rfl dX6_below_11 ?_
        refine x_get (ci := 9) (C := RX9) (T := TX9) (N := 7) (v := .ref (ad 17)) B h hin9 3 4 rfl rfl (by decide) (by decide +kernel) rfl dX6_below_14 ?_
        refine lv_iload_n hx hb dX6_below_17 rfl (lv_at hl 1 rfl) ?_
        obtain ⟨hb_8, hR⟩ := hR
        refine va_lald (f := (t.2.2.2 0)) hx hb B.2.1 h.1 17 1 rfl rfl hb_8 dX6_below_18 ?_
        refine lv_topl (fun v_8 ev_8 => ?_)
        have hR := hR v_8 ev_8
        refine lv_goto (tgt := 44) hx hb dX6_below_19 (by decide) ?_
        exact x_lret (w1 := (fun u : XT => (wX cI cJ cB cZ ad u))) t B h hr hR dX6_below_44
  exact (main k) t _ _ s.heap [] ls hR hl h
def wbX1_waysDown_0 (rec : Nat → XT → (Nat → Int32) → (Nat → Int64) → (Int64 → XT → Prop) → Prop) (k : Nat) (t : XT) (li : Nat → Int32) (lj : Nat → Int64) (Q : Int64 → XT → Prop) : Prop :=
  (wqX6_below k t (li 1) (fun r_1 t_1 => rec 1 t_1 (uI li 6 0) (uI (uI lj 2 0) 4 r_1) Q))
def wbX1_waysDown_1 (rec : Nat → XT → (Nat → Int32) → (Nat → Int64) → (Int64 → XT → Prop) → Prop) (k : Nat) (t : XT) (li : Nat → Int32) (lj : Nat → Int64) (Q : Int64 → XT → Prop) : Prop :=
  (((5 : Int32) ≤ (li 6)) → rec 2 t li lj Q) ∧ (¬ ((5 : Int32) ≤ (li 6)) → (∀ v_3 : Int32, v_3 = (lg_cmp (lj 4) 0) → ((v_3 = 0) → rec 2 t li lj Q) ∧ (¬ (v_3 = 0) → (wqX11_lowest k (lj 4) (fun r_5 => (vp_in r_5 64 ∧ (∀ v_6 : Int64, v_6 = (t.2.2.2 4) r_5.toNatClampNeg → (∀ v_7 : Int64, v_7 = ((lj 2) + v_6) → (∀ v_8 : Int64, v_8 = ((lj 4) - 1) → (∀ v_9 : Int64, v_9 = ((lj 4) &&& v_8) → (∀ v_10 : Int32, v_10 = (li 6) + Int32.ofInt 1 → rec 1 t (uI li 6 v_10) (uI (uI lj 2 v_7) 4 v_9) Q)))))))))))
def wbX1_waysDown_2 (rec : Nat → XT → (Nat → Int32) → (Nat → Int64) → (Int64 → XT → Prop) → Prop) (k : Nat) (t : XT) (li : Nat → Int32) (lj : Nat → Int64) (Q : Int64 → XT → Prop) : Prop :=
  Q (lj 2) t
def wpX1_waysDown : Nat → Nat → XT → (Nat → Int32) → (Nat → Int64) → (Int64 → XT → Prop) → Prop
  | 0, _, _, _, _, _ => False
  | k + 1, 0, t, li, lj, Q => wbX1_waysDown_0 (wpX1_waysDown k) k t li lj Q
  | k + 1, 1, t, li, lj, Q => wbX1_waysDown_1 (wpX1_waysDown k) k t li lj Q
  | k + 1, 2, t, li, lj, Q => wbX1_waysDown_2 (wpX1_waysDown k) k t li lj Q
  | _ + 1, _, _, _, _, _ => False
def wqX1_waysDown (k : Nat) (t : XT) (a1 : Int32) (Q : Int64 → XT → Prop) : Prop := wpX1_waysDown k 0 t (uI (fun _ => 0) 1 a1) (fun _ => 0) Q
set_option maxHeartbeats 8000000 in
set_option maxRecDepth 100000 in
theorem wkX1_waysDown (l : Launch) (D : va_G) (cI cJ cB cZ : ClassId) (ad : Nat → Nat) (k : Nat) (t : XT) (a1 : Int32) (Q : Int64 → XT → Prop) (hR : wqX1_waysDown k t a1 Q) : MetL l yX1_waysDown wsX1_waysDown 2 42 0 0 D (TYS cI cJ cB cZ) (wX cI cJ cB cZ ad t) [.ref (ad 7), .int a1] (fun r u => Q r u) (fun u : XT => (wX cI cJ cB cZ ad u)) := by
  refine x_startL (ty := .long) (cc := cX1_waysDown) (by decide) rfl (Nat.le_of_ble_eq_true rfl) ?_
  intro p e s m args below meth c A ls B hr hnm h hl
  have hx := B.1.1
  have hb := B.1.2.1
  have hml := B.1.2.2.1
  have hts := B.1.2.2.2.2
  have hown : s.vm.findClass RX1 = some m.cls := B.1.2.2.2.1
  have hin1 : ∀ w ∈ u_ws RX1 TX1 7, w ∈ wsX1_waysDown := by decide +kernel
  have main : ∀ k : Nat, (∀ (t : XT) (li : Nat → Int32) (lj : Nat → Int64) (H : Heap) (locs : List Loc) (ls : Array Slot), wpX1_waysDown k 0 t li lj Q → lv_has ls 7 [(0, .ref (ad 7)), (1, .int (li 1))] → Hp D A s.heap (wX cI cJ cB cZ ad t) H locs → W p l e { frames := 2, cells := 0, slots := 0, locals := 42 } s m args below meth c H locs 0 0 (MQ below (va_Ql (fun r u => Q r u) (fun u t => xEnd D ((fun u : XT => (wX cI cJ cB cZ ad u)) u) A t) A) args s 0 0 A) (F0 m 0 ls [])) ∧
      (∀ (t : XT) (li : Nat → Int32) (lj : Nat → Int64) (H : Heap) (locs : List Loc) (ls : Array Slot), wpX1_waysDown k 1 t li lj Q → lv_has ls 7 [(0, .ref (ad 7)), (1, .int (li 1)), (2, .long (lj 2)), (4, .long (lj 4)), (6, .int (li 6))] → Hp D A s.heap (wX cI cJ cB cZ ad t) H locs → W p l e { frames := 2, cells := 0, slots := 0, locals := 42 } s m args below meth c H locs 0 0 (MQ below (va_Ql (fun r u => Q r u) (fun u t => xEnd D ((fun u : XT => (wX cI cJ cB cZ ad u)) u) A t) A) args s 0 0 A) (F0 m 15 ls [])) ∧
      (∀ (t : XT) (li : Nat → Int32) (lj : Nat → Int64) (H : Heap) (locs : List Loc) (ls : Array Slot), wpX1_waysDown k 2 t li lj Q → lv_has ls 7 [(0, .ref (ad 7)), (1, .int (li 1)), (2, .long (lj 2)), (4, .long (lj 4)), (6, .int (li 6))] → Hp D A s.heap (wX cI cJ cB cZ ad t) H locs → W p l e { frames := 2, cells := 0, slots := 0, locals := 42 } s m args below meth c H locs 0 0 (MQ below (va_Ql (fun r u => Q r u) (fun u t => xEnd D ((fun u : XT => (wX cI cJ cB cZ ad u)) u) A t) A) args s 0 0 A) (F0 m 56 ls [])) := by
    intro k
    induction k with
    | zero => exact ⟨fun _ _ _ _ _ _ hR => False.elim hR, fun _ _ _ _ _ _ hR => False.elim hR, fun _ _ _ _ _ _ hR => False.elim hR⟩
    | succ k ih =>
      refine ⟨?_, ?_, ?_⟩
      · intro t li lj H locs ls hR hl h
        have hR : wbX1_waysDown_0 (wpX1_waysDown k) k t li lj Q := hR
        unfold wbX1_waysDown_0 at hR
        refine lv_lconst (v := 0) hx hb dX1_waysDown_0 (by decide) ?_
        refine lv_lstore_n (lv' := [(2, .long 0), (0, .ref (ad 7)), (1, .int (li 1))]) hx hb dX1_waysDown_1 rfl hl (by decide) rfl (fun ls hl => ?_)
        refine lv_aload_n hx hb dX1_waysDown_2 rfl (lv_at hl 1 rfl) ?_
        refine x_get (ci := 1) (C := RX1) (T := TX1) (N := 7) (v := .ref (ad 4)) B h hin1 7 1 rfl rfl (by decide) (by decide +kernel) rfl dX1_waysDown_3 ?_
        refine lv_iload_n hx hb dX1_waysDown_6 rfl (lv_at hl 2 rfl) ?_
        refine x_cVLF (n := 1) (As := [.int (li 1)]) (rest := []) B h (wkX6_below l D cI cJ cB cZ ad k t (li 1) _ hR) ⟨⟨_, rfl⟩, by decide +kernel, Nat.le_of_ble_eq_true rfl, Nat.le_of_ble_eq_true rfl⟩ gX1_waysDown_X6_below (show ((wX cI cJ cB cZ ad t) : va_W)[4]? = some (_, .inr (6, _)) from rfl) rfl rfl hl.1 rfl (Nat.le_of_ble_eq_true rfl) dX1_waysDown_7 ⟨Nat.le_of_ble_eq_true rfl, Nat.le_of_ble_eq_true rfl⟩ (fun r_1 t_1 H locs hR h => ?_)
        refine lv_lstore (lv' := [(4, .long r_1), (2, .long 0), (0, .ref (ad 7)), (1, .int (li 1))]) hx hb dX1_waysDown_10 hl (by decide) rfl (fun ls hl => ?_)
        refine lv_iconst (v := 0) hx hb dX1_waysDown_12 (by decide) ?_
        refine lv_istore (lv' := [(6, .int 0), (4, .long r_1), (2, .long 0), (0, .ref (ad 7)), (1, .int (li 1))]) hx hb dX1_waysDown_13 hl (by decide) rfl (fun ls hl => ?_)
        exact ih.2.1 t_1 (uI li 6 0) (uI (uI lj 2 0) 4 r_1) H locs ls hR (lv_sub hl [3, 4, 2, 1, 0] rfl) h
      · intro t li lj H locs ls hR hl h
        have hR : wbX1_waysDown_1 (wpX1_waysDown k) k t li lj Q := hR
        unfold wbX1_waysDown_1 at hR
        refine lv_iload hx hb dX1_waysDown_15 (lv_at hl 4 rfl) ?_
        refine lv_iconst (v := 5) hx hb dX1_waysDown_17 (by decide) ?_
        refine lv_icmp_ge (tgt := 56) hx hb dX1_waysDown_18 (by decide) (fun c_2 => ?_) (fun c_2 => ?_)
        · have hR := hR.1 c_2
          exact ih.2.2 t li lj H locs ls hR (lv_sub hl [0, 1, 2, 3, 4] rfl) h
        · have hR := hR.2 c_2
          refine lv_lload hx hb dX1_waysDown_21 (lv_at hl 3 rfl) ?_
          refine lv_lconst (v := 0) hx hb dX1_waysDown_23 (by decide) ?_
          refine W.lcmp hx hb dX1_waysDown_24 ?_
          refine lv_topi (fun v_3 ev_3 => ?_)
          have hR := hR v_3 ev_3
          refine lv_if_eq (tgt := 56) hx hb dX1_waysDown_25 (by decide) (fun c_4 => ?_) (fun c_4 => ?_)
          · have hR := hR.1 c_4
            exact ih.2.2 t li lj H locs ls hR (lv_sub hl [0, 1, 2, 3, 4] rfl) h
          · have hR := hR.2 c_4
            refine lv_lload_n hx hb dX1_waysDown_28 rfl (lv_at hl 2 rfl) ?_
            refine lv_aload_n hx hb dX1_waysDown_29 rfl (lv_at hl 0 rfl) ?_
            refine x_get (ci := 1) (C := RX1) (T := TX1) (N := 7) (v := .ref (ad 24)) B h hin1 7 4 rfl rfl (by decide) (by decide +kernel) rfl dX1_waysDown_30 ?_
            refine lv_lload hx hb dX1_waysDown_33 (lv_at hl 3 rfl) ?_
            refine x_cNIE (n := 1) (As := [.long (lj 4)]) (rest := [.ref (ad 24), .long (lj 2)]) B h (wkX11_lowest l D cI cJ cB cZ ad k (lj 4) _ hR) ⟨⟨_, rfl⟩, by decide +kernel, Nat.le_of_ble_eq_true rfl, Nat.le_of_ble_eq_true rfl⟩ gX1_waysDown_X11_lowest_n74 (by decide +kernel) (by decide +kernel) (host := "MorseDesk") (by decide +kernel) rfl hl.1 rfl (Nat.le_of_ble_eq_true rfl) dX1_waysDown_35 ⟨Nat.le_of_ble_eq_true rfl, Nat.le_of_ble_eq_true rfl⟩ (fun r_5 _ H locs hR h => ?_)
            obtain ⟨hb_6, hR⟩ := hR
            refine va_lald (f := (t.2.2.2 4)) hx hb B.2.1 h.1 24 1 rfl rfl hb_6 dX1_waysDown_38 ?_
            refine lv_topl (fun v_6 ev_6 => ?_)
            have hR := hR v_6 ev_6
            refine lv_ladd hx hb dX1_waysDown_39 ?_
            refine lv_topl (fun v_7 ev_7 => ?_)
            have hR := hR v_7 ev_7
            refine lv_lstore_n (lv' := [(2, .long v_7), (0, .ref (ad 7)), (1, .int (li 1)), (4, .long (lj 4)), (6, .int (li 6))]) hx hb dX1_waysDown_40 rfl hl (by decide) rfl (fun ls hl => ?_)
            refine lv_lload hx hb dX1_waysDown_41 (lv_at hl 3 rfl) ?_
            refine lv_lload hx hb dX1_waysDown_43 (lv_at hl 3 rfl) ?_
            refine lv_lconst (v := 1) hx hb dX1_waysDown_45 (by decide) ?_
            refine lv_lsub hx hb dX1_waysDown_46 ?_
            refine lv_topl (fun v_8 ev_8 => ?_)
            have hR := hR v_8 ev_8
            refine lv_land hx hb dX1_waysDown_47 ?_
            refine lv_topl (fun v_9 ev_9 => ?_)
            have hR := hR v_9 ev_9
            refine lv_lstore (lv' := [(4, .long v_9), (2, .long v_7), (0, .ref (ad 7)), (1, .int (li 1)), (6, .int (li 6))]) hx hb dX1_waysDown_48 hl (by decide) rfl (fun ls hl => ?_)
            obtain ⟨v_10, ev_10⟩ : ∃ v : Int32, v = (li 6) + Int32.ofInt 1 := ⟨_, rfl⟩
            have hR := hR v_10 ev_10
            refine lv_iinc (v := v_10) (lv' := [(6, .int v_10), (4, .long v_9), (2, .long v_7), (0, .ref (ad 7)), (1, .int (li 1))]) hx hb dX1_waysDown_50 hl (k := 4) rfl ev_10.symm (by decide) rfl (fun ls hl => ?_)
            refine lv_goto (tgt := 15) hx hb dX1_waysDown_53 (by decide) ?_
            exact ih.2.1 t (uI li 6 v_10) (uI (uI lj 2 v_7) 4 v_9) H locs ls hR (lv_sub hl [3, 4, 2, 1, 0] rfl) h
      · intro t li lj H locs ls hR hl h
        have hR : wbX1_waysDown_2 (wpX1_waysDown k) k t li lj Q := hR
        unfold wbX1_waysDown_2 at hR
        refine lv_lload_n hx hb dX1_waysDown_56 rfl (lv_at hl 2 rfl) ?_
        exact x_lret (w1 := (fun u : XT => (wX cI cJ cB cZ ad u))) t B h hr hR dX1_waysDown_57
  exact (main k).1 t _ _ s.heap [] ls hR hl h
def wbX1_countWays_0 (rec : Nat → XT → (Nat → Int32) → (Nat → Int64) → (Int64 → XT → Prop) → Prop) (k : Nat) (t : XT) (li : Nat → Int32) (lj : Nat → Int64) (Q : Int64 → XT → Prop) : Prop :=
  (wqX2_measure k t  (fun t_1 => (∀ t_2 : XT, t_2 = sB t_1 4 (fun _ => 0) → rec 1 t_2 (uI li 3 0) lj Q)))
def wbX1_countWays_1 (rec : Nat → XT → (Nat → Int32) → (Nat → Int64) → (Int64 → XT → Prop) → Prop) (k : Nat) (t : XT) (li : Nat → Int32) (lj : Nat → Int64) (Q : Int64 → XT → Prop) : Prop :=
  ((((t.1 6) : Int32) ≤ (li 3)) → (vp_in (li 1) 64 ∧ (∀ v_4 : Int64, v_4 = (t.2.2.2 4) (li 1).toNatClampNeg → Q v_4 t))) ∧ (¬ (((t.1 6) : Int32) ≤ (li 3)) → (vp_in (li 3) 64 ∧ (∀ v_5 : Int32, v_5 = (t.2.2.1 7) (li 3).toNatClampNeg → ((¬ v_5 = (li 2)) → (vp_in v_5 64 ∧ (∀ v_7 : Int32, v_7 = (t.2.2.1 3) v_5.toNatClampNeg → (vp_in (li 1) 64 ∧ (∀ v_8 : Int32, v_8 = (t.2.2.1 3) (li 1).toNatClampNeg → ((¬ v_7 = v_8) → (vp_in v_5 64 ∧ (∀ v_10 : Int32, v_10 = (t.2.2.1 3) v_5.toNatClampNeg → (vp_in (li 2) 64 ∧ (∀ v_11 : Int32, v_11 = (t.2.2.1 3) (li 2).toNatClampNeg → ((¬ v_10 = v_11) → rec 2 t (uI li 4 v_5) lj Q) ∧ ((v_10 = v_11) → (vp_in v_5 64 ∧ (∀ v_13 : Int32, v_13 = (t.2.2.1 5) v_5.toNatClampNeg → ((v_13 ≤ v_5) → rec 2 t (uI li 4 v_5) lj Q) ∧ (¬ (v_13 ≤ v_5) → (vp_in v_5 64 ∧ (∀ v_15 : Int32, v_15 = (t.2.2.1 5) v_5.toNatClampNeg → (vp_in v_15 64 ∧ (∀ v_16 : Int64, v_16 = (t.2.2.2 4) v_15.toNatClampNeg → (vp_in v_5 64 ∧ (∀ t_17 : XT, t_17 = sB t 4 (vp_updL (t.2.2.2 4) v_5.toNatClampNeg v_16) → rec 2 t_17 (uI li 4 v_5) lj Q))))))))))))))) ∧ ((v_7 = v_8) → (wqX1_waysDown k t v_5 (fun r_18 t_18 => (vp_in v_5 64 ∧ (∀ t_19 : XT, t_19 = sB t_18 4 (vp_updL (t_18.2.2.2 4) v_5.toNatClampNeg r_18) → rec 2 t_19 (uI li 4 v_5) lj Q)))))))))) ∧ ((v_5 = (li 2)) → (vp_in v_5 64 ∧ (∀ t_20 : XT, t_20 = sB t 4 (vp_updL (t.2.2.2 4) v_5.toNatClampNeg 1) → rec 2 t_20 (uI li 4 v_5) lj Q))))))
def wbX1_countWays_2 (rec : Nat → XT → (Nat → Int32) → (Nat → Int64) → (Int64 → XT → Prop) → Prop) (k : Nat) (t : XT) (li : Nat → Int32) (lj : Nat → Int64) (Q : Int64 → XT → Prop) : Prop :=
  (∀ v_21 : Int32, v_21 = (li 3) + Int32.ofInt 1 → rec 1 t (uI li 3 v_21) lj Q)
def wpX1_countWays : Nat → Nat → XT → (Nat → Int32) → (Nat → Int64) → (Int64 → XT → Prop) → Prop
  | 0, _, _, _, _, _ => False
  | k + 1, 0, t, li, lj, Q => wbX1_countWays_0 (wpX1_countWays k) k t li lj Q
  | k + 1, 1, t, li, lj, Q => wbX1_countWays_1 (wpX1_countWays k) k t li lj Q
  | k + 1, 2, t, li, lj, Q => wbX1_countWays_2 (wpX1_countWays k) k t li lj Q
  | _ + 1, _, _, _, _, _ => False
def wqX1_countWays (k : Nat) (t : XT) (a1 : Int32) (a2 : Int32) (Q : Int64 → XT → Prop) : Prop := wpX1_countWays k 0 t (uI (uI (fun _ => 0) 1 a1) 2 a2) (fun _ => 0) Q
set_option maxHeartbeats 8000000 in
set_option maxRecDepth 100000 in
theorem wkX1_countWays (l : Launch) (D : va_G) (cI cJ cB cZ : ClassId) (ad : Nat → Nat) (k : Nat) (t : XT) (a1 : Int32) (a2 : Int32) (Q : Int64 → XT → Prop) (hR : wqX1_countWays k t a1 a2 Q) : MetL l yX1_countWays wsX1_countWays 3 71 0 0 D (TYS cI cJ cB cZ) (wX cI cJ cB cZ ad t) [.ref (ad 7), .int a1, .int a2] (fun r u => Q r u) (fun u : XT => (wX cI cJ cB cZ ad u)) := by
  refine x_startL (ty := .long) (cc := cX1_countWays) (by decide) rfl (Nat.le_of_ble_eq_true rfl) ?_
  intro p e s m args below meth c A ls B hr hnm h hl
  have hx := B.1.1
  have hb := B.1.2.1
  have hml := B.1.2.2.1
  have hts := B.1.2.2.2.2
  have hown : s.vm.findClass RX1 = some m.cls := B.1.2.2.2.1
  have hin1 : ∀ w ∈ u_ws RX1 TX1 7, w ∈ wsX1_countWays := by decide +kernel
  have hin2 : ∀ w ∈ u_ws RX2 TX2 6, w ∈ wsX1_countWays := by decide +kernel
  have hin6 : ∀ w ∈ u_ws RX6 TX6 6, w ∈ wsX1_countWays := by decide +kernel
  have hin9 : ∀ w ∈ u_ws RX9 TX9 7, w ∈ wsX1_countWays := by decide +kernel
  have main : ∀ k : Nat, (∀ (t : XT) (li : Nat → Int32) (lj : Nat → Int64) (H : Heap) (locs : List Loc) (ls : Array Slot), wpX1_countWays k 0 t li lj Q → lv_has ls 5 [(0, .ref (ad 7)), (1, .int (li 1)), (2, .int (li 2))] → Hp D A s.heap (wX cI cJ cB cZ ad t) H locs → W p l e { frames := 3, cells := 0, slots := 0, locals := 71 } s m args below meth c H locs 0 0 (MQ below (va_Ql (fun r u => Q r u) (fun u t => xEnd D ((fun u : XT => (wX cI cJ cB cZ ad u)) u) A t) A) args s 0 0 A) (F0 m 0 ls [])) ∧
      (∀ (t : XT) (li : Nat → Int32) (lj : Nat → Int64) (H : Heap) (locs : List Loc) (ls : Array Slot), wpX1_countWays k 1 t li lj Q → lv_has ls 5 [(0, .ref (ad 7)), (1, .int (li 1)), (2, .int (li 2)), (3, .int (li 3))] → Hp D A s.heap (wX cI cJ cB cZ ad t) H locs → W p l e { frames := 3, cells := 0, slots := 0, locals := 71 } s m args below meth c H locs 0 0 (MQ below (va_Ql (fun r u => Q r u) (fun u t => xEnd D ((fun u : XT => (wX cI cJ cB cZ ad u)) u) A t) A) args s 0 0 A) (F0 m 17 ls [])) ∧
      (∀ (t : XT) (li : Nat → Int32) (lj : Nat → Int64) (H : Heap) (locs : List Loc) (ls : Array Slot), wpX1_countWays k 2 t li lj Q → lv_has ls 5 [(0, .ref (ad 7)), (1, .int (li 1)), (2, .int (li 2)), (3, .int (li 3)), (4, .int (li 4))] → Hp D A s.heap (wX cI cJ cB cZ ad t) H locs → W p l e { frames := 3, cells := 0, slots := 0, locals := 71 } s m args below meth c H locs 0 0 (MQ below (va_Ql (fun r u => Q r u) (fun u t => xEnd D ((fun u : XT => (wX cI cJ cB cZ ad u)) u) A t) A) args s 0 0 A) (F0 m 153 ls [])) := by
    intro k
    induction k with
    | zero => exact ⟨fun _ _ _ _ _ _ hR => False.elim hR, fun _ _ _ _ _ _ hR => False.elim hR, fun _ _ _ _ _ _ hR => False.elim hR⟩
    | succ k ih =>
      refine ⟨?_, ?_, ?_⟩
      · intro t li lj H locs ls hR hl h
        have hR : wbX1_countWays_0 (wpX1_countWays k) k t li lj Q := hR
        unfold wbX1_countWays_0 at hR
        refine lv_aload_n hx hb dX1_countWays_0 rfl (lv_at hl 0 rfl) ?_
        refine x_get (ci := 1) (C := RX1) (T := TX1) (N := 7) (v := .ref (ad 6)) B h hin1 7 2 rfl rfl (by decide) (by decide +kernel) rfl dX1_countWays_1 ?_
        refine x_cVVF (n := 0) (As := []) (rest := []) B h (wkX2_measure l D cI cJ cB cZ ad k t  _ hR) ⟨⟨_, rfl⟩, by decide +kernel, Nat.le_of_ble_eq_true rfl, Nat.le_of_ble_eq_true rfl⟩ gX1_countWays_X2_measure (show ((wX cI cJ cB cZ ad t) : va_W)[6]? = some (_, .inr (2, _)) from rfl) rfl rfl hl.1 rfl (Nat.le_of_ble_eq_true rfl) dX1_countWays_4 ⟨Nat.le_of_ble_eq_true rfl, Nat.le_of_ble_eq_true rfl⟩ (fun t_1 H locs hR h => ?_)
        refine lv_aload_n hx hb dX1_countWays_7 rfl (lv_at hl 0 rfl) ?_
        refine x_get (ci := 1) (C := RX1) (T := TX1) (N := 7) (v := .ref (ad 24)) B h hin1 7 4 rfl rfl (by decide) (by decide +kernel) rfl dX1_countWays_8 ?_
        refine lv_lconst (v := 0) hx hb dX1_countWays_11 (by decide) ?_
        refine x_cSV (n := 2) (pre := ((wX cI cJ cB cZ ad t_1) : va_W).take 24) (post := ((wX cI cJ cB cZ ad t_1) : va_W).drop 25) (wc := [((ad 24), .inl (cJ, 64, .inr (.inl (t_1.2.2.2 4))))]) (As := [.ref (ad 24), .long 0]) (rest := []) B h (c_fillL l D (TYS cI cJ cB cZ) cJ 1 rfl (ad 24) 64 (by decide) (t_1.2.2.2 4) 0) ⟨⟨_, rfl⟩, by decide +kernel, Nat.le_of_ble_eq_true rfl, Nat.le_of_ble_eq_true rfl⟩ gX1_countWays_J7_fill_d0a16 rfl hl.1 rfl (Nat.le_of_ble_eq_true rfl) dX1_countWays_12 ⟨Nat.le_of_ble_eq_true rfl, Nat.le_of_ble_eq_true rfl⟩ (fun _ H locs _ h => ?_)
        obtain ⟨t_2, et_2⟩ : ∃ v : XT, v = sB t_1 4 (fun _ => 0) := ⟨_, rfl⟩
        have hR := hR t_2 et_2
        have h : Hp D A s.heap (wX cI cJ cB cZ ad t_2) H locs := by rw [et_2]; exact h
        refine lv_iconst (v := 0) hx hb dX1_countWays_15 (by decide) ?_
        refine lv_istore_n (lv' := [(3, .int 0), (0, .ref (ad 7)), (1, .int (li 1)), (2, .int (li 2))]) hx hb dX1_countWays_16 rfl hl (by decide) rfl (fun ls hl => ?_)
        exact ih.2.1 t_2 (uI li 3 0) lj H locs ls hR (lv_sub hl [1, 2, 3, 0] rfl) h
      · intro t li lj H locs ls hR hl h
        have hR : wbX1_countWays_1 (wpX1_countWays k) k t li lj Q := hR
        unfold wbX1_countWays_1 at hR
        refine lv_iload_n hx hb dX1_countWays_17 rfl (lv_at hl 3 rfl) ?_
        refine lv_aload_n hx hb dX1_countWays_18 rfl (lv_at hl 0 rfl) ?_
        refine x_get (ci := 1) (C := RX1) (T := TX1) (N := 7) (v := .ref (ad 6)) B h hin1 7 2 rfl rfl (by decide) (by decide +kernel) rfl dX1_countWays_19 ?_
        refine x_get (ci := 2) (C := RX2) (T := TX2) (N := 6) (v := .int (t.1 6)) B h hin2 6 4 rfl rfl (by decide) (by decide +kernel) rfl dX1_countWays_22 ?_
        refine lv_icmp_ge (tgt := 159) hx hb dX1_countWays_25 (by decide) (fun c_3 => ?_) (fun c_3 => ?_)
        · have hR := hR.1 c_3
          refine lv_aload_n hx hb dX1_countWays_159 rfl (lv_at hl 0 rfl) ?_
          refine x_get (ci := 1) (C := RX1) (T := TX1) (N := 7) (v := .ref (ad 24)) B h hin1 7 4 rfl rfl (by decide) (by decide +kernel) rfl dX1_countWays_160 ?_
          refine lv_iload_n hx hb dX1_countWays_163 rfl (lv_at hl 1 rfl) ?_
          obtain ⟨hb_4, hR⟩ := hR
          refine va_lald (f := (t.2.2.2 4)) hx hb B.2.1 h.1 24 1 rfl rfl hb_4 dX1_countWays_164 ?_
          refine lv_topl (fun v_4 ev_4 => ?_)
          have hR := hR v_4 ev_4
          exact x_lret (w1 := (fun u : XT => (wX cI cJ cB cZ ad u))) t B h hr hR dX1_countWays_165
        · have hR := hR.2 c_3
          refine lv_aload_n hx hb dX1_countWays_28 rfl (lv_at hl 0 rfl) ?_
          refine x_get (ci := 1) (C := RX1) (T := TX1) (N := 7) (v := .ref (ad 6)) B h hin1 7 2 rfl rfl (by decide) (by decide +kernel) rfl dX1_countWays_29 ?_
          refine x_get (ci := 2) (C := RX2) (T := TX2) (N := 6) (v := .ref (ad 22)) B h hin2 6 3 rfl rfl (by decide) (by decide +kernel) rfl dX1_countWays_32 ?_
          refine lv_iload_n hx hb dX1_countWays_35 rfl (lv_at hl 3 rfl) ?_
          obtain ⟨hb_5, hR⟩ := hR
          refine va_iald (f := (t.2.2.1 7)) hx hb B.2.1 h.1 22 0 rfl rfl hb_5 dX1_countWays_36 ?_
          refine lv_topi (fun v_5 ev_5 => ?_)
          have hR := hR v_5 ev_5
          refine lv_istore (lv' := [(4, .int v_5), (0, .ref (ad 7)), (1, .int (li 1)), (2, .int (li 2)), (3, .int (li 3))]) hx hb dX1_countWays_37 hl (by decide) rfl (fun ls hl => ?_)
          refine lv_iload hx hb dX1_countWays_39 (lv_at hl 0 rfl) ?_
          refine lv_iload_n hx hb dX1_countWays_41 rfl (lv_at hl 3 rfl) ?_
          refine lv_icmp_ne (tgt := 56) hx hb dX1_countWays_42 (by decide) (fun c_6 => ?_) (fun c_6 => ?_)
          · have hR := hR.1 c_6
            refine lv_aload_n hx hb dX1_countWays_56 rfl (lv_at hl 1 rfl) ?_
            refine x_get (ci := 1) (C := RX1) (T := TX1) (N := 7) (v := .ref (ad 3)) B h hin1 7 0 rfl rfl (by decide) (by decide +kernel) rfl dX1_countWays_57 ?_
            refine x_get (ci := 9) (C := RX9) (T := TX9) (N := 7) (v := .ref (ad 15)) B h hin9 3 2 rfl rfl (by decide) (by decide +kernel) rfl dX1_countWays_60 ?_
            refine lv_iload hx hb dX1_countWays_63 (lv_at hl 0 rfl) ?_
            obtain ⟨hb_7, hR⟩ := hR
            refine va_iald (f := (t.2.2.1 3)) hx hb B.2.1 h.1 15 0 rfl rfl hb_7 dX1_countWays_65 ?_
            refine lv_topi (fun v_7 ev_7 => ?_)
            have hR := hR v_7 ev_7
            refine lv_aload_n hx hb dX1_countWays_66 rfl (lv_at hl 1 rfl) ?_
            refine x_get (ci := 1) (C := RX1) (T := TX1) (N := 7) (v := .ref (ad 3)) B h hin1 7 0 rfl rfl (by decide) (by decide +kernel) rfl dX1_countWays_67 ?_
            refine x_get (ci := 9) (C := RX9) (T := TX9) (N := 7) (v := .ref (ad 15)) B h hin9 3 2 rfl rfl (by decide) (by decide +kernel) rfl dX1_countWays_70 ?_
            refine lv_iload_n hx hb dX1_countWays_73 rfl (lv_at hl 2 rfl) ?_
            obtain ⟨hb_8, hR⟩ := hR
            refine va_iald (f := (t.2.2.1 3)) hx hb B.2.1 h.1 15 0 rfl rfl hb_8 dX1_countWays_74 ?_
            refine lv_topi (fun v_8 ev_8 => ?_)
            have hR := hR v_8 ev_8
            refine lv_icmp_ne (tgt := 94) hx hb dX1_countWays_75 (by decide) (fun c_9 => ?_) (fun c_9 => ?_)
            · have hR := hR.1 c_9
              refine lv_aload_n hx hb dX1_countWays_94 rfl (lv_at hl 1 rfl) ?_
              refine x_get (ci := 1) (C := RX1) (T := TX1) (N := 7) (v := .ref (ad 3)) B h hin1 7 0 rfl rfl (by decide) (by decide +kernel) rfl dX1_countWays_95 ?_
              refine x_get (ci := 9) (C := RX9) (T := TX9) (N := 7) (v := .ref (ad 15)) B h hin9 3 2 rfl rfl (by decide) (by decide +kernel) rfl dX1_countWays_98 ?_
              refine lv_iload hx hb dX1_countWays_101 (lv_at hl 0 rfl) ?_
              obtain ⟨hb_10, hR⟩ := hR
              refine va_iald (f := (t.2.2.1 3)) hx hb B.2.1 h.1 15 0 rfl rfl hb_10 dX1_countWays_103 ?_
              refine lv_topi (fun v_10 ev_10 => ?_)
              have hR := hR v_10 ev_10
              refine lv_aload_n hx hb dX1_countWays_104 rfl (lv_at hl 1 rfl) ?_
              refine x_get (ci := 1) (C := RX1) (T := TX1) (N := 7) (v := .ref (ad 3)) B h hin1 7 0 rfl rfl (by decide) (by decide +kernel) rfl dX1_countWays_105 ?_
              refine x_get (ci := 9) (C := RX9) (T := TX9) (N := 7) (v := .ref (ad 15)) B h hin9 3 2 rfl rfl (by decide) (by decide +kernel) rfl dX1_countWays_108 ?_
              refine lv_iload_n hx hb dX1_countWays_111 rfl (lv_at hl 3 rfl) ?_
              obtain ⟨hb_11, hR⟩ := hR
              refine va_iald (f := (t.2.2.1 3)) hx hb B.2.1 h.1 15 0 rfl rfl hb_11 dX1_countWays_112 ?_
              refine lv_topi (fun v_11 ev_11 => ?_)
              have hR := hR v_11 ev_11
              refine lv_icmp_ne (tgt := 153) hx hb dX1_countWays_113 (by decide) (fun c_12 => ?_) (fun c_12 => ?_)
              · have hR := hR.1 c_12
                exact ih.2.2 t (uI li 4 v_5) lj H locs ls hR (lv_sub hl [1, 2, 3, 4, 0] rfl) h
              · have hR := hR.2 c_12
                refine lv_aload_n hx hb dX1_countWays_116 rfl (lv_at hl 1 rfl) ?_
                refine x_get (ci := 1) (C := RX1) (T := TX1) (N := 7) (v := .ref (ad 4)) B h hin1 7 1 rfl rfl (by decide) (by decide +kernel) rfl dX1_countWays_117 ?_
                refine x_get (ci := 6) (C := RX6) (T := TX6) (N := 6) (v := .ref (ad 20)) B h hin6 4 1 rfl rfl (by decide) (by decide +kernel) rfl dX1_countWays_120 ?_
                refine lv_iload hx hb dX1_countWays_123 (lv_at hl 0 rfl) ?_
                obtain ⟨hb_13, hR⟩ := hR
                refine va_iald (f := (t.2.2.1 5)) hx hb B.2.1 h.1 20 0 rfl rfl hb_13 dX1_countWays_125 ?_
                refine lv_topi (fun v_13 ev_13 => ?_)
                have hR := hR v_13 ev_13
                refine lv_iload hx hb dX1_countWays_126 (lv_at hl 0 rfl) ?_
                refine lv_icmp_le (tgt := 153) hx hb dX1_countWays_128 (by decide) (fun c_14 => ?_) (fun c_14 => ?_)
                · have hR := hR.1 c_14
                  exact ih.2.2 t (uI li 4 v_5) lj H locs ls hR (lv_sub hl [1, 2, 3, 4, 0] rfl) h
                · have hR := hR.2 c_14
                  refine lv_aload_n hx hb dX1_countWays_131 rfl (lv_at hl 1 rfl) ?_
                  refine x_get (ci := 1) (C := RX1) (T := TX1) (N := 7) (v := .ref (ad 24)) B h hin1 7 4 rfl rfl (by decide) (by decide +kernel) rfl dX1_countWays_132 ?_
                  refine lv_iload hx hb dX1_countWays_135 (lv_at hl 0 rfl) ?_
                  refine lv_aload_n hx hb dX1_countWays_137 rfl (lv_at hl 1 rfl) ?_
                  refine x_get (ci := 1) (C := RX1) (T := TX1) (N := 7) (v := .ref (ad 24)) B h hin1 7 4 rfl rfl (by decide) (by decide +kernel) rfl dX1_countWays_138 ?_
                  refine lv_aload_n hx hb dX1_countWays_141 rfl (lv_at hl 1 rfl) ?_
                  refine x_get (ci := 1) (C := RX1) (T := TX1) (N := 7) (v := .ref (ad 4)) B h hin1 7 1 rfl rfl (by decide) (by decide +kernel) rfl dX1_countWays_142 ?_
                  refine x_get (ci := 6) (C := RX6) (T := TX6) (N := 6) (v := .ref (ad 20)) B h hin6 4 1 rfl rfl (by decide) (by decide +kernel) rfl dX1_countWays_145 ?_
                  refine lv_iload hx hb dX1_countWays_148 (lv_at hl 0 rfl) ?_
                  obtain ⟨hb_15, hR⟩ := hR
                  refine va_iald (f := (t.2.2.1 5)) hx hb B.2.1 h.1 20 0 rfl rfl hb_15 dX1_countWays_150 ?_
                  refine lv_topi (fun v_15 ev_15 => ?_)
                  have hR := hR v_15 ev_15
                  obtain ⟨hb_16, hR⟩ := hR
                  refine va_lald (f := (t.2.2.2 4)) hx hb B.2.1 h.1 24 1 rfl rfl hb_16 dX1_countWays_151 ?_
                  refine lv_topl (fun v_16 ev_16 => ?_)
                  have hR := hR v_16 ev_16
                  obtain ⟨hb_17, hR⟩ := hR
                  refine z_last (f := (t.2.2.2 4)) B h 24 1 rfl rfl hb_17 dX1_countWays_152 (fun H locs h => ?_)
                  obtain ⟨t_17, et_17⟩ : ∃ v : XT, v = sB t 4 (vp_updL (t.2.2.2 4) v_5.toNatClampNeg v_16) := ⟨_, rfl⟩
                  have hR := hR t_17 et_17
                  have h : Hp D A s.heap (wX cI cJ cB cZ ad t_17) H locs := by rw [et_17]; exact h
                  exact ih.2.2 t_17 (uI li 4 v_5) lj H locs ls hR (lv_sub hl [1, 2, 3, 4, 0] rfl) h
            · have hR := hR.2 c_9
              refine lv_aload_n hx hb dX1_countWays_78 rfl (lv_at hl 1 rfl) ?_
              refine x_get (ci := 1) (C := RX1) (T := TX1) (N := 7) (v := .ref (ad 24)) B h hin1 7 4 rfl rfl (by decide) (by decide +kernel) rfl dX1_countWays_79 ?_
              refine lv_iload hx hb dX1_countWays_82 (lv_at hl 0 rfl) ?_
              refine lv_aload_n hx hb dX1_countWays_84 rfl (lv_at hl 1 rfl) ?_
              refine lv_iload hx hb dX1_countWays_85 (lv_at hl 0 rfl) ?_
              refine x_cVLF (n := 1) (As := [.int v_5]) (rest := [.int v_5, .ref (ad 24)]) B h (wkX1_waysDown l D cI cJ cB cZ ad k t v_5 _ hR) ⟨⟨_, rfl⟩, by decide +kernel, Nat.le_of_ble_eq_true rfl, Nat.le_of_ble_eq_true rfl⟩ gX1_countWays_X1_waysDown (show ((wX cI cJ cB cZ ad t) : va_W)[7]? = some (_, .inr (1, _)) from rfl) rfl rfl hl.1 rfl (Nat.le_of_ble_eq_true rfl) dX1_countWays_87 ⟨Nat.le_of_ble_eq_true rfl, Nat.le_of_ble_eq_true rfl⟩ (fun r_18 t_18 H locs hR h => ?_)
              obtain ⟨hb_19, hR⟩ := hR
              refine z_last (f := (t_18.2.2.2 4)) B h 24 1 rfl rfl hb_19 dX1_countWays_90 (fun H locs h => ?_)
              obtain ⟨t_19, et_19⟩ : ∃ v : XT, v = sB t_18 4 (vp_updL (t_18.2.2.2 4) v_5.toNatClampNeg r_18) := ⟨_, rfl⟩
              have hR := hR t_19 et_19
              have h : Hp D A s.heap (wX cI cJ cB cZ ad t_19) H locs := by rw [et_19]; exact h
              refine lv_goto (tgt := 153) hx hb dX1_countWays_91 (by decide) ?_
              exact ih.2.2 t_19 (uI li 4 v_5) lj H locs ls hR (lv_sub hl [1, 2, 3, 4, 0] rfl) h
          · have hR := hR.2 c_6
            refine lv_aload_n hx hb dX1_countWays_45 rfl (lv_at hl 1 rfl) ?_
            refine x_get (ci := 1) (C := RX1) (T := TX1) (N := 7) (v := .ref (ad 24)) B h hin1 7 4 rfl rfl (by decide) (by decide +kernel) rfl dX1_countWays_46 ?_
            refine lv_iload hx hb dX1_countWays_49 (lv_at hl 0 rfl) ?_
            refine lv_lconst (v := 1) hx hb dX1_countWays_51 (by decide) ?_
            obtain ⟨hb_20, hR⟩ := hR
            refine z_last (f := (t.2.2.2 4)) B h 24 1 rfl rfl hb_20 dX1_countWays_52 (fun H locs h => ?_)
            obtain ⟨t_20, et_20⟩ : ∃ v : XT, v = sB t 4 (vp_updL (t.2.2.2 4) v_5.toNatClampNeg 1) := ⟨_, rfl⟩
            have hR := hR t_20 et_20
            have h : Hp D A s.heap (wX cI cJ cB cZ ad t_20) H locs := by rw [et_20]; exact h
            refine lv_goto (tgt := 153) hx hb dX1_countWays_53 (by decide) ?_
            exact ih.2.2 t_20 (uI li 4 v_5) lj H locs ls hR (lv_sub hl [1, 2, 3, 4, 0] rfl) h
      · intro t li lj H locs ls hR hl h
        have hR : wbX1_countWays_2 (wpX1_countWays k) k t li lj Q := hR
        unfold wbX1_countWays_2 at hR
        obtain ⟨v_21, ev_21⟩ : ∃ v : Int32, v = (li 3) + Int32.ofInt 1 := ⟨_, rfl⟩
        have hR := hR v_21 ev_21
        refine lv_iinc (v := v_21) (lv' := [(3, .int v_21), (0, .ref (ad 7)), (1, .int (li 1)), (2, .int (li 2)), (4, .int (li 4))]) hx hb dX1_countWays_153 hl (k := 3) rfl ev_21.symm (by decide) rfl (fun ls hl => ?_)
        refine lv_goto (tgt := 17) hx hb dX1_countWays_156 (by decide) ?_
        exact ih.2.1 t (uI li 3 v_21) lj H locs ls hR (lv_sub hl [1, 2, 3, 0] rfl) h
  exact (main k).1 t _ _ s.heap [] ls hR hl h
