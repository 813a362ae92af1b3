def wbX0_torsionsOf_0 (rec : Nat → XT → (Nat → Int32) → (Nat → Int64) → (Int32 → XT → Prop) → Prop) (k : Nat) (t : XT) (li : Nat → Int32) (lj : Nat → Int64) (Q : Int32 → XT → Prop) : Prop :=
  (∀ v_1 : Int32, v_1 = ((li 3) + 1) → (wqX0_rankOf k t (lj 1) v_1 (li 4) (fun r_2 t_2 => ((r_2 = 0) → rec 1 t_2 (uI li 5 r_2) lj Q) ∧ (¬ (r_2 = 0) → (∀ v_4 : Int32, v_4 = (lg_cmp (t_2.2.1 7) 1) → ((¬ v_4 = 0) → (wqX5_diagonalise k t_2  (fun t_6 => rec 2 t_6 (uI (uI (uI li 5 r_2) 6 0) 7 0) lj Q))) ∧ ((v_4 = 0) → rec 1 t_2 (uI li 5 r_2) lj Q))))))
def wbX0_torsionsOf_1 (rec : Nat → XT → (Nat → Int32) → (Nat → Int64) → (Int32 → XT → Prop) → Prop) (k : Nat) (t : XT) (li : Nat → Int32) (lj : Nat → Int64) (Q : Int32 → XT → Prop) : Prop :=
  Q 0 t
def wbX0_torsionsOf_2 (rec : Nat → XT → (Nat → Int32) → (Nat → Int64) → (Int32 → XT → Prop) → Prop) (k : Nat) (t : XT) (li : Nat → Int32) (lj : Nat → Int64) (Q : Int32 → XT → Prop) : Prop :=
  ((((li 5) : Int32) ≤ (li 7)) → rec 4 t li lj Q) ∧ (¬ (((li 5) : Int32) ≤ (li 7)) → (((64 : Int32) ≤ (li 7)) → rec 4 t li lj Q) ∧ (¬ ((64 : Int32) ≤ (li 7)) → (vp_in (li 7) 64 ∧ (∀ v_9 : Int64, v_9 = (t.2.2.2 9) (li 7).toNatClampNeg → (∀ v_10 : Int32, v_10 = (lg_cmp v_9 1) → ((v_10 ≤ 0) → rec 3 t li lj Q) ∧ (¬ (v_10 ≤ 0) → (vp_in (li 7) 64 ∧ (∀ v_12 : Int64, v_12 = (t.2.2.2 9) (li 7).toNatClampNeg → (vp_in (li 6) 64 ∧ (∀ t_13 : XT, t_13 = sB t 5 (vp_updL (t.2.2.2 5) (li 6).toNatClampNeg v_12) → (∀ v_14 : Int32, v_14 = (li 6) + Int32.ofInt 1 → rec 3 t_13 (uI li 6 v_14) lj Q)))))))))))
def wbX0_torsionsOf_3 (rec : Nat → XT → (Nat → Int32) → (Nat → Int64) → (Int32 → XT → Prop) → Prop) (k : Nat) (t : XT) (li : Nat → Int32) (lj : Nat → Int64) (Q : Int32 → XT → Prop) : Prop :=
  (∀ v_15 : Int32, v_15 = (li 7) + Int32.ofInt 1 → rec 2 t (uI li 7 v_15) lj Q)
def wbX0_torsionsOf_4 (rec : Nat → XT → (Nat → Int32) → (Nat → Int64) → (Int32 → XT → Prop) → Prop) (k : Nat) (t : XT) (li : Nat → Int32) (lj : Nat → Int64) (Q : Int32 → XT → Prop) : Prop :=
  Q (li 6) t
def wpX0_torsionsOf : Nat → Nat → XT → (Nat → Int32) → (Nat → Int64) → (Int32 → XT → Prop) → Prop
  | 0, _, _, _, _, _ => False
  | k + 1, 0, t, li, lj, Q => wbX0_torsionsOf_0 (wpX0_torsionsOf k) k t li lj Q
  | k + 1, 1, t, li, lj, Q => wbX0_torsionsOf_1 (wpX0_torsionsOf k) k t li lj Q
  | k + 1, 2, t, li, lj, Q => wbX0_torsionsOf_2 (wpX0_torsionsOf k) k t li lj Q
  | k + 1, 3, t, li, lj, Q => wbX0_torsionsOf_3 (wpX0_torsionsOf k) k t li lj Q
  | k + 1, 4, t, li, lj, Q => wbX0_torsionsOf_4 (wpX0_torsionsOf k) k t li lj Q
  | _ + 1, _, _, _, _, _ => False
def wqX0_torsionsOf (k : Nat) (t : XT) (a1 : Int64) (a2 : Int32) (a3 : Int32) (Q : Int32 → XT → Prop) : Prop := wpX0_torsionsOf k 0 t (uI (uI (fun _ => 0) 3 a2) 4 a3) (uI (fun _ => 0) 1 a1) Q
set_option maxHeartbeats 8000000 in
set_option maxRecDepth 100000 in
theorem wkX0_torsionsOf (l : Launch) (D : va_G) (cI cJ cB cZ : ClassId) (ad : Nat → Nat) (k : Nat) (t : XT) (a1 : Int64) (a2 : Int32) (a3 : Int32) (Q : Int32 → XT → Prop) (hR : wqX0_torsionsOf k t a1 a2 a3 Q) : MetI l yX0_torsionsOf wsX0_torsionsOf 6 147 0 0 D (TYS cI cJ cB cZ) (wX cI cJ cB cZ ad t) [.ref (ad 8), .long a1, .int a2, .int a3] (fun r u => Q r u) (fun u : XT => (wX cI cJ cB cZ ad u)) := by
  refine x_startI (ty := .int) (cc := cX0_torsionsOf) (by decide) rfl (Nat.le_of_ble_eq_true rfl) ?_
  intro p e s m args below meth c A ls B hr hnm h hl
  have hx := B.1.1
  have hb := B.1.2.1
  have hml := B.1.2.2.1
  have hts := B.1.2.2.2.2
  have hown : s.vm.findClass RX0 = some m.cls := B.1.2.2.2.1
  have hin0 : ∀ w ∈ u_ws RX0 TX0 4, w ∈ wsX0_torsionsOf := by decide +kernel
  have hin5 : ∀ w ∈ u_ws RX5 TX5 6, w ∈ wsX0_torsionsOf := by decide +kernel
  have main : ∀ k : Nat, (∀ (t : XT) (li : Nat → Int32) (lj : Nat → Int64) (H : Heap) (locs : List Loc) (ls : Array Slot), wpX0_torsionsOf k 0 t li lj Q → lv_has ls 8 [(0, .ref (ad 8)), (1, .long (lj 1)), (3, .int (li 3)), (4, .int (li 4))] → Hp D A s.heap (wX cI cJ cB cZ ad t) H locs → W p l e { frames := 6, cells := 0, slots := 0, locals := 147 } s m args below meth c H locs 0 0 (MQ below (va_Qi (fun r u => Q r u) (fun u t => xEnd D ((fun u : XT => (wX cI cJ cB cZ ad u)) u) A t) A) args s 0 0 A) (F0 m 0 ls [])) ∧
      (∀ (t : XT) (li : Nat → Int32) (lj : Nat → Int64) (H : Heap) (locs : List Loc) (ls : Array Slot), wpX0_torsionsOf k 1 t li lj Q → lv_has ls 8 [(0, .ref (ad 8)), (1, .long (lj 1)), (3, .int (li 3)), (4, .int (li 4)), (5, .int (li 5))] → Hp D A s.heap (wX cI cJ cB cZ ad t) H locs → W p l e { frames := 6, cells := 0, slots := 0, locals := 147 } s m args below meth c H locs 0 0 (MQ below (va_Qi (fun r u => Q r u) (fun u t => xEnd D ((fun u : XT => (wX cI cJ cB cZ ad u)) u) A t) A) args s 0 0 A) (F0 m 29 ls [])) ∧
      (∀ (t : XT) (li : Nat → Int32) (lj : Nat → Int64) (H : Heap) (locs : List Loc) (ls : Array Slot), wpX0_torsionsOf k 2 t li lj Q → lv_has ls 8 [(0, .ref (ad 8)), (1, .long (lj 1)), (3, .int (li 3)), (4, .int (li 4)), (5, .int (li 5)), (6, .int (li 6)), (7, .int (li 7))] → Hp D A s.heap (wX cI cJ cB cZ ad t) H locs → W p l e { frames := 6, cells := 0, slots := 0, locals := 147 } s m args below meth c H locs 0 0 (MQ below (va_Qi (fun r u => Q r u) (fun u t => xEnd D ((fun u : XT => (wX cI cJ cB cZ ad u)) u) A t) A) args s 0 0 A) (F0 m 44 ls [])) ∧
      (∀ (t : XT) (li : Nat → Int32) (lj : Nat → Int64) (H : Heap) (locs : List Loc) (ls : Array Slot), wpX0_torsionsOf k 3 t li lj Q → lv_has ls 8 [(0, .ref (ad 8)), (1, .long (lj 1)), (3, .int (li 3)), (4, .int (li 4)), (5, .int (li 5)), (6, .int (li 6)), (7, .int (li 7))] → Hp D A s.heap (wX cI cJ cB cZ ad t) H locs → W p l e { frames := 6, cells := 0, slots := 0, locals := 147 } s m args below meth c H locs 0 0 (MQ below (va_Qi (fun r u => Q r u) (fun u t => xEnd D ((fun u : XT => (wX cI cJ cB cZ ad u)) u) A t) A) args s 0 0 A) (F0 m 93 ls [])) ∧
      (∀ (t : XT) (li : Nat → Int32) (lj : Nat → Int64) (H : Heap) (locs : List Loc) (ls : Array Slot), wpX0_torsionsOf k 4 t li lj Q → lv_has ls 8 [(0, .ref (ad 8)), (1, .long (lj 1)), (3, .int (li 3)), (4, .int (li 4)), (5, .int (li 5)), (6, .int (li 6)), (7, .int (li 7))] → Hp D A s.heap (wX cI cJ cB cZ ad t) H locs → W p l e { frames := 6, cells := 0, slots := 0, locals := 147 } s m args below meth c H locs 0 0 (MQ below (va_Qi (fun r u => Q r u) (fun u t => xEnd D ((fun u : XT => (wX cI cJ cB cZ ad u)) u) A t) A) args s 0 0 A) (F0 m 99 ls [])) := by
    intro k
    induction k with
    | zero => exact ⟨fun _ _ _ _ _ _ hR => False.elim hR, fun _ _ _ _ _ _ hR => False.elim hR, fun _ _ _ _ _ _ hR => False.elim hR, fun _ _ _ _ _ _ hR => False.elim hR, fun _ _ _ _ _ _ hR => False.elim hR⟩
    | succ k ih =>
      refine ⟨?_, ?_, ?_, ?_, ?_⟩
      · intro t li lj H locs ls hR hl h
        have hR : wbX0_torsionsOf_0 (wpX0_torsionsOf k) k t li lj Q := hR
        unfold wbX0_torsionsOf_0 at hR
        refine lv_aload_n hx hb dX0_torsionsOf_0 rfl (lv_at hl 0 rfl) ?_
        refine lv_lload_n hx hb dX0_torsionsOf_1 rfl (lv_at hl 1 rfl) ?_
        refine lv_iload_n hx hb dX0_torsionsOf_2 rfl (lv_at hl 2 rfl) ?_
        refine lv_iconst (v := 1) hx hb dX0_torsionsOf_3 (by decide) ?_
        refine lv_iadd hx hb dX0_torsionsOf_4 ?_
        refine lv_topi (fun v_1 ev_1 => ?_)
        have hR := hR v_1 ev_1
        refine lv_iload hx hb dX0_torsionsOf_5 (lv_at hl 3 rfl) ?_
        refine x_cVIF (n := 3) (As := [.long (lj 1), .int v_1, .int (li 4)]) (rest := []) B h (wkX0_rankOf l D cI cJ cB cZ ad k t (lj 1) v_1 (li 4) _ hR) ⟨⟨_, rfl⟩, by decide +kernel, Nat.le_of_ble_eq_true rfl, Nat.le_of_ble_eq_true rfl⟩ gX0_torsionsOf_X0_rankOf (show ((wX cI cJ cB cZ ad t) : va_W)[8]? = some (_, .inr (0, _)) from rfl) rfl rfl hl.1 rfl (Nat.le_of_ble_eq_true rfl) dX0_torsionsOf_7 ⟨Nat.le_of_ble_eq_true rfl, Nat.le_of_ble_eq_true rfl⟩ (fun r_2 t_2 H locs hR h => ?_)
        refine lv_istore (lv' := [(5, .int r_2), (0, .ref (ad 8)), (1, .long (lj 1)), (3, .int (li 3)), (4, .int (li 4))]) hx hb dX0_torsionsOf_10 hl (by decide) rfl (fun ls hl => ?_)
        refine lv_iload hx hb dX0_torsionsOf_12 (lv_at hl 0 rfl) ?_
        refine lv_if_eq (tgt := 29) hx hb dX0_torsionsOf_14 (by decide) (fun c_3 => ?_) (fun c_3 => ?_)
        · have hR := hR.1 c_3
          exact ih.2.1 t_2 (uI li 5 r_2) lj H locs ls hR (lv_sub hl [1, 2, 3, 4, 0] rfl) h
        · have hR := hR.2 c_3
          refine lv_aload_n hx hb dX0_torsionsOf_17 rfl (lv_at hl 1 rfl) ?_
          refine x_get (ci := 0) (C := RX0) (T := TX0) (N := 4) (v := .ref (ad 11)) B h hin0 8 2 rfl rfl (by decide) (by decide +kernel) rfl dX0_torsionsOf_18 ?_
          refine x_get (ci := 5) (C := RX5) (T := TX5) (N := 6) (v := .long (t_2.2.1 7)) B h hin5 11 5 rfl rfl (by decide) (by decide +kernel) rfl dX0_torsionsOf_21 ?_
          refine lv_lconst (v := 1) hx hb dX0_torsionsOf_24 (by decide) ?_
          refine W.lcmp hx hb dX0_torsionsOf_25 ?_
          refine lv_topi (fun v_4 ev_4 => ?_)
          have hR := hR v_4 ev_4
          refine lv_if_ne (tgt := 31) hx hb dX0_torsionsOf_26 (by decide) (fun c_5 => ?_) (fun c_5 => ?_)
          · have hR := hR.1 c_5
            refine lv_aload_n hx hb dX0_torsionsOf_31 rfl (lv_at hl 1 rfl) ?_
            refine x_get (ci := 0) (C := RX0) (T := TX0) (N := 4) (v := .ref (ad 11)) B h hin0 8 2 rfl rfl (by decide) (by decide +kernel) rfl dX0_torsionsOf_32 ?_
            refine x_cVVF (n := 0) (As := []) (rest := []) B h (wkX5_diagonalise l D cI cJ cB cZ ad k t_2  _ hR) ⟨⟨_, rfl⟩, by decide +kernel, Nat.le_of_ble_eq_true rfl, Nat.le_of_ble_eq_true rfl⟩ gX0_torsionsOf_X5_diagonalise (show ((wX cI cJ cB cZ ad t_2) : va_W)[11]? = some (_, .inr (5, _)) from rfl) rfl rfl hl.1 rfl (Nat.le_of_ble_eq_true rfl) dX0_torsionsOf_35 ⟨Nat.le_of_ble_eq_true rfl, Nat.le_of_ble_eq_true rfl⟩ (fun t_6 H locs hR h => ?_)
            refine lv_iconst (v := 0) hx hb dX0_torsionsOf_38 (by decide) ?_
            refine lv_istore (lv' := [(6, .int 0), (5, .int r_2), (0, .ref (ad 8)), (1, .long (lj 1)), (3, .int (li 3)), (4, .int (li 4))]) hx hb dX0_torsionsOf_39 hl (by decide) rfl (fun ls hl => ?_)
            refine lv_iconst (v := 0) hx hb dX0_torsionsOf_41 (by decide) ?_
            refine lv_istore (lv' := [(7, .int 0), (6, .int 0), (5, .int r_2), (0, .ref (ad 8)), (1, .long (lj 1)), (3, .int (li 3)), (4, .int (li 4))]) hx hb dX0_torsionsOf_42 hl (by decide) rfl (fun ls hl => ?_)
            exact ih.2.2.1 t_6 (uI (uI (uI li 5 r_2) 6 0) 7 0) lj H locs ls hR (lv_sub hl [3, 4, 5, 6, 2, 1, 0] rfl) h
          · have hR := hR.2 c_5
            exact ih.2.1 t_2 (uI li 5 r_2) lj H locs ls hR (lv_sub hl [1, 2, 3, 4, 0] rfl) h
      · intro t li lj H locs ls hR hl h
        have hR : wbX0_torsionsOf_1 (wpX0_torsionsOf k) k t li lj Q := hR
        unfold wbX0_torsionsOf_1 at hR
        refine lv_iconst (v := 0) hx hb dX0_torsionsOf_29 (by decide) ?_
        exact x_iret (w1 := (fun u : XT => (wX cI cJ cB cZ ad u))) t B h hr rfl hR dX0_torsionsOf_30
      · intro t li lj H locs ls hR hl h
        have hR : wbX0_torsionsOf_2 (wpX0_torsionsOf k) k t li lj Q := hR
        unfold wbX0_torsionsOf_2 at hR
        refine lv_iload hx hb dX0_torsionsOf_44 (lv_at hl 6 rfl) ?_
        refine lv_iload hx hb dX0_torsionsOf_46 (lv_at hl 4 rfl) ?_
        refine lv_icmp_ge (tgt := 99) hx hb dX0_torsionsOf_48 (by decide) (fun c_7 => ?_) (fun c_7 => ?_)
        · have hR := hR.1 c_7
          exact ih.2.2.2.2 t li lj H locs ls hR (lv_sub hl [0, 1, 2, 3, 4, 5, 6] rfl) h
        · have hR := hR.2 c_7
          refine lv_iload hx hb dX0_torsionsOf_51 (lv_at hl 6 rfl) ?_
          refine lv_bipush (v := 64) hx hb dX0_torsionsOf_53 (by decide) ?_
          refine lv_icmp_ge (tgt := 99) hx hb dX0_torsionsOf_55 (by decide) (fun c_8 => ?_) (fun c_8 => ?_)
          · have hR := hR.1 c_8
            exact ih.2.2.2.2 t li lj H locs ls hR (lv_sub hl [0, 1, 2, 3, 4, 5, 6] rfl) h
          · have hR := hR.2 c_8
            refine lv_aload_n hx hb dX0_torsionsOf_58 rfl (lv_at hl 0 rfl) ?_
            refine x_get (ci := 0) (C := RX0) (T := TX0) (N := 4) (v := .ref (ad 11)) B h hin0 8 2 rfl rfl (by decide) (by decide +kernel) rfl dX0_torsionsOf_59 ?_
            refine x_get (ci := 5) (C := RX5) (T := TX5) (N := 6) (v := .ref (ad 32)) B h hin5 11 2 rfl rfl (by decide) (by decide +kernel) rfl dX0_torsionsOf_62 ?_
            refine lv_iload hx hb dX0_torsionsOf_65 (lv_at hl 6 rfl) ?_
            obtain ⟨hb_9, hR⟩ := hR
            refine va_lald (f := (t.2.2.2 9)) hx hb B.2.1 h.1 32 1 rfl rfl hb_9 dX0_torsionsOf_67 ?_
            refine lv_topl (fun v_9 ev_9 => ?_)
            have hR := hR v_9 ev_9
            refine lv_lconst (v := 1) hx hb dX0_torsionsOf_68 (by decide) ?_
            refine W.lcmp hx hb dX0_torsionsOf_69 ?_
            refine lv_topi (fun v_10 ev_10 => ?_)
            have hR := hR v_10 ev_10
            refine lv_if_le (tgt := 93) hx hb dX0_torsionsOf_70 (by decide) (fun c_11 => ?_) (fun c_11 => ?_)
            · have hR := hR.1 c_11
              exact ih.2.2.2.1 t li lj H locs ls hR (lv_sub hl [0, 1, 2, 3, 4, 5, 6] rfl) h
            · have hR := hR.2 c_11
              refine lv_aload_n hx hb dX0_torsionsOf_73 rfl (lv_at hl 0 rfl) ?_
              refine x_get (ci := 0) (C := RX0) (T := TX0) (N := 4) (v := .ref (ad 26)) B h hin0 8 3 rfl rfl (by decide) (by decide +kernel) rfl dX0_torsionsOf_74 ?_
              refine lv_iload hx hb dX0_torsionsOf_77 (lv_at hl 5 rfl) ?_
              refine lv_aload_n hx hb dX0_torsionsOf_79 rfl (lv_at hl 0 rfl) ?_
              refine x_get (ci := 0) (C := RX0) (T := TX0) (N := 4) (v := .ref (ad 11)) B h hin0 8 2 rfl rfl (by decide) (by decide +kernel) rfl dX0_torsionsOf_80 ?_
              refine x_get (ci := 5) (C := RX5) (T := TX5) (N := 6) (v := .ref (ad 32)) B h hin5 11 2 rfl rfl (by decide) (by decide +kernel) rfl dX0_torsionsOf_83 ?_
              refine lv_iload hx hb dX0_torsionsOf_86 (lv_at hl 6 rfl) ?_
              obtain ⟨hb_12, hR⟩ := hR
              refine va_lald (f := (t.2.2.2 9)) hx hb B.2.1 h.1 32 1 rfl rfl hb_12 dX0_torsionsOf_88 ?_
              refine lv_topl (fun v_12 ev_12 => ?_)
              have hR := hR v_12 ev_12
              obtain ⟨hb_13, hR⟩ := hR
              refine z_last (f := (t.2.2.2 5)) B h 26 1 rfl rfl hb_13 dX0_torsionsOf_89 (fun H locs h => ?_)
              obtain ⟨t_13, et_13⟩ : ∃ v : XT, v = sB t 5 (vp_updL (t.2.2.2 5) (li 6).toNatClampNeg v_12) := ⟨_, rfl⟩
              have hR := hR t_13 et_13
              have h : Hp D A s.heap (wX cI cJ cB cZ ad t_13) H locs := by rw [et_13]; exact h
              obtain ⟨v_14, ev_14⟩ : ∃ v : Int32, v = (li 6) + Int32.ofInt 1 := ⟨_, rfl⟩
              have hR := hR v_14 ev_14
              refine lv_iinc (v := v_14) (lv' := [(6, .int v_14), (0, .ref (ad 8)), (1, .long (lj 1)), (3, .int (li 3)), (4, .int (li 4)), (5, .int (li 5)), (7, .int (li 7))]) hx hb dX0_torsionsOf_90 hl (k := 5) rfl ev_14.symm (by decide) rfl (fun ls hl => ?_)
              exact ih.2.2.2.1 t_13 (uI li 6 v_14) lj H locs ls hR (lv_sub hl [1, 2, 3, 4, 5, 0, 6] rfl) h
      · intro t li lj H locs ls hR hl h
        have hR : wbX0_torsionsOf_3 (wpX0_torsionsOf k) k t li lj Q := hR
        unfold wbX0_torsionsOf_3 at hR
        obtain ⟨v_15, ev_15⟩ : ∃ v : Int32, v = (li 7) + Int32.ofInt 1 := ⟨_, rfl⟩
        have hR := hR v_15 ev_15
        refine lv_iinc (v := v_15) (lv' := [(7, .int v_15), (0, .ref (ad 8)), (1, .long (lj 1)), (3, .int (li 3)), (4, .int (li 4)), (5, .int (li 5)), (6, .int (li 6))]) hx hb dX0_torsionsOf_93 hl (k := 6) rfl ev_15.symm (by decide) rfl (fun ls hl => ?_)
        refine lv_goto (tgt := 44) hx hb dX0_torsionsOf_96 (by decide) ?_
        exact ih.2.2.1 t (uI li 7 v_15) lj H locs ls hR (lv_sub hl [1, 2, 3, 4, 5, 6, 0] rfl) h
      · intro t li lj H locs ls hR hl h
        have hR : wbX0_torsionsOf_4 (wpX0_torsionsOf k) k t li lj Q := hR
        unfold wbX0_torsionsOf_4 at hR
        refine lv_iload hx hb dX0_torsionsOf_99 (lv_at hl 5 rfl) ?_
        exact x_iret (w1 := (fun u : XT => (wX cI cJ cB cZ ad u))) t B h hr rfl hR dX0_torsionsOf_101
  exact (main k).1 t _ _ s.heap [] ls hR hl h
def wbX11_torsion_0 (rec : Nat → XT → (Nat → Int32) → (Nat → Int64) → (Int64 → XT → Prop) → Prop) (k : Nat) (t : XT) (li : Nat → Int32) (lj : Nat → Int64) (Q : Int64 → XT → Prop) : Prop :=
  (wqX11_isDim k (li 1) (fun r_1 => ((r_1 = 0) → rec 1 t li lj Q) ∧ (¬ (r_1 = 0) → (((li 3) < 0) → rec 1 t li lj Q) ∧ (¬ ((li 3) < 0) → (((1 : Int32) < (li 3)) → rec 1 t li lj Q) ∧ (¬ ((1 : Int32) < (li 3)) → ((((-1) : Int32) ≤ (li 2)) → (wqX11_basis k t (li 3) (fun r_6 t_6 => ((¬ (li 3) = 1) → rec 2 t_6 (uI (uI li 103 0) 102 (li 1)) (uI lj 101 r_6) Q) ∧ (((li 3) = 1) → rec 2 t_6 (uI (uI li 103 1) 102 (li 1)) (uI lj 101 r_6) Q)))) ∧ (¬ (((-1) : Int32) ≤ (li 2)) → rec 1 t li lj Q))))))
def wbX11_torsion_1 (rec : Nat → XT → (Nat → Int32) → (Nat → Int64) → (Int64 → XT → Prop) → Prop) (k : Nat) (t : XT) (li : Nat → Int32) (lj : Nat → Int64) (Q : Int64 → XT → Prop) : Prop :=
  Q (-1) t
def wbX11_torsion_2 (rec : Nat → XT → (Nat → Int32) → (Nat → Int64) → (Int64 → XT → Prop) → Prop) (k : Nat) (t : XT) (li : Nat → Int32) (lj : Nat → Int64) (Q : Int64 → XT → Prop) : Prop :=
  (wqX0_torsionsOf k t (lj 101) (li 102) (li 103) (fun r_8 t_8 => ((¬ (li 2) = (-1)) → (((r_8 : Int32) ≤ (li 2)) → Q (-2) t_8) ∧ (¬ ((r_8 : Int32) ≤ (li 2)) → (vp_in (li 2) 64 ∧ (∀ v_11 : Int64, v_11 = (t_8.2.2.2 5) (li 2).toNatClampNeg → Q v_11 t_8)))) ∧ (((li 2) = (-1)) → (∀ v_12 : Int64, v_12 = r_8.toInt64 → Q v_12 t_8))))
def wpX11_torsion : Nat → Nat → XT → (Nat → Int32) → (Nat → Int64) → (Int64 → XT → Prop) → Prop
  | 0, _, _, _, _, _ => False
  | k + 1, 0, t, li, lj, Q => wbX11_torsion_0 (wpX11_torsion k) k t li lj Q
  | k + 1, 1, t, li, lj, Q => wbX11_torsion_1 (wpX11_torsion k) k t li lj Q
  | k + 1, 2, t, li, lj, Q => wbX11_torsion_2 (wpX11_torsion k) k t li lj Q
  | _ + 1, _, _, _, _, _ => False
def wqX11_torsion (k : Nat) (t : XT) (a1 : Int32) (a2 : Int32) (a3 : Int32) (Q : Int64 → XT → Prop) : Prop := wpX11_torsion k 0 t (uI (uI (uI (fun _ => 0) 1 a1) 2 a2) 3 a3) (fun _ => 0) Q
set_option maxHeartbeats 8000000 in
set_option maxRecDepth 100000 in
theorem wkX11_torsion (l : Launch) (D : va_G) (cI cJ cB cZ : ClassId) (ad : Nat → Nat) (k : Nat) (t : XT) (a1 : Int32) (a2 : Int32) (a3 : Int32) (Q : Int64 → XT → Prop) (hR : wqX11_torsion k t a1 a2 a3 Q) : MetL l yX11_torsion wsX11_torsion 7 174 0 0 D (TYS cI cJ cB cZ) (wX cI cJ cB cZ ad t) [.ref (ad 0), .int a1, .int a2, .int a3] (fun r u => Q r u) (fun u : XT => (wX cI cJ cB cZ ad u)) := by
  refine x_startL (ty := .long) (cc := cX11_torsion) (by decide) rfl (Nat.le_of_ble_eq_true rfl) ?_
  intro p e s m args below meth c A ls B hr hnm h hl
  have hx := B.1.1
  have hb := B.1.2.1
  have hml := B.1.2.2.1
  have hts := B.1.2.2.2.2
  have hown : s.vm.findClass RX11 = some m.cls := B.1.2.2.2.1
  have hin0 : ∀ w ∈ u_ws RX0 TX0 4, w ∈ wsX11_torsion := by decide +kernel
  have hin11 : ∀ w ∈ u_ws RX11 TX11 11, w ∈ wsX11_torsion := by decide +kernel
  have main : ∀ k : Nat, (∀ (t : XT) (li : Nat → Int32) (lj : Nat → Int64) (H : Heap) (locs : List Loc) (ls : Array Slot), wpX11_torsion k 0 t li lj Q → lv_has ls 5 [(0, .ref (ad 0)), (1, .int (li 1)), (2, .int (li 2)), (3, .int (li 3))] → Hp D A s.heap (wX cI cJ cB cZ ad t) H locs → W p l e { frames := 7, cells := 0, slots := 0, locals := 174 } s m args below meth c H locs 0 0 (MQ below (va_Ql (fun r u => Q r u) (fun u t => xEnd D ((fun u : XT => (wX cI cJ cB cZ ad u)) u) A t) A) args s 0 0 A) (F0 m 0 ls [])) ∧
      (∀ (t : XT) (li : Nat → Int32) (lj : Nat → Int64) (H : Heap) (locs : List Loc) (ls : Array Slot), wpX11_torsion k 1 t li lj Q → lv_has ls 5 [(0, .ref (ad 0)), (1, .int (li 1)), (2, .int (li 2)), (3, .int (li 3))] → Hp D A s.heap (wX cI cJ cB cZ ad t) H locs → W p l e { frames := 7, cells := 0, slots := 0, locals := 174 } s m args below meth c H locs 0 0 (MQ below (va_Ql (fun r u => Q r u) (fun u t => xEnd D ((fun u : XT => (wX cI cJ cB cZ ad u)) u) A t) A) args s 0 0 A) (F0 m 21 ls [])) ∧
      (∀ (t : XT) (li : Nat → Int32) (lj : Nat → Int64) (H : Heap) (locs : List Loc) (ls : Array Slot), wpX11_torsion k 2 t li lj Q → lv_has ls 5 [(0, .ref (ad 0)), (1, .int (li 1)), (2, .int (li 2)), (3, .int (li 3))] → Hp D A s.heap (wX cI cJ cB cZ ad t) H locs → W p l e { frames := 7, cells := 0, slots := 0, locals := 174 } s m args below meth c H locs 0 0 (MQ below (va_Ql (fun r u => Q r u) (fun u t => xEnd D ((fun u : XT => (wX cI cJ cB cZ ad u)) u) A t) A) args s 0 0 A) (F0 m 45 ls [.int (li 103), .int (li 102), .long (lj 101), .ref (ad 8)])) := by
    intro k
    induction k with
    | zero => exact ⟨fun _ _ _ _ _ _ hR => False.elim hR, fun _ _ _ _ _ _ hR => False.elim hR, fun _ _ _ _ _ _ hR => False.elim hR⟩
    | succ k ih =>
      refine ⟨?_, ?_, ?_⟩
      · intro t li lj H locs ls hR hl h
        have hR : wbX11_torsion_0 (wpX11_torsion k) k t li lj Q := hR
        unfold wbX11_torsion_0 at hR
        refine lv_iload_n hx hb dX11_torsion_0 rfl (lv_at hl 1 rfl) ?_
        refine x_cSIE (n := 1) (As := [.int (li 1)]) (rest := []) B h (wkX11_isDim l D cI cJ cB cZ ad k (li 1) _ hR) ⟨⟨_, rfl⟩, by decide +kernel, Nat.le_of_ble_eq_true rfl, Nat.le_of_ble_eq_true rfl⟩ gX11_torsion_X11_isDim rfl hl.1 rfl (Nat.le_of_ble_eq_true rfl) dX11_torsion_1 ⟨Nat.le_of_ble_eq_true rfl, Nat.le_of_ble_eq_true rfl⟩ (fun r_1 _ H locs hR h => ?_)
        refine lv_if_eq (tgt := 21) hx hb dX11_torsion_4 (by decide) (fun c_2 => ?_) (fun c_2 => ?_)
        · have hR := hR.1 c_2
          exact ih.2.1 t li lj H locs ls hR (lv_sub hl [0, 1, 2, 3] rfl) h
        · have hR := hR.2 c_2
          refine lv_iload_n hx hb dX11_torsion_7 rfl (lv_at hl 3 rfl) ?_
          refine lv_if_lt (tgt := 21) hx hb dX11_torsion_8 (by decide) (fun c_3 => ?_) (fun c_3 => ?_)
          · have hR := hR.1 c_3
            exact ih.2.1 t li lj H locs ls hR (lv_sub hl [0, 1, 2, 3] rfl) h
          · have hR := hR.2 c_3
            refine lv_iload_n hx hb dX11_torsion_11 rfl (lv_at hl 3 rfl) ?_
            refine lv_iconst (v := 1) hx hb dX11_torsion_12 (by decide) ?_
            refine lv_icmp_gt (tgt := 21) hx hb dX11_torsion_13 (by decide) (fun c_4 => ?_) (fun c_4 => ?_)
            · have hR := hR.1 c_4
              exact ih.2.1 t li lj H locs ls hR (lv_sub hl [0, 1, 2, 3] rfl) h
            · have hR := hR.2 c_4
              refine lv_iload_n hx hb dX11_torsion_16 rfl (lv_at hl 2 rfl) ?_
              refine lv_iconst (v := (-1)) hx hb dX11_torsion_17 (by decide) ?_
              refine lv_icmp_ge (tgt := 25) hx hb dX11_torsion_18 (by decide) (fun c_5 => ?_) (fun c_5 => ?_)
              · have hR := hR.1 c_5
                refine lv_aload_n hx hb dX11_torsion_25 rfl (lv_at hl 0 rfl) ?_
                refine x_get (ci := 11) (C := RX11) (T := TX11) (N := 11) (v := .ref (ad 8)) B h hin11 0 7 rfl rfl (by decide) (by decide +kernel) rfl dX11_torsion_26 ?_
                refine lv_aload_n hx hb dX11_torsion_29 rfl (lv_at hl 0 rfl) ?_
                refine lv_iload_n hx hb dX11_torsion_30 rfl (lv_at hl 3 rfl) ?_
                refine x_cVLF (n := 1) (As := [.int (li 3)]) (rest := [.ref (ad 8)]) B h (wkX11_basis l D cI cJ cB cZ ad k t (li 3) _ hR) ⟨⟨_, rfl⟩, by decide +kernel, Nat.le_of_ble_eq_true rfl, Nat.le_of_ble_eq_true rfl⟩ gX11_torsion_X11_basis (show ((wX cI cJ cB cZ ad t) : va_W)[0]? = some (_, .inr (11, _)) from rfl) rfl rfl hl.1 rfl (Nat.le_of_ble_eq_true rfl) dX11_torsion_31 ⟨Nat.le_of_ble_eq_true rfl, Nat.le_of_ble_eq_true rfl⟩ (fun r_6 t_6 H locs hR h => ?_)
                refine lv_iload_n hx hb dX11_torsion_34 rfl (lv_at hl 1 rfl) ?_
                refine lv_iload_n hx hb dX11_torsion_35 rfl (lv_at hl 3 rfl) ?_
                refine lv_iconst (v := 1) hx hb dX11_torsion_36 (by decide) ?_
                refine lv_icmp_ne (tgt := 44) hx hb dX11_torsion_37 (by decide) (fun c_7 => ?_) (fun c_7 => ?_)
                · have hR := hR.1 c_7
                  refine lv_iconst (v := 0) hx hb dX11_torsion_44 (by decide) ?_
                  exact ih.2.2 t_6 (uI (uI li 103 0) 102 (li 1)) (uI lj 101 r_6) H locs ls hR (lv_sub hl [0, 1, 2, 3] rfl) h
                · have hR := hR.2 c_7
                  refine lv_iconst (v := 1) hx hb dX11_torsion_40 (by decide) ?_
                  refine lv_goto (tgt := 45) hx hb dX11_torsion_41 (by decide) ?_
                  exact ih.2.2 t_6 (uI (uI li 103 1) 102 (li 1)) (uI lj 101 r_6) H locs ls hR (lv_sub hl [0, 1, 2, 3] rfl) h
              · have hR := hR.2 c_5
                exact ih.2.1 t li lj H locs ls hR (lv_sub hl [0, 1, 2, 3] rfl) h
      · intro t li lj H locs ls hR hl h
        have hR : wbX11_torsion_1 (wpX11_torsion k) k t li lj Q := hR
        unfold wbX11_torsion_1 at hR
        refine lv_ldc2 (v := (-1)) hx hb hown (hts (.constantLong RX11 242 (-1)) (by decide +kernel)) dX11_torsion_21 ?_
        exact x_lret (w1 := (fun u : XT => (wX cI cJ cB cZ ad u))) t B h hr hR dX11_torsion_24
      · intro t li lj H locs ls hR hl h
        have hR : wbX11_torsion_2 (wpX11_torsion k) k t li lj Q := hR
        unfold wbX11_torsion_2 at hR
        refine x_cVIF (n := 3) (As := [.long (lj 101), .int (li 102), .int (li 103)]) (rest := []) B h (wkX0_torsionsOf l D cI cJ cB cZ ad k t (lj 101) (li 102) (li 103) _ hR) ⟨⟨_, rfl⟩, by decide +kernel, Nat.le_of_ble_eq_true rfl, Nat.le_of_ble_eq_true rfl⟩ gX11_torsion_X0_torsionsOf (show ((wX cI cJ cB cZ ad t) : va_W)[8]? = some (_, .inr (0, _)) from rfl) rfl rfl hl.1 rfl (Nat.le_of_ble_eq_true rfl) dX11_torsion_45 ⟨Nat.le_of_ble_eq_true rfl, Nat.le_of_ble_eq_true rfl⟩ (fun r_8 t_8 H locs hR h => ?_)
        refine lv_istore (lv' := [(4, .int r_8), (0, .ref (ad 0)), (1, .int (li 1)), (2, .int (li 2)), (3, .int (li 3))]) hx hb dX11_torsion_48 hl (by decide) rfl (fun ls hl => ?_)
        refine lv_iload_n hx hb dX11_torsion_50 rfl (lv_at hl 3 rfl) ?_
        refine lv_iconst (v := (-1)) hx hb dX11_torsion_51 (by decide) ?_
        refine lv_icmp_ne (tgt := 59) hx hb dX11_torsion_52 (by decide) (fun c_9 => ?_) (fun c_9 => ?_)
        · have hR := hR.1 c_9
          refine lv_iload_n hx hb dX11_torsion_59 rfl (lv_at hl 3 rfl) ?_
          refine lv_iload hx hb dX11_torsion_60 (lv_at hl 0 rfl) ?_
          refine lv_icmp_ge (tgt := 77) hx hb dX11_torsion_62 (by decide) (fun c_10 => ?_) (fun c_10 => ?_)
          · have hR := hR.1 c_10
            refine lv_ldc2 (v := (-2)) hx hb hown (hts (.constantLong RX11 279 (-2)) (by decide +kernel)) dX11_torsion_77 ?_
            exact x_lret (w1 := (fun u : XT => (wX cI cJ cB cZ ad u))) t_8 B h hr hR dX11_torsion_80
          · have hR := hR.2 c_10
            refine lv_aload_n hx hb dX11_torsion_65 rfl (lv_at hl 1 rfl) ?_
            refine x_get (ci := 11) (C := RX11) (T := TX11) (N := 11) (v := .ref (ad 8)) B h hin11 0 7 rfl rfl (by decide) (by decide +kernel) rfl dX11_torsion_66 ?_
            refine x_get (ci := 0) (C := RX0) (T := TX0) (N := 4) (v := .ref (ad 26)) B h hin0 8 3 rfl rfl (by decide) (by decide +kernel) rfl dX11_torsion_69 ?_
            refine lv_iload_n hx hb dX11_torsion_72 rfl (lv_at hl 3 rfl) ?_
            obtain ⟨hb_11, hR⟩ := hR
            refine va_lald (f := (t_8.2.2.2 5)) hx hb B.2.1 h.1 26 1 rfl rfl hb_11 dX11_torsion_73 ?_
            refine lv_topl (fun v_11 ev_11 => ?_)
            have hR := hR v_11 ev_11
            refine lv_goto (tgt := 80) hx hb dX11_torsion_74 (by decide) ?_
            exact x_lret (w1 := (fun u : XT => (wX cI cJ cB cZ ad u))) t_8 B h hr hR dX11_torsion_80
        · have hR := hR.2 c_9
          refine lv_iload hx hb dX11_torsion_55 (lv_at hl 0 rfl) ?_
          obtain ⟨v_12, ev_12⟩ : ∃ v : Int64, v = r_8.toInt64 := ⟨_, rfl⟩
          have hR := hR v_12 ev_12
          refine lv_i2l (v := v_12) hx hb dX11_torsion_57 ev_12.symm ?_
          exact x_lret (w1 := (fun u : XT => (wX cI cJ cB cZ ad u))) t_8 B h hr hR dX11_torsion_58
  exact (main k).1 t _ _ s.heap [] ls hR hl h
def wbX11_slack_0 (rec : Nat → XT → (Nat → Int32) → (Nat → Int64) → (Int32 → XT → Prop) → Prop) (k : Nat) (t : XT) (li : Nat → Int32) (lj : Nat → Int64) (Q : Int32 → XT → Prop) : Prop :=
  (wqX11_isDim k (li 1) (fun r_1 => ((¬ r_1 = 0) → rec 1 t (uI (uI li 2 0) 3 0) lj Q) ∧ ((r_1 = 0) → Q (-2147483648) t)))
def wbX11_slack_1 (rec : Nat → XT → (Nat → Int32) → (Nat → Int64) → (Int32 → XT → Prop) → Prop) (k : Nat) (t : XT) (li : Nat → Int32) (lj : Nat → Int64) (Q : Int32 → XT → Prop) : Prop :=
  ((((li 1) : Int32) < (li 3)) → Q (li 2) t) ∧ (¬ (((li 1) : Int32) < (li 3)) → (wqX6_unpaired k t  (fun r_4 t_4 => (vp_in (li 3) 5 ∧ (∀ v_5 : Int64, v_5 = (t_4.2.2.2 2) (li 3).toNatClampNeg → (∀ v_6 : Int64, v_6 = (r_4 &&& v_5) → (wqJ13_bitCount_95d88 k v_6 (fun r_7 => (wqX0_bettiOf k t_4 (t_4.2.1 0) (li 3) 0 (fun r_8 t_8 => (∀ v_9 : Int32, v_9 = (r_7 - r_8) → (∀ v_10 : Int32, v_10 = (v_9 - (li 2)) → (∀ v_11 : Int32, v_11 = (li 3) + Int32.ofInt 1 → rec 1 t_8 (uI (uI li 2 v_10) 3 v_11) lj Q)))))))))))))
def wpX11_slack : Nat → Nat → XT → (Nat → Int32) → (Nat → Int64) → (Int32 → XT → Prop) → Prop
  | 0, _, _, _, _, _ => False
  | k + 1, 0, t, li, lj, Q => wbX11_slack_0 (wpX11_slack k) k t li lj Q
  | k + 1, 1, t, li, lj, Q => wbX11_slack_1 (wpX11_slack k) k t li lj Q
  | _ + 1, _, _, _, _, _ => False
def wqX11_slack (k : Nat) (t : XT) (a1 : Int32) (Q : Int32 → XT → Prop) : Prop := wpX11_slack k 0 t (uI (fun _ => 0) 1 a1) (fun _ => 0) Q
set_option maxHeartbeats 8000000 in
set_option maxRecDepth 100000 in
theorem wkX11_slack (l : Launch) (D : va_G) (cI cJ cB cZ : ClassId) (ad : Nat → Nat) (k : Nat) (t : XT) (a1 : Int32) (Q : Int32 → XT → Prop) (hR : wqX11_slack k t a1 Q) : MetI l yX11_slack wsX11_slack 7 172 0 0 D (TYS cI cJ cB cZ) (wX cI cJ cB cZ ad t) [.ref (ad 0), .int a1] (fun r u => Q r u) (fun u : XT => (wX cI cJ cB cZ ad u)) := by
  refine x_startI (ty := .int) (cc := cX11_slack) (by decide) rfl (Nat.le_of_ble_eq_true rfl) ?_
  intro p e s m args below meth c A ls B hr hnm h hl
  have hx := B.1.1
  have hb := B.1.2.1
  have hml := B.1.2.2.1
  have hts := B.1.2.2.2.2
  have hown : s.vm.findClass RX11 = some m.cls := B.1.2.2.2.1
  have hin6 : ∀ w ∈ u_ws RX6 TX6 6, w ∈ wsX11_slack := by decide +kernel
  have hin9 : ∀ w ∈ u_ws RX9 TX9 7, w ∈ wsX11_slack := by decide +kernel
  have hin11 : ∀ w ∈ u_ws RX11 TX11 11, w ∈ wsX11_slack := by decide +kernel
  have main : ∀ k : Nat, (∀ (t : XT) (li : Nat → Int32) (lj : Nat → Int64) (H : Heap) (locs : List Loc) (ls : Array Slot), wpX11_slack k 0 t li lj Q → lv_has ls 5 [(0, .ref (ad 0)), (1, .int (li 1))] → Hp D A s.heap (wX cI cJ cB cZ ad t) H locs → W p l e { frames := 7, cells := 0, slots := 0, locals := 172 } s m args below meth c H locs 0 0 (MQ below (va_Qi (fun r u => Q r u) (fun u t => xEnd D ((fun u : XT => (wX cI cJ cB cZ ad u)) u) A t) A) args s 0 0 A) (F0 m 0 ls [])) ∧
      (∀ (t : XT) (li : Nat → Int32) (lj : Nat → Int64) (H : Heap) (locs : List Loc) (ls : Array Slot), wpX11_slack k 1 t li lj Q → lv_has ls 5 [(0, .ref (ad 0)), (1, .int (li 1)), (2, .int (li 2)), (3, .int (li 3))] → Hp D A s.heap (wX cI cJ cB cZ ad t) H locs → W p l e { frames := 7, cells := 0, slots := 0, locals := 172 } s m args below meth c H locs 0 0 (MQ below (va_Qi (fun r u => Q r u) (fun u t => xEnd D ((fun u : XT => (wX cI cJ cB cZ ad u)) u) A t) A) args s 0 0 A) (F0 m 14 ls [])) := by
    intro k
    induction k with
    | zero => exact ⟨fun _ _ _ _ _ _ hR => False.elim hR, fun _ _ _ _ _ _ hR => False.elim hR⟩
    | succ k ih =>
      refine ⟨?_, ?_⟩
      · intro t li lj H locs ls hR hl h
        have hR : wbX11_slack_0 (wpX11_slack k) k t li lj Q := hR
        unfold wbX11_slack_0 at hR
        refine lv_iload_n hx hb dX11_slack_0 rfl (lv_at hl 1 rfl) ?_
        refine x_cSIE (n := 1) (As := [.int (li 1)]) (rest := []) B h (wkX11_isDim l D cI cJ cB cZ ad k (li 1) _ hR) ⟨⟨_, rfl⟩, by decide +kernel, Nat.le_of_ble_eq_true rfl, Nat.le_of_ble_eq_true rfl⟩ gX11_slack_X11_isDim rfl hl.1 rfl (Nat.le_of_ble_eq_true rfl) dX11_slack_1 ⟨Nat.le_of_ble_eq_true rfl, Nat.le_of_ble_eq_true rfl⟩ (fun r_1 _ H locs hR h => ?_)
        refine lv_if_ne (tgt := 10) hx hb dX11_slack_4 (by decide) (fun c_2 => ?_) (fun c_2 => ?_)
        · have hR := hR.1 c_2
          refine lv_iconst (v := 0) hx hb dX11_slack_10 (by decide) ?_
          refine lv_istore_n (lv' := [(2, .int 0), (0, .ref (ad 0)), (1, .int (li 1))]) hx hb dX11_slack_11 rfl hl (by decide) rfl (fun ls hl => ?_)
          refine lv_iconst (v := 0) hx hb dX11_slack_12 (by decide) ?_
          refine lv_istore_n (lv' := [(3, .int 0), (2, .int 0), (0, .ref (ad 0)), (1, .int (li 1))]) hx hb dX11_slack_13 rfl hl (by decide) rfl (fun ls hl => ?_)
          exact ih.2 t (uI (uI li 2 0) 3 0) lj H locs ls hR (lv_sub hl [2, 3, 1, 0] rfl) h
        · have hR := hR.2 c_2
          refine lv_ldc (v := (-2147483648)) hx hb hown (hts (.constant RX11 160 (-2147483648)) (by decide +kernel)) dX11_slack_7 ?_
          exact x_iret (w1 := (fun u : XT => (wX cI cJ cB cZ ad u))) t B h hr rfl hR dX11_slack_9
      · intro t li lj H locs ls hR hl h
        have hR : wbX11_slack_1 (wpX11_slack k) k t li lj Q := hR
        unfold wbX11_slack_1 at hR
        refine lv_iload_n hx hb dX11_slack_14 rfl (lv_at hl 3 rfl) ?_
        refine lv_iload_n hx hb dX11_slack_15 rfl (lv_at hl 1 rfl) ?_
        refine lv_icmp_gt (tgt := 69) hx hb dX11_slack_16 (by decide) (fun c_3 => ?_) (fun c_3 => ?_)
        · have hR := hR.1 c_3
          refine lv_iload_n hx hb dX11_slack_69 rfl (lv_at hl 2 rfl) ?_
          exact x_iret (w1 := (fun u : XT => (wX cI cJ cB cZ ad u))) t B h hr rfl hR dX11_slack_70
        · have hR := hR.2 c_3
          refine lv_aload_n hx hb dX11_slack_19 rfl (lv_at hl 0 rfl) ?_
          refine x_get (ci := 11) (C := RX11) (T := TX11) (N := 11) (v := .ref (ad 4)) B h hin11 0 3 rfl rfl (by decide) (by decide +kernel) rfl dX11_slack_20 ?_
          refine x_cVLF (n := 0) (As := []) (rest := []) B h (wkX6_unpaired l D cI cJ cB cZ ad k t  _ hR) ⟨⟨_, rfl⟩, by decide +kernel, Nat.le_of_ble_eq_true rfl, Nat.le_of_ble_eq_true rfl⟩ gX11_slack_X6_unpaired (show ((wX cI cJ cB cZ ad t) : va_W)[4]? = some (_, .inr (6, _)) from rfl) rfl rfl hl.1 rfl (Nat.le_of_ble_eq_true rfl) dX11_slack_23 ⟨Nat.le_of_ble_eq_true rfl, Nat.le_of_ble_eq_true rfl⟩ (fun r_4 t_4 H locs hR h => ?_)
          refine lv_aload_n hx hb dX11_slack_26 rfl (lv_at hl 0 rfl) ?_
          refine x_get (ci := 11) (C := RX11) (T := TX11) (N := 11) (v := .ref (ad 3)) B h hin11 0 2 rfl rfl (by decide) (by decide +kernel) rfl dX11_slack_27 ?_
          refine x_get (ci := 9) (C := RX9) (T := TX9) (N := 7) (v := .ref (ad 19)) B h hin9 3 6 rfl rfl (by decide) (by decide +kernel) rfl dX11_slack_30 ?_
          refine lv_iload_n hx hb dX11_slack_33 rfl (lv_at hl 3 rfl) ?_
          obtain ⟨hb_5, hR⟩ := hR
          refine va_lald (f := (t_4.2.2.2 2)) hx hb B.2.1 h.1 19 1 rfl rfl hb_5 dX11_slack_34 ?_
          refine lv_topl (fun v_5 ev_5 => ?_)
          have hR := hR v_5 ev_5
          refine lv_land hx hb dX11_slack_35 ?_
          refine lv_topl (fun v_6 ev_6 => ?_)
          have hR := hR v_6 ev_6
          refine x_cSIE (n := 1) (As := [.long v_6]) (rest := []) B h (wkJ13_bitCount_95d88 l D cI cJ cB cZ ad k v_6 _ hR) ⟨⟨_, rfl⟩, by decide +kernel, Nat.le_of_ble_eq_true rfl, Nat.le_of_ble_eq_true rfl⟩ gX11_slack_J13_bitCount_95d88 rfl hl.1 rfl (Nat.le_of_ble_eq_true rfl) dX11_slack_36 ⟨Nat.le_of_ble_eq_true rfl, Nat.le_of_ble_eq_true rfl⟩ (fun r_7 _ H locs hR h => ?_)
          refine lv_istore (lv' := [(4, .int r_7), (0, .ref (ad 0)), (1, .int (li 1)), (2, .int (li 2)), (3, .int (li 3))]) hx hb dX11_slack_39 hl (by decide) rfl (fun ls hl => ?_)
          refine lv_iload hx hb dX11_slack_41 (lv_at hl 0 rfl) ?_
          refine lv_aload_n hx hb dX11_slack_43 rfl (lv_at hl 1 rfl) ?_
          refine x_get (ci := 11) (C := RX11) (T := TX11) (N := 11) (v := .ref (ad 8)) B h hin11 0 7 rfl rfl (by decide) (by decide +kernel) rfl dX11_slack_44 ?_
          refine lv_aload_n hx hb dX11_slack_47 rfl (lv_at hl 1 rfl) ?_
          refine x_get (ci := 11) (C := RX11) (T := TX11) (N := 11) (v := .ref (ad 4)) B h hin11 0 3 rfl rfl (by decide) (by decide +kernel) rfl dX11_slack_48 ?_
          refine x_get (ci := 6) (C := RX6) (T := TX6) (N := 6) (v := .long (t_4.2.1 0)) B h hin6 4 2 rfl rfl (by decide) (by decide +kernel) rfl dX11_slack_51 ?_
          refine lv_iload_n hx hb dX11_slack_54 rfl (lv_at hl 4 rfl) ?_
          refine lv_iconst (v := 0) hx hb dX11_slack_55 (by decide) ?_
          refine x_cVIF (n := 3) (As := [.long (t_4.2.1 0), .int (li 3), .int 0]) (rest := [.int r_7]) B h (wkX0_bettiOf l D cI cJ cB cZ ad k t_4 (t_4.2.1 0) (li 3) 0 _ hR) ⟨⟨_, rfl⟩, by decide +kernel, Nat.le_of_ble_eq_true rfl, Nat.le_of_ble_eq_true rfl⟩ gX11_slack_X0_bettiOf (show ((wX cI cJ cB cZ ad t_4) : va_W)[8]? = some (_, .inr (0, _)) from rfl) rfl rfl hl.1 rfl (Nat.le_of_ble_eq_true rfl) dX11_slack_56 ⟨Nat.le_of_ble_eq_true rfl, Nat.le_of_ble_eq_true rfl⟩ (fun r_8 t_8 H locs hR h => ?_)
          refine lv_isub hx hb dX11_slack_59 ?_
          refine lv_topi (fun v_9 ev_9 => ?_)
          have hR := hR v_9 ev_9
          refine lv_iload_n hx hb dX11_slack_60 rfl (lv_at hl 3 rfl) ?_
          refine lv_isub hx hb dX11_slack_61 ?_
          refine lv_topi (fun v_10 ev_10 => ?_)
          have hR := hR v_10 ev_10
          refine lv_istore_n (lv' := [(2, .int v_10), (4, .int r_7), (0, .ref (ad 0)), (1, .int (li 1)), (3, .int (li 3))]) hx hb dX11_slack_62 rfl hl (by decide) rfl (fun ls hl => ?_)
          obtain ⟨v_11, ev_11⟩ : ∃ v : Int32, v = (li 3) + Int32.ofInt 1 := ⟨_, rfl⟩
          have hR := hR v_11 ev_11
          refine lv_iinc (v := v_11) (lv' := [(3, .int v_11), (2, .int v_10), (4, .int r_7), (0, .ref (ad 0)), (1, .int (li 1))]) hx hb dX11_slack_63 hl (k := 4) rfl ev_11.symm (by decide) rfl (fun ls hl => ?_)
          refine lv_goto (tgt := 14) hx hb dX11_slack_66 (by decide) ?_
          exact ih.2 t_8 (uI (uI li 2 v_10) 3 v_11) lj H locs ls hR (lv_sub hl [3, 4, 1, 0] rfl) h
  exact (main k).1 t _ _ s.heap [] ls hR hl h
def wbX11_free_0 (rec : Nat → XT → (Nat → Int32) → (Nat → Int64) → (Int32 → XT → Prop) → Prop) (k : Nat) (t : XT) (li : Nat → Int32) (lj : Nat → Int64) (Q : Int32 → XT → Prop) : Prop :=
  ((((-1) : Int32) ≤ (li 1)) → rec 1 t (uI li 4 0) (uI lj 2 0) Q) ∧ (¬ (((-1) : Int32) ≤ (li 1)) → Q (-1) t)
def wbX11_free_1 (rec : Nat → XT → (Nat → Int32) → (Nat → Int64) → (Int32 → XT → Prop) → Prop) (k : Nat) (t : XT) (li : Nat → Int32) (lj : Nat → Int64) (Q : Int32 → XT → Prop) : Prop :=
  ((((t.1 4) : Int32) ≤ (li 4)) → (wqX11_listed k (lj 2) (li 1) (fun r_3 => Q r_3 t))) ∧ (¬ (((t.1 4) : Int32) ≤ (li 4)) → (wqX11_isThere k t (li 4) (fun r_4 t_4 => ((r_4 = 0) → rec 2 t_4 li lj Q) ∧ (¬ (r_4 = 0) → (wqX11_isFree k t_4 (li 4) (fun r_6 t_6 => ((r_6 = 0) → rec 2 t_6 li lj Q) ∧ (¬ (r_6 = 0) → (wqX11_bit k (li 4) (fun r_8 => (∀ v_9 : Int64, v_9 = ((lj 2) ||| r_8) → rec 2 t_6 li (uI lj 2 v_9) Q))))))))))
def wbX11_free_2 (rec : Nat → XT → (Nat → Int32) → (Nat → Int64) → (Int32 → XT → Prop) → Prop) (k : Nat) (t : XT) (li : Nat → Int32) (lj : Nat → Int64) (Q : Int32 → XT → Prop) : Prop :=
  (∀ v_10 : Int32, v_10 = (li 4) + Int32.ofInt 1 → rec 1 t (uI li 4 v_10) lj Q)
def wpX11_free : Nat → Nat → XT → (Nat → Int32) → (Nat → Int64) → (Int32 → XT → Prop) → Prop
  | 0, _, _, _, _, _ => False
  | k + 1, 0, t, li, lj, Q => wbX11_free_0 (wpX11_free k) k t li lj Q
  | k + 1, 1, t, li, lj, Q => wbX11_free_1 (wpX11_free k) k t li lj Q
  | k + 1, 2, t, li, lj, Q => wbX11_free_2 (wpX11_free k) k t li lj Q
  | _ + 1, _, _, _, _, _ => False
def wqX11_free (k : Nat) (t : XT) (a1 : Int32) (Q : Int32 → XT → Prop) : Prop := wpX11_free k 0 t (uI (fun _ => 0) 1 a1) (fun _ => 0) Q
set_option maxHeartbeats 8000000 in
set_option maxRecDepth 100000 in
theorem wkX11_free (l : Launch) (D : va_G) (cI cJ cB cZ : ClassId) (ad : Nat → Nat) (k : Nat) (t : XT) (a1 : Int32) (Q : Int32 → XT → Prop) (hR : wqX11_free k t a1 Q) : MetI l yX11_free wsX11_free 4 90 0 0 D (TYS cI cJ cB cZ) (wX cI cJ cB cZ ad t) [.ref (ad 0), .int a1] (fun r u => Q r u) (fun u : XT => (wX cI cJ cB cZ ad u)) := by
  refine x_startI (ty := .int) (cc := cX11_free) (by decide) rfl (Nat.le_of_ble_eq_true rfl) ?_
  intro p e s m args below meth c A ls B hr hnm h hl
  have hx := B.1.1
  have hb := B.1.2.1
  have hml := B.1.2.2.1
  have hts := B.1.2.2.2.2
  have hown : s.vm.findClass RX11 = some m.cls := B.1.2.2.2.1
  have hin9 : ∀ w ∈ u_ws RX9 TX9 7, w ∈ wsX11_free := by decide +kernel
  have hin11 : ∀ w ∈ u_ws RX11 TX11 11, w ∈ wsX11_free := by decide +kernel
  have main : ∀ k : Nat, (∀ (t : XT) (li : Nat → Int32) (lj : Nat → Int64) (H : Heap) (locs : List Loc) (ls : Array Slot), wpX11_free k 0 t li lj Q → lv_has ls 5 [(0, .ref (ad 0)), (1, .int (li 1))] → Hp D A s.heap (wX cI cJ cB cZ ad t) H locs → W p l e { frames := 4, cells := 0, slots := 0, locals := 90 } s m args below meth c H locs 0 0 (MQ below (va_Qi (fun r u => Q r u) (fun u t => xEnd D ((fun u : XT => (wX cI cJ cB cZ ad u)) u) A t) A) args s 0 0 A) (F0 m 0 ls [])) ∧
      (∀ (t : XT) (li : Nat → Int32) (lj : Nat → Int64) (H : Heap) (locs : List Loc) (ls : Array Slot), wpX11_free k 1 t li lj Q → lv_has ls 5 [(0, .ref (ad 0)), (1, .int (li 1)), (2, .long (lj 2)), (4, .int (li 4))] → Hp D A s.heap (wX cI cJ cB cZ ad t) H locs → W p l e { frames := 4, cells := 0, slots := 0, locals := 90 } s m args below meth c H locs 0 0 (MQ below (va_Qi (fun r u => Q r u) (fun u t => xEnd D ((fun u : XT => (wX cI cJ cB cZ ad u)) u) A t) A) args s 0 0 A) (F0 m 12 ls [])) ∧
      (∀ (t : XT) (li : Nat → Int32) (lj : Nat → Int64) (H : Heap) (locs : List Loc) (ls : Array Slot), wpX11_free k 2 t li lj Q → lv_has ls 5 [(0, .ref (ad 0)), (1, .int (li 1)), (2, .long (lj 2)), (4, .int (li 4))] → Hp D A s.heap (wX cI cJ cB cZ ad t) H locs → W p l e { frames := 4, cells := 0, slots := 0, locals := 90 } s m args below meth c H locs 0 0 (MQ below (va_Qi (fun r u => Q r u) (fun u t => xEnd D ((fun u : XT => (wX cI cJ cB cZ ad u)) u) A t) A) args s 0 0 A) (F0 m 50 ls [])) := by
    intro k
    induction k with
    | zero => exact ⟨fun _ _ _ _ _ _ hR => False.elim hR, fun _ _ _ _ _ _ hR => False.elim hR, fun _ _ _ _ _ _ hR => False.elim hR⟩
    | succ k ih =>
      refine ⟨?_, ?_, ?_⟩
      · intro t li lj H locs ls hR hl h
        have hR : wbX11_free_0 (wpX11_free k) k t li lj Q := hR
        unfold wbX11_free_0 at hR
        refine lv_iload_n hx hb dX11_free_0 rfl (lv_at hl 1 rfl) ?_
        refine lv_iconst (v := (-1)) hx hb dX11_free_1 (by decide) ?_
        refine lv_icmp_ge (tgt := 7) hx hb dX11_free_2 (by decide) (fun c_1 => ?_) (fun c_1 => ?_)
        · have hR := hR.1 c_1
          refine lv_lconst (v := 0) hx hb dX11_free_7 (by decide) ?_
          refine lv_lstore_n (lv' := [(2, .long 0), (0, .ref (ad 0)), (1, .int (li 1))]) hx hb dX11_free_8 rfl hl (by decide) rfl (fun ls hl => ?_)
          refine lv_iconst (v := 0) hx hb dX11_free_9 (by decide) ?_
          refine lv_istore (lv' := [(4, .int 0), (2, .long 0), (0, .ref (ad 0)), (1, .int (li 1))]) hx hb dX11_free_10 hl (by decide) rfl (fun ls hl => ?_)
          exact ih.2.1 t (uI li 4 0) (uI lj 2 0) H locs ls hR (lv_sub hl [2, 3, 1, 0] rfl) h
        · have hR := hR.2 c_1
          refine lv_iconst (v := (-1)) hx hb dX11_free_5 (by decide) ?_
          exact x_iret (w1 := (fun u : XT => (wX cI cJ cB cZ ad u))) t B h hr rfl hR dX11_free_6
      · intro t li lj H locs ls hR hl h
        have hR : wbX11_free_1 (wpX11_free k) k t li lj Q := hR
        unfold wbX11_free_1 at hR
        refine lv_iload hx hb dX11_free_12 (lv_at hl 3 rfl) ?_
        refine lv_aload_n hx hb dX11_free_14 rfl (lv_at hl 0 rfl) ?_
        refine x_get (ci := 11) (C := RX11) (T := TX11) (N := 11) (v := .ref (ad 3)) B h hin11 0 2 rfl rfl (by decide) (by decide +kernel) rfl dX11_free_15 ?_
        refine x_get (ci := 9) (C := RX9) (T := TX9) (N := 7) (v := .int (t.1 4)) B h hin9 3 0 rfl rfl (by decide) (by decide +kernel) rfl dX11_free_18 ?_
        refine lv_icmp_ge (tgt := 56) hx hb dX11_free_21 (by decide) (fun c_2 => ?_) (fun c_2 => ?_)
        · have hR := hR.1 c_2
          refine lv_lload_n hx hb dX11_free_56 rfl (lv_at hl 2 rfl) ?_
          refine lv_iload_n hx hb dX11_free_57 rfl (lv_at hl 1 rfl) ?_
          refine x_cSIE (n := 2) (As := [.long (lj 2), .int (li 1)]) (rest := []) B h (wkX11_listed l D cI cJ cB cZ ad k (lj 2) (li 1) _ hR) ⟨⟨_, rfl⟩, by decide +kernel, Nat.le_of_ble_eq_true rfl, Nat.le_of_ble_eq_true rfl⟩ gX11_free_X11_listed rfl hl.1 rfl (Nat.le_of_ble_eq_true rfl) dX11_free_58 ⟨Nat.le_of_ble_eq_true rfl, Nat.le_of_ble_eq_true rfl⟩ (fun r_3 _ H locs hR h => ?_)
          exact x_iret (w1 := (fun u : XT => (wX cI cJ cB cZ ad u))) t B h hr rfl hR dX11_free_61
        · have hR := hR.2 c_2
          refine lv_aload_n hx hb dX11_free_24 rfl (lv_at hl 0 rfl) ?_
          refine lv_iload hx hb dX11_free_25 (lv_at hl 3 rfl) ?_
          refine x_cVIF (n := 1) (As := [.int (li 4)]) (rest := []) B h (wkX11_isThere l D cI cJ cB cZ ad k t (li 4) _ hR) ⟨⟨_, rfl⟩, by decide +kernel, Nat.le_of_ble_eq_true rfl, Nat.le_of_ble_eq_true rfl⟩ gX11_free_X11_isThere (show ((wX cI cJ cB cZ ad t) : va_W)[0]? = some (_, .inr (11, _)) from rfl) rfl rfl hl.1 rfl (Nat.le_of_ble_eq_true rfl) dX11_free_27 ⟨Nat.le_of_ble_eq_true rfl, Nat.le_of_ble_eq_true rfl⟩ (fun r_4 t_4 H locs hR h => ?_)
          refine lv_if_eq (tgt := 50) hx hb dX11_free_30 (by decide) (fun c_5 => ?_) (fun c_5 => ?_)
          · have hR := hR.1 c_5
            exact ih.2.2 t_4 li lj H locs ls hR (lv_sub hl [0, 1, 2, 3] rfl) h
          · have hR := hR.2 c_5
            refine lv_aload_n hx hb dX11_free_33 rfl (lv_at hl 0 rfl) ?_
            refine lv_iload hx hb dX11_free_34 (lv_at hl 3 rfl) ?_
            refine x_cVIF (n := 1) (As := [.int (li 4)]) (rest := []) B h (wkX11_isFree l D cI cJ cB cZ ad k t_4 (li 4) _ hR) ⟨⟨_, rfl⟩, by decide +kernel, Nat.le_of_ble_eq_true rfl, Nat.le_of_ble_eq_true rfl⟩ gX11_free_X11_isFree (show ((wX cI cJ cB cZ ad t_4) : va_W)[0]? = some (_, .inr (11, _)) from rfl) rfl rfl hl.1 rfl (Nat.le_of_ble_eq_true rfl) dX11_free_36 ⟨Nat.le_of_ble_eq_true rfl, Nat.le_of_ble_eq_true rfl⟩ (fun r_6 t_6 H locs hR h => ?_)
            refine lv_if_eq (tgt := 50) hx hb dX11_free_39 (by decide) (fun c_7 => ?_) (fun c_7 => ?_)
            · have hR := hR.1 c_7
              exact ih.2.2 t_6 li lj H locs ls hR (lv_sub hl [0, 1, 2, 3] rfl) h
            · have hR := hR.2 c_7
              refine lv_lload_n hx hb dX11_free_42 rfl (lv_at hl 2 rfl) ?_
              refine lv_iload hx hb dX11_free_43 (lv_at hl 3 rfl) ?_
              refine x_cSLE (n := 1) (As := [.int (li 4)]) (rest := [.long (lj 2)]) B h (wkX11_bit l D cI cJ cB cZ ad k (li 4) _ hR) ⟨⟨_, rfl⟩, by decide +kernel, Nat.le_of_ble_eq_true rfl, Nat.le_of_ble_eq_true rfl⟩ gX11_free_X11_bit rfl hl.1 rfl (Nat.le_of_ble_eq_true rfl) dX11_free_45 ⟨Nat.le_of_ble_eq_true rfl, Nat.le_of_ble_eq_true rfl⟩ (fun r_8 _ H locs hR h => ?_)
              refine lv_lor hx hb dX11_free_48 ?_
              refine lv_topl (fun v_9 ev_9 => ?_)
              have hR := hR v_9 ev_9
              refine lv_lstore_n (lv' := [(2, .long v_9), (0, .ref (ad 0)), (1, .int (li 1)), (4, .int (li 4))]) hx hb dX11_free_49 rfl hl (by decide) rfl (fun ls hl => ?_)
              exact ih.2.2 t_6 li (uI lj 2 v_9) H locs ls hR (lv_sub hl [1, 2, 0, 3] rfl) h
      · intro t li lj H locs ls hR hl h
        have hR : wbX11_free_2 (wpX11_free k) k t li lj Q := hR
        unfold wbX11_free_2 at hR
        obtain ⟨v_10, ev_10⟩ : ∃ v : Int32, v = (li 4) + Int32.ofInt 1 := ⟨_, rfl⟩
        have hR := hR v_10 ev_10
        refine lv_iinc (v := v_10) (lv' := [(4, .int v_10), (0, .ref (ad 0)), (1, .int (li 1)), (2, .long (lj 2))]) hx hb dX11_free_50 hl (k := 3) rfl ev_10.symm (by decide) rfl (fun ls hl => ?_)
        refine lv_goto (tgt := 12) hx hb dX11_free_53 (by decide) ?_
        exact ih.2.1 t (uI li 4 v_10) lj H locs ls hR (lv_sub hl [1, 2, 3, 0] rfl) h
  exact (main k).1 t _ _ s.heap [] ls hR hl h
def wbX11_facet_0 (rec : Nat → XT → (Nat → Int32) → (Nat → Int64) → (Int32 → XT → Prop) → Prop) (k : Nat) (t : XT) (li : Nat → Int32) (lj : Nat → Int64) (Q : Int32 → XT → Prop) : Prop :=
  ((((-1) : Int32) ≤ (li 1)) → rec 1 t (uI li 4 0) (uI lj 2 0) Q) ∧ (¬ (((-1) : Int32) ≤ (li 1)) → Q (-1) t)
def wbX11_facet_1 (rec : Nat → XT → (Nat → Int32) → (Nat → Int64) → (Int32 → XT → Prop) → Prop) (k : Nat) (t : XT) (li : Nat → Int32) (lj : Nat → Int64) (Q : Int32 → XT → Prop) : Prop :=
  ((((t.1 4) : Int32) ≤ (li 4)) → (wqX11_listed k (lj 2) (li 1) (fun r_3 => Q r_3 t))) ∧ (¬ (((t.1 4) : Int32) ≤ (li 4)) → (wqX11_isThere k t (li 4) (fun r_4 t_4 => ((r_4 = 0) → rec 2 t_4 li lj Q) ∧ (¬ (r_4 = 0) → (vp_in (li 4) 64 ∧ (∀ v_6 : Int64, v_6 = (t_4.2.2.2 1) (li 4).toNatClampNeg → (∀ v_7 : Int64, v_7 = (v_6 &&& (t_4.2.1 0)) → (∀ v_8 : Int32, v_8 = (lg_cmp v_7 0) → ((¬ v_8 = 0) → rec 2 t_4 li lj Q) ∧ ((v_8 = 0) → (wqX11_bit k (li 4) (fun r_10 => (∀ v_11 : Int64, v_11 = ((lj 2) ||| r_10) → rec 2 t_4 li (uI lj 2 v_11) Q))))))))))))
def wbX11_facet_2 (rec : Nat → XT → (Nat → Int32) → (Nat → Int64) → (Int32 → XT → Prop) → Prop) (k : Nat) (t : XT) (li : Nat → Int32) (lj : Nat → Int64) (Q : Int32 → XT → Prop) : Prop :=
  (∀ v_12 : Int32, v_12 = (li 4) + Int32.ofInt 1 → rec 1 t (uI li 4 v_12) lj Q)
def wpX11_facet : Nat → Nat → XT → (Nat → Int32) → (Nat → Int64) → (Int32 → XT → Prop) → Prop
  | 0, _, _, _, _, _ => False
  | k + 1, 0, t, li, lj, Q => wbX11_facet_0 (wpX11_facet k) k t li lj Q
  | k + 1, 1, t, li, lj, Q => wbX11_facet_1 (wpX11_facet k) k t li lj Q
  | k + 1, 2, t, li, lj, Q => wbX11_facet_2 (wpX11_facet k) k t li lj Q
  | _ + 1, _, _, _, _, _ => False
def wqX11_facet (k : Nat) (t : XT) (a1 : Int32) (Q : Int32 → XT → Prop) : Prop := wpX11_facet k 0 t (uI (fun _ => 0) 1 a1) (fun _ => 0) Q
set_option maxHeartbeats 8000000 in
set_option maxRecDepth 100000 in
theorem wkX11_facet (l : Launch) (D : va_G) (cI cJ cB cZ : ClassId) (ad : Nat → Nat) (k : Nat) (t : XT) (a1 : Int32) (Q : Int32 → XT → Prop) (hR : wqX11_facet k t a1 Q) : MetI l yX11_facet wsX11_facet 4 90 0 0 D (TYS cI cJ cB cZ) (wX cI cJ cB cZ ad t) [.ref (ad 0), .int a1] (fun r u => Q r u) (fun u : XT => (wX cI cJ cB cZ ad u)) := by
  refine x_startI (ty := .int) (cc := cX11_facet) (by decide) rfl (Nat.le_of_ble_eq_true rfl) ?_
  intro p e s m args below meth c A ls B hr hnm h hl
  have hx := B.1.1
  have hb := B.1.2.1
  have hml := B.1.2.2.1
  have hts := B.1.2.2.2.2
  have hown : s.vm.findClass RX11 = some m.cls := B.1.2.2.2.1
  have hin6 : ∀ w ∈ u_ws RX6 TX6 6, w ∈ wsX11_facet := by decide +kernel
  have hin9 : ∀ w ∈ u_ws RX9 TX9 7, w ∈ wsX11_facet := by decide +kernel
  have hin11 : ∀ w ∈ u_ws RX11 TX11 11, w ∈ wsX11_facet := by decide +kernel
  have main : ∀ k : Nat, (∀ (t : XT) (li : Nat → Int32) (lj : Nat → Int64) (H : Heap) (locs : List Loc) (ls : Array Slot), wpX11_facet k 0 t li lj Q → lv_has ls 5 [(0, .ref (ad 0)), (1, .int (li 1))] → Hp D A s.heap (wX cI cJ cB cZ ad t) H locs → W p l e { frames := 4, cells := 0, slots := 0, locals := 90 } s m args below meth c H locs 0 0 (MQ below (va_Qi (fun r u => Q r u) (fun u t => xEnd D ((fun u : XT => (wX cI cJ cB cZ ad u)) u) A t) A) args s 0 0 A) (F0 m 0 ls [])) ∧
      (∀ (t : XT) (li : Nat → Int32) (lj : Nat → Int64) (H : Heap) (locs : List Loc) (ls : Array Slot), wpX11_facet k 1 t li lj Q → lv_has ls 5 [(0, .ref (ad 0)), (1, .int (li 1)), (2, .long (lj 2)), (4, .int (li 4))] → Hp D A s.heap (wX cI cJ cB cZ ad t) H locs → W p l e { frames := 4, cells := 0, slots := 0, locals := 90 } s m args below meth c H locs 0 0 (MQ below (va_Qi (fun r u => Q r u) (fun u t => xEnd D ((fun u : XT => (wX cI cJ cB cZ ad u)) u) A t) A) args s 0 0 A) (F0 m 12 ls [])) ∧
      (∀ (t : XT) (li : Nat → Int32) (lj : Nat → Int64) (H : Heap) (locs : List Loc) (ls : Array Slot), wpX11_facet k 2 t li lj Q → lv_has ls 5 [(0, .ref (ad 0)), (1, .int (li 1)), (2, .long (lj 2)), (4, .int (li 4))] → Hp D A s.heap (wX cI cJ cB cZ ad t) H locs → W p l e { frames := 4, cells := 0, slots := 0, locals := 90 } s m args below meth c H locs 0 0 (MQ below (va_Qi (fun r u => Q r u) (fun u t => xEnd D ((fun u : XT => (wX cI cJ cB cZ ad u)) u) A t) A) args s 0 0 A) (F0 m 64 ls [])) := by
    intro k
    induction k with
    | zero => exact ⟨fun _ _ _ _ _ _ hR => False.elim hR, fun _ _ _ _ _ _ hR => False.elim hR, fun _ _ _ _ _ _ hR => False.elim hR⟩
    | succ k ih =>
      refine ⟨?_, ?_, ?_⟩
      · intro t li lj H locs ls hR hl h
        have hR : wbX11_facet_0 (wpX11_facet k) k t li lj Q := hR
        unfold wbX11_facet_0 at hR
        refine lv_iload_n hx hb dX11_facet_0 rfl (lv_at hl 1 rfl) ?_
        refine lv_iconst (v := (-1)) hx hb dX11_facet_1 (by decide) ?_
        refine lv_icmp_ge (tgt := 7) hx hb dX11_facet_2 (by decide) (fun c_1 => ?_) (fun c_1 => ?_)
        · have hR := hR.1 c_1
          refine lv_lconst (v := 0) hx hb dX11_facet_7 (by decide) ?_
          refine lv_lstore_n (lv' := [(2, .long 0), (0, .ref (ad 0)), (1, .int (li 1))]) hx hb dX11_facet_8 rfl hl (by decide) rfl (fun ls hl => ?_)
          refine lv_iconst (v := 0) hx hb dX11_facet_9 (by decide) ?_
          refine lv_istore (lv' := [(4, .int 0), (2, .long 0), (0, .ref (ad 0)), (1, .int (li 1))]) hx hb dX11_facet_10 hl (by decide) rfl (fun ls hl => ?_)
          exact ih.2.1 t (uI li 4 0) (uI lj 2 0) H locs ls hR (lv_sub hl [2, 3, 1, 0] rfl) h
        · have hR := hR.2 c_1
          refine lv_iconst (v := (-1)) hx hb dX11_facet_5 (by decide) ?_
          exact x_iret (w1 := (fun u : XT => (wX cI cJ cB cZ ad u))) t B h hr rfl hR dX11_facet_6
      · intro t li lj H locs ls hR hl h
        have hR : wbX11_facet_1 (wpX11_facet k) k t li lj Q := hR
        unfold wbX11_facet_1 at hR
        refine lv_iload hx hb dX11_facet_12 (lv_at hl 3 rfl) ?_
        refine lv_aload_n hx hb dX11_facet_14 rfl (lv_at hl 0 rfl) ?_
        refine x_get (ci := 11) (C := RX11) (T := TX11) (N := 11) (v := .ref (ad 3)) B h hin11 0 2 rfl rfl (by decide) (by decide +kernel) rfl dX11_facet_15 ?_
        refine x_get (ci := 9) (C := RX9) (T := TX9) (N := 7) (v := .int (t.1 4)) B h hin9 3 0 rfl rfl (by decide) (by decide +kernel) rfl dX11_facet_18 ?_
        refine lv_icmp_ge (tgt := 70) hx hb dX11_facet_21 (by decide) (fun c_2 => ?_) (fun c_2 => ?_)
        · have hR := hR.1 c_2
          refine lv_lload_n hx hb dX11_facet_70 rfl (lv_at hl 2 rfl) ?_
          refine lv_iload_n hx hb dX11_facet_71 rfl (lv_at hl 1 rfl) ?_
          refine x_cSIE (n := 2) (As := [.long (lj 2), .int (li 1)]) (rest := []) B h (wkX11_listed l D cI cJ cB cZ ad k (lj 2) (li 1) _ hR) ⟨⟨_, rfl⟩, by decide +kernel, Nat.le_of_ble_eq_true rfl, Nat.le_of_ble_eq_true rfl⟩ gX11_facet_X11_listed rfl hl.1 rfl (Nat.le_of_ble_eq_true rfl) dX11_facet_72 ⟨Nat.le_of_ble_eq_true rfl, Nat.le_of_ble_eq_true rfl⟩ (fun r_3 _ H locs hR h => ?_)
          exact x_iret (w1 := (fun u : XT => (wX cI cJ cB cZ ad u))) t B h hr rfl hR dX11_facet_75
        · have hR := hR.2 c_2
          refine lv_aload_n hx hb dX11_facet_24 rfl (lv_at hl 0 rfl) ?_
          refine lv_iload hx hb dX11_facet_25 (lv_at hl 3 rfl) ?_
          refine x_cVIF (n := 1) (As := [.int (li 4)]) (rest := []) B h (wkX11_isThere l D cI cJ cB cZ ad k t (li 4) _ hR) ⟨⟨_, rfl⟩, by decide +kernel, Nat.le_of_ble_eq_true rfl, Nat.le_of_ble_eq_true rfl⟩ gX11_facet_X11_isThere (show ((wX cI cJ cB cZ ad t) : va_W)[0]? = some (_, .inr (11, _)) from rfl) rfl rfl hl.1 rfl (Nat.le_of_ble_eq_true rfl) dX11_facet_27 ⟨Nat.le_of_ble_eq_true rfl, Nat.le_of_ble_eq_true rfl⟩ (fun r_4 t_4 H locs hR h => ?_)
          refine lv_if_eq (tgt := 64) hx hb dX11_facet_30 (by decide) (fun c_5 => ?_) (fun c_5 => ?_)
          · have hR := hR.1 c_5
            exact ih.2.2 t_4 li lj H locs ls hR (lv_sub hl [0, 1, 2, 3] rfl) h
          · have hR := hR.2 c_5
            refine lv_aload_n hx hb dX11_facet_33 rfl (lv_at hl 0 rfl) ?_
            refine x_get (ci := 11) (C := RX11) (T := TX11) (N := 11) (v := .ref (ad 3)) B h hin11 0 2 rfl rfl (by decide) (by decide +kernel) rfl dX11_facet_34 ?_
            refine x_get (ci := 9) (C := RX9) (T := TX9) (N := 7) (v := .ref (ad 18)) B h hin9 3 5 rfl rfl (by decide) (by decide +kernel) rfl dX11_facet_37 ?_
            refine lv_iload hx hb dX11_facet_40 (lv_at hl 3 rfl) ?_
            obtain ⟨hb_6, hR⟩ := hR
            refine va_lald (f := (t_4.2.2.2 1)) hx hb B.2.1 h.1 18 1 rfl rfl hb_6 dX11_facet_42 ?_
            refine lv_topl (fun v_6 ev_6 => ?_)
            have hR := hR v_6 ev_6
            refine lv_aload_n hx hb dX11_facet_43 rfl (lv_at hl 0 rfl) ?_
            refine x_get (ci := 11) (C := RX11) (T := TX11) (N := 11) (v := .ref (ad 4)) B h hin11 0 3 rfl rfl (by decide) (by decide +kernel) rfl dX11_facet_44 ?_
            refine x_get (ci := 6) (C := RX6) (T := TX6) (N := 6) (v := .long (t_4.2.1 0)) B h hin6 4 2 rfl rfl (by decide) (by decide +kernel) rfl dX11_facet_47 ?_
            refine lv_land hx hb dX11_facet_50 ?_
            refine lv_topl (fun v_7 ev_7 => ?_)
            have hR := hR v_7 ev_7
            refine lv_lconst (v := 0) hx hb dX11_facet_51 (by decide) ?_
            refine W.lcmp hx hb dX11_facet_52 ?_
            refine lv_topi (fun v_8 ev_8 => ?_)
            have hR := hR v_8 ev_8
            refine lv_if_ne (tgt := 64) hx hb dX11_facet_53 (by decide) (fun c_9 => ?_) (fun c_9 => ?_)
            · have hR := hR.1 c_9
              exact ih.2.2 t_4 li lj H locs ls hR (lv_sub hl [0, 1, 2, 3] rfl) h
            · have hR := hR.2 c_9
              refine lv_lload_n hx hb dX11_facet_56 rfl (lv_at hl 2 rfl) ?_
              refine lv_iload hx hb dX11_facet_57 (lv_at hl 3 rfl) ?_
              refine x_cSLE (n := 1) (As := [.int (li 4)]) (rest := [.long (lj 2)]) B h (wkX11_bit l D cI cJ cB cZ ad k (li 4) _ hR) ⟨⟨_, rfl⟩, by decide +kernel, Nat.le_of_ble_eq_true rfl, Nat.le_of_ble_eq_true rfl⟩ gX11_facet_X11_bit rfl hl.1 rfl (Nat.le_of_ble_eq_true rfl) dX11_facet_59 ⟨Nat.le_of_ble_eq_true rfl, Nat.le_of_ble_eq_true rfl⟩ (fun r_10 _ H locs hR h => ?_)
              refine lv_lor hx hb dX11_facet_62 ?_
              refine lv_topl (fun v_11 ev_11 => ?_)
              have hR := hR v_11 ev_11
              refine lv_lstore_n (lv' := [(2, .long v_11), (0, .ref (ad 0)), (1, .int (li 1)), (4, .int (li 4))]) hx hb dX11_facet_63 rfl hl (by decide) rfl (fun ls hl => ?_)
              exact ih.2.2 t_4 li (uI lj 2 v_11) H locs ls hR (lv_sub hl [1, 2, 0, 3] rfl) h
      · intro t li lj H locs ls hR hl h
        have hR : wbX11_facet_2 (wpX11_facet k) k t li lj Q := hR
        unfold wbX11_facet_2 at hR
        obtain ⟨v_12, ev_12⟩ : ∃ v : Int32, v = (li 4) + Int32.ofInt 1 := ⟨_, rfl⟩
        have hR := hR v_12 ev_12
        refine lv_iinc (v := v_12) (lv' := [(4, .int v_12), (0, .ref (ad 0)), (1, .int (li 1)), (2, .long (lj 2))]) hx hb dX11_facet_64 hl (k := 3) rfl ev_12.symm (by decide) rfl (fun ls hl => ?_)
        refine lv_goto (tgt := 12) hx hb dX11_facet_67 (by decide) ?_
        exact ih.2.1 t (uI li 4 v_12) lj H locs ls hR (lv_sub hl [1, 2, 3, 0] rfl) h
  exact (main k).1 t _ _ s.heap [] ls hR hl h
def wbX11_linkOf_0 (rec : Nat → XT → (Nat → Int32) → (Nat → Int64) → (Int64 → XT → Prop) → Prop) (k : Nat) (t : XT) (li : Nat → Int32) (lj : Nat → Int64) (Q : Int64 → XT → Prop) : Prop :=
  rec 1 t (uI li 4 0) (uI lj 2 0) Q
def wbX11_linkOf_1 (rec : Nat → XT → (Nat → Int32) → (Nat → Int64) → (Int64 → XT → Prop) → Prop) (k : Nat) (t : XT) (li : Nat → Int32) (lj : Nat → Int64) (Q : Int64 → XT → Prop) : Prop :=
  ((((t.1 4) : Int32) ≤ (li 4)) → Q (lj 2) t) ∧ (¬ (((t.1 4) : Int32) ≤ (li 4)) → (vp_in (li 1) 64 ∧ (∀ v_2 : Int32, v_2 = (t.2.2.1 2) (li 1).toNatClampNeg → (vp_in (li 4) 64 ∧ (∀ v_3 : Int32, v_3 = (t.2.2.1 2) (li 4).toNatClampNeg → (∀ v_4 : Int32, v_4 = (v_2 ||| v_3) → (vp_in (li 1) 64 ∧ (∀ v_5 : Int32, v_5 = (t.2.2.1 2) (li 1).toNatClampNeg → (vp_in (li 4) 64 ∧ (∀ v_6 : Int32, v_6 = (t.2.2.1 2) (li 4).toNatClampNeg → (∀ v_7 : Int32, v_7 = (v_5 &&& v_6) → ((¬ v_7 = 0) → rec 2 t (uI (uI li 5 v_4) 100 0) lj Q) ∧ ((v_7 = 0) → rec 2 t (uI (uI li 5 v_4) 100 1) lj Q))))))))))))
def wbX11_linkOf_2 (rec : Nat → XT → (Nat → Int32) → (Nat → Int64) → (Int64 → XT → Prop) → Prop) (k : Nat) (t : XT) (li : Nat → Int32) (lj : Nat → Int64) (Q : Int64 → XT → Prop) : Prop :=
  (wqX11_number k t (li 5) (fun r_9 t_9 => (((li 100) = 0) → rec 3 t_9 (uI (uI li 6 (li 100)) 7 r_9) lj Q) ∧ (¬ ((li 100) = 0) → (wqX11_isThere k t_9 (li 4) (fun r_11 t_11 => ((r_11 = 0) → rec 3 t_11 (uI (uI li 6 (li 100)) 7 r_9) lj Q) ∧ (¬ (r_11 = 0) → (wqX11_isThere k t_11 r_9 (fun r_13 t_13 => ((r_13 = 0) → rec 3 t_13 (uI (uI li 6 (li 100)) 7 r_9) lj Q) ∧ (¬ (r_13 = 0) → (wqX11_bit k (li 4) (fun r_15 => (∀ v_16 : Int64, v_16 = ((lj 2) ||| r_15) → rec 3 t_13 (uI (uI li 6 (li 100)) 7 r_9) (uI lj 2 v_16) Q))))))))))))
def wbX11_linkOf_3 (rec : Nat → XT → (Nat → Int32) → (Nat → Int64) → (Int64 → XT → Prop) → Prop) (k : Nat) (t : XT) (li : Nat → Int32) (lj : Nat → Int64) (Q : Int64 → XT → Prop) : Prop :=
  (∀ v_17 : Int32, v_17 = (li 4) + Int32.ofInt 1 → rec 1 t (uI li 4 v_17) lj Q)
def wpX11_linkOf : Nat → Nat → XT → (Nat → Int32) → (Nat → Int64) → (Int64 → XT → Prop) → Prop
  | 0, _, _, _, _, _ => False
  | k + 1, 0, t, li, lj, Q => wbX11_linkOf_0 (wpX11_linkOf k) k t li lj Q
  | k + 1, 1, t, li, lj, Q => wbX11_linkOf_1 (wpX11_linkOf k) k t li lj Q
  | k + 1, 2, t, li, lj, Q => wbX11_linkOf_2 (wpX11_linkOf k) k t li lj Q
  | k + 1, 3, t, li, lj, Q => wbX11_linkOf_3 (wpX11_linkOf k) k t li lj Q
  | _ + 1, _, _, _, _, _ => False
def wqX11_linkOf (k : Nat) (t : XT) (a1 : Int32) (Q : Int64 → XT → Prop) : Prop := wpX11_linkOf k 0 t (uI (fun _ => 0) 1 a1) (fun _ => 0) Q
set_option maxHeartbeats 8000000 in
set_option maxRecDepth 100000 in
theorem wkX11_linkOf (l : Launch) (D : va_G) (cI cJ cB cZ : ClassId) (ad : Nat → Nat) (k : Nat) (t : XT) (a1 : Int32) (Q : Int64 → XT → Prop) (hR : wqX11_linkOf k t a1 Q) : MetL l yX11_linkOf wsX11_linkOf 2 43 0 0 D (TYS cI cJ cB cZ) (wX cI cJ cB cZ ad t) [.ref (ad 0), .int a1] (fun r u => Q r u) (fun u : XT => (wX cI cJ cB cZ ad u)) := by
  refine x_startL (ty := .long) (cc := cX11_linkOf) (by decide) rfl (Nat.le_of_ble_eq_true rfl) ?_
  intro p e s m args below meth c A ls B hr hnm h hl
  have hx := B.1.1
  have hb := B.1.2.1
  have hml := B.1.2.2.1
  have hts := B.1.2.2.2.2
  have hown : s.vm.findClass RX11 = some m.cls := B.1.2.2.2.1
  have hin9 : ∀ w ∈ u_ws RX9 TX9 7, w ∈ wsX11_linkOf := by decide +kernel
  have hin11 : ∀ w ∈ u_ws RX11 TX11 11, w ∈ wsX11_linkOf := by decide +kernel
  have main : ∀ k : Nat, (∀ (t : XT) (li : Nat → Int32) (lj : Nat → Int64) (H : Heap) (locs : List Loc) (ls : Array Slot), wpX11_linkOf k 0 t li lj Q → lv_has ls 8 [(0, .ref (ad 0)), (1, .int (li 1))] → Hp D A s.heap (wX cI cJ cB cZ ad t) H locs → W p l e { frames := 2, cells := 0, slots := 0, locals := 43 } s m args below meth c H locs 0 0 (MQ below (va_Ql (fun r u => Q r u) (fun u t => xEnd D ((fun u : XT => (wX cI cJ cB cZ ad u)) u) A t) A) args s 0 0 A) (F0 m 0 ls [])) ∧
      (∀ (t : XT) (li : Nat → Int32) (lj : Nat → Int64) (H : Heap) (locs : List Loc) (ls : Array Slot), wpX11_linkOf k 1 t li lj Q → lv_has ls 8 [(0, .ref (ad 0)), (1, .int (li 1)), (2, .long (lj 2)), (4, .int (li 4))] → Hp D A s.heap (wX cI cJ cB cZ ad t) H locs → W p l e { frames := 2, cells := 0, slots := 0, locals := 43 } s m args below meth c H locs 0 0 (MQ below (va_Ql (fun r u => Q r u) (fun u t => xEnd D ((fun u : XT => (wX cI cJ cB cZ ad u)) u) A t) A) args s 0 0 A) (F0 m 5 ls [])) ∧
      (∀ (t : XT) (li : Nat → Int32) (lj : Nat → Int64) (H : Heap) (locs : List Loc) (ls : Array Slot), wpX11_linkOf k 2 t li lj Q → lv_has ls 8 [(0, .ref (ad 0)), (1, .int (li 1)), (2, .long (lj 2)), (4, .int (li 4)), (5, .int (li 5))] → Hp D A s.heap (wX cI cJ cB cZ ad t) H locs → W p l e { frames := 2, cells := 0, slots := 0, locals := 43 } s m args below meth c H locs 0 0 (MQ below (va_Ql (fun r u => Q r u) (fun u t => xEnd D ((fun u : XT => (wX cI cJ cB cZ ad u)) u) A t) A) args s 0 0 A) (F0 m 67 ls [.int (li 100)])) ∧
      (∀ (t : XT) (li : Nat → Int32) (lj : Nat → Int64) (H : Heap) (locs : List Loc) (ls : Array Slot), wpX11_linkOf k 3 t li lj Q → lv_has ls 8 [(0, .ref (ad 0)), (1, .int (li 1)), (2, .long (lj 2)), (4, .int (li 4)), (5, .int (li 5)), (6, .int (li 6)), (7, .int (li 7))] → Hp D A s.heap (wX cI cJ cB cZ ad t) H locs → W p l e { frames := 2, cells := 0, slots := 0, locals := 43 } s m args below meth c H locs 0 0 (MQ below (va_Ql (fun r u => Q r u) (fun u t => xEnd D ((fun u : XT => (wX cI cJ cB cZ ad u)) u) A t) A) args s 0 0 A) (F0 m 108 ls [])) := by
    intro k
    induction k with
    | zero => exact ⟨fun _ _ _ _ _ _ hR => False.elim hR, fun _ _ _ _ _ _ hR => False.elim hR, fun _ _ _ _ _ _ hR => False.elim hR, fun _ _ _ _ _ _ hR => False.elim hR⟩
    | succ k ih =>
      refine ⟨?_, ?_, ?_, ?_⟩
      · intro t li lj H locs ls hR hl h
        have hR : wbX11_linkOf_0 (wpX11_linkOf k) k t li lj Q := hR
        unfold wbX11_linkOf_0 at hR
        refine lv_lconst (v := 0) hx hb dX11_linkOf_0 (by decide) ?_
        refine lv_lstore_n (lv' := [(2, .long 0), (0, .ref (ad 0)), (1, .int (li 1))]) hx hb dX11_linkOf_1 rfl hl (by decide) rfl (fun ls hl => ?_)
        refine lv_iconst (v := 0) hx hb dX11_linkOf_2 (by decide) ?_
        refine lv_istore (lv' := [(4, .int 0), (2, .long 0), (0, .ref (ad 0)), (1, .int (li 1))]) hx hb dX11_linkOf_3 hl (by decide) rfl (fun ls hl => ?_)
        exact ih.2.1 t (uI li 4 0) (uI lj 2 0) H locs ls hR (lv_sub hl [2, 3, 1, 0] rfl) h
      · intro t li lj H locs ls hR hl h
        have hR : wbX11_linkOf_1 (wpX11_linkOf k) k t li lj Q := hR
        unfold wbX11_linkOf_1 at hR
        refine lv_iload hx hb dX11_linkOf_5 (lv_at hl 3 rfl) ?_
        refine lv_aload_n hx hb dX11_linkOf_7 rfl (lv_at hl 0 rfl) ?_
        refine x_get (ci := 11) (C := RX11) (T := TX11) (N := 11) (v := .ref (ad 3)) B h hin11 0 2 rfl rfl (by decide) (by decide +kernel) rfl dX11_linkOf_8 ?_
        refine x_get (ci := 9) (C := RX9) (T := TX9) (N := 7) (v := .int (t.1 4)) B h hin9 3 0 rfl rfl (by decide) (by decide +kernel) rfl dX11_linkOf_11 ?_
        refine lv_icmp_ge (tgt := 114) hx hb dX11_linkOf_14 (by decide) (fun c_1 => ?_) (fun c_1 => ?_)
        · have hR := hR.1 c_1
          refine lv_lload_n hx hb dX11_linkOf_114 rfl (lv_at hl 2 rfl) ?_
          exact x_lret (w1 := (fun u : XT => (wX cI cJ cB cZ ad u))) t B h hr hR dX11_linkOf_115
        · have hR := hR.2 c_1
          refine lv_aload_n hx hb dX11_linkOf_17 rfl (lv_at hl 0 rfl) ?_
          refine x_get (ci := 11) (C := RX11) (T := TX11) (N := 11) (v := .ref (ad 3)) B h hin11 0 2 rfl rfl (by decide) (by decide +kernel) rfl dX11_linkOf_18 ?_
          refine x_get (ci := 9) (C := RX9) (T := TX9) (N := 7) (v := .ref (ad 14)) B h hin9 3 1 rfl rfl (by decide) (by decide +kernel) rfl dX11_linkOf_21 ?_
          refine lv_iload_n hx hb dX11_linkOf_24 rfl (lv_at hl 1 rfl) ?_
          obtain ⟨hb_2, hR⟩ := hR
          refine va_iald (f := (t.2.2.1 2)) hx hb B.2.1 h.1 14 0 rfl rfl hb_2 dX11_linkOf_25 ?_
          refine lv_topi (fun v_2 ev_2 => ?_)
          have hR := hR v_2 ev_2
          refine lv_aload_n hx hb dX11_linkOf_26 rfl (lv_at hl 0 rfl) ?_
          refine x_get (ci := 11) (C := RX11) (T := TX11) (N := 11) (v := .ref (ad 3)) B h hin11 0 2 rfl rfl (by decide) (by decide +kernel) rfl dX11_linkOf_27 ?_
          refine x_get (ci := 9) (C := RX9) (T := TX9) (N := 7) (v := .ref (ad 14)) B h hin9 3 1 rfl rfl (by decide) (by decide +kernel) rfl dX11_linkOf_30 ?_
          refine lv_iload hx hb dX11_linkOf_33 (lv_at hl 3 rfl) ?_
          obtain ⟨hb_3, hR⟩ := hR
          refine va_iald (f := (t.2.2.1 2)) hx hb B.2.1 h.1 14 0 rfl rfl hb_3 dX11_linkOf_35 ?_
          refine lv_topi (fun v_3 ev_3 => ?_)
          have hR := hR v_3 ev_3
          refine lv_ior hx hb dX11_linkOf_36 ?_
          refine lv_topi (fun v_4 ev_4 => ?_)
          have hR := hR v_4 ev_4
          refine lv_istore (lv' := [(5, .int v_4), (0, .ref (ad 0)), (1, .int (li 1)), (2, .long (lj 2)), (4, .int (li 4))]) hx hb dX11_linkOf_37 hl (by decide) rfl (fun ls hl => ?_)
          refine lv_aload_n hx hb dX11_linkOf_39 rfl (lv_at hl 1 rfl) ?_
          refine x_get (ci := 11) (C := RX11) (T := TX11) (N := 11) (v := .ref (ad 3)) B h hin11 0 2 rfl rfl (by decide) (by decide +kernel) rfl dX11_linkOf_40 ?_
          refine x_get (ci := 9) (C := RX9) (T := TX9) (N := 7) (v := .ref (ad 14)) B h hin9 3 1 rfl rfl (by decide) (by decide +kernel) rfl dX11_linkOf_43 ?_
          refine lv_iload_n hx hb dX11_linkOf_46 rfl (lv_at hl 2 rfl) ?_
          obtain ⟨hb_5, hR⟩ := hR
          refine va_iald (f := (t.2.2.1 2)) hx hb B.2.1 h.1 14 0 rfl rfl hb_5 dX11_linkOf_47 ?_
          refine lv_topi (fun v_5 ev_5 => ?_)
          have hR := hR v_5 ev_5
          refine lv_aload_n hx hb dX11_linkOf_48 rfl (lv_at hl 1 rfl) ?_
          refine x_get (ci := 11) (C := RX11) (T := TX11) (N := 11) (v := .ref (ad 3)) B h hin11 0 2 rfl rfl (by decide) (by decide +kernel) rfl dX11_linkOf_49 ?_
          refine x_get (ci := 9) (C := RX9) (T := TX9) (N := 7) (v := .ref (ad 14)) B h hin9 3 1 rfl rfl (by decide) (by decide +kernel) rfl dX11_linkOf_52 ?_
          refine lv_iload hx hb dX11_linkOf_55 (lv_at hl 4 rfl) ?_
          obtain ⟨hb_6, hR⟩ := hR
          refine va_iald (f := (t.2.2.1 2)) hx hb B.2.1 h.1 14 0 rfl rfl hb_6 dX11_linkOf_57 ?_
          refine lv_topi (fun v_6 ev_6 => ?_)
          have hR := hR v_6 ev_6
          refine lv_iand hx hb dX11_linkOf_58 ?_
          refine lv_topi (fun v_7 ev_7 => ?_)
          have hR := hR v_7 ev_7
          refine lv_if_ne (tgt := 66) hx hb dX11_linkOf_59 (by decide) (fun c_8 => ?_) (fun c_8 => ?_)
          · have hR := hR.1 c_8
            refine lv_iconst (v := 0) hx hb dX11_linkOf_66 (by decide) ?_
            exact ih.2.2.1 t (uI (uI li 5 v_4) 100 0) lj H locs ls hR (lv_sub hl [1, 2, 3, 4, 0] rfl) h
          · have hR := hR.2 c_8
            refine lv_iconst (v := 1) hx hb dX11_linkOf_62 (by decide) ?_
            refine lv_goto (tgt := 67) hx hb dX11_linkOf_63 (by decide) ?_
            exact ih.2.2.1 t (uI (uI li 5 v_4) 100 1) lj H locs ls hR (lv_sub hl [1, 2, 3, 4, 0] rfl) h
      · intro t li lj H locs ls hR hl h
        have hR : wbX11_linkOf_2 (wpX11_linkOf k) k t li lj Q := hR
        unfold wbX11_linkOf_2 at hR
        refine lv_istore (lv' := [(6, .int (li 100)), (0, .ref (ad 0)), (1, .int (li 1)), (2, .long (lj 2)), (4, .int (li 4)), (5, .int (li 5))]) hx hb dX11_linkOf_67 hl (by decide) rfl (fun ls hl => ?_)
        refine lv_aload_n hx hb dX11_linkOf_69 rfl (lv_at hl 1 rfl) ?_
        refine lv_iload hx hb dX11_linkOf_70 (lv_at hl 5 rfl) ?_
        refine x_cVIF (n := 1) (As := [.int (li 5)]) (rest := []) B h (wkX11_number l D cI cJ cB cZ ad k t (li 5) _ hR) ⟨⟨_, rfl⟩, by decide +kernel, Nat.le_of_ble_eq_true rfl, Nat.le_of_ble_eq_true rfl⟩ gX11_linkOf_X11_number (show ((wX cI cJ cB cZ ad t) : va_W)[0]? = some (_, .inr (11, _)) from rfl) rfl rfl hl.1 rfl (Nat.le_of_ble_eq_true rfl) dX11_linkOf_72 ⟨Nat.le_of_ble_eq_true rfl, Nat.le_of_ble_eq_true rfl⟩ (fun r_9 t_9 H locs hR h => ?_)
        refine lv_istore (lv' := [(7, .int r_9), (6, .int (li 100)), (0, .ref (ad 0)), (1, .int (li 1)), (2, .long (lj 2)), (4, .int (li 4)), (5, .int (li 5))]) hx hb dX11_linkOf_75 hl (by decide) rfl (fun ls hl => ?_)
        refine lv_iload hx hb dX11_linkOf_77 (lv_at hl 1 rfl) ?_
        refine lv_if_eq (tgt := 108) hx hb dX11_linkOf_79 (by decide) (fun c_10 => ?_) (fun c_10 => ?_)
        · have hR := hR.1 c_10
          exact ih.2.2.2 t_9 (uI (uI li 6 (li 100)) 7 r_9) lj H locs ls hR (lv_sub hl [2, 3, 4, 5, 6, 1, 0] rfl) h
        · have hR := hR.2 c_10
          refine lv_aload_n hx hb dX11_linkOf_82 rfl (lv_at hl 2 rfl) ?_
          refine lv_iload hx hb dX11_linkOf_83 (lv_at hl 5 rfl) ?_
          refine x_cVIF (n := 1) (As := [.int (li 4)]) (rest := []) B h (wkX11_isThere l D cI cJ cB cZ ad k t_9 (li 4) _ hR) ⟨⟨_, rfl⟩, by decide +kernel, Nat.le_of_ble_eq_true rfl, Nat.le_of_ble_eq_true rfl⟩ gX11_linkOf_X11_isThere (show ((wX cI cJ cB cZ ad t_9) : va_W)[0]? = some (_, .inr (11, _)) from rfl) rfl rfl hl.1 rfl (Nat.le_of_ble_eq_true rfl) dX11_linkOf_85 ⟨Nat.le_of_ble_eq_true rfl, Nat.le_of_ble_eq_true rfl⟩ (fun r_11 t_11 H locs hR h => ?_)
          refine lv_if_eq (tgt := 108) hx hb dX11_linkOf_88 (by decide) (fun c_12 => ?_) (fun c_12 => ?_)
          · have hR := hR.1 c_12
            exact ih.2.2.2 t_11 (uI (uI li 6 (li 100)) 7 r_9) lj H locs ls hR (lv_sub hl [2, 3, 4, 5, 6, 1, 0] rfl) h
          · have hR := hR.2 c_12
            refine lv_aload_n hx hb dX11_linkOf_91 rfl (lv_at hl 2 rfl) ?_
            refine lv_iload hx hb dX11_linkOf_92 (lv_at hl 0 rfl) ?_
            refine x_cVIF (n := 1) (As := [.int r_9]) (rest := []) B h (wkX11_isThere l D cI cJ cB cZ ad k t_11 r_9 _ hR) ⟨⟨_, rfl⟩, by decide +kernel, Nat.le_of_ble_eq_true rfl, Nat.le_of_ble_eq_true rfl⟩ gX11_linkOf_X11_isThere (show ((wX cI cJ cB cZ ad t_11) : va_W)[0]? = some (_, .inr (11, _)) from rfl) rfl rfl hl.1 rfl (Nat.le_of_ble_eq_true rfl) dX11_linkOf_94 ⟨Nat.le_of_ble_eq_true rfl, Nat.le_of_ble_eq_true rfl⟩ (fun r_13 t_13 H locs hR h => ?_)
            refine lv_if_eq (tgt := 108) hx hb dX11_linkOf_97 (by decide) (fun c_14 => ?_) (fun c_14 => ?_)
            · have hR := hR.1 c_14
              exact ih.2.2.2 t_13 (uI (uI li 6 (li 100)) 7 r_9) lj H locs ls hR (lv_sub hl [2, 3, 4, 5, 6, 1, 0] rfl) h
            · have hR := hR.2 c_14
              refine lv_lload_n hx hb dX11_linkOf_100 rfl (lv_at hl 4 rfl) ?_
              refine lv_iload hx hb dX11_linkOf_101 (lv_at hl 5 rfl) ?_
              refine x_cSLE (n := 1) (As := [.int (li 4)]) (rest := [.long (lj 2)]) B h (wkX11_bit l D cI cJ cB cZ ad k (li 4) _ hR) ⟨⟨_, rfl⟩, by decide +kernel, Nat.le_of_ble_eq_true rfl, Nat.le_of_ble_eq_true rfl⟩ gX11_linkOf_X11_bit rfl hl.1 rfl (Nat.le_of_ble_eq_true rfl) dX11_linkOf_103 ⟨Nat.le_of_ble_eq_true rfl, Nat.le_of_ble_eq_true rfl⟩ (fun r_15 _ H locs hR h => ?_)
              refine lv_lor hx hb dX11_linkOf_106 ?_
              refine lv_topl (fun v_16 ev_16 => ?_)
              have hR := hR v_16 ev_16
              refine lv_lstore_n (lv' := [(2, .long v_16), (7, .int r_9), (6, .int (li 100)), (0, .ref (ad 0)), (1, .int (li 1)), (4, .int (li 4)), (5, .int (li 5))]) hx hb dX11_linkOf_107 rfl hl (by decide) rfl (fun ls hl => ?_)
              exact ih.2.2.2 t_13 (uI (uI li 6 (li 100)) 7 r_9) (uI lj 2 v_16) H locs ls hR (lv_sub hl [3, 4, 0, 5, 6, 2, 1] rfl) h
      · intro t li lj H locs ls hR hl h
        have hR : wbX11_linkOf_3 (wpX11_linkOf k) k t li lj Q := hR
        unfold wbX11_linkOf_3 at hR
        obtain ⟨v_17, ev_17⟩ : ∃ v : Int32, v = (li 4) + Int32.ofInt 1 := ⟨_, rfl⟩
        have hR := hR v_17 ev_17
        refine lv_iinc (v := v_17) (lv' := [(4, .int v_17), (0, .ref (ad 0)), (1, .int (li 1)), (2, .long (lj 2)), (5, .int (li 5)), (6, .int (li 6)), (7, .int (li 7))]) hx hb dX11_linkOf_108 hl (k := 3) rfl ev_17.symm (by decide) rfl (fun ls hl => ?_)
        refine lv_goto (tgt := 5) hx hb dX11_linkOf_111 (by decide) ?_
        exact ih.2.1 t (uI li 4 v_17) lj H locs ls hR (lv_sub hl [1, 2, 3, 0] rfl) h
  exact (main k).1 t _ _ s.heap [] ls hR hl h
