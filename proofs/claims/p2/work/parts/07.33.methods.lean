def wbX11_incidence_0 (rec : Nat → XT → (Nat → Int32) → (Nat → Int64) → (Int64 → XT → Prop) → Prop) (k : Nat) (t : XT) (li : Nat → Int32) (lj : Nat → Int64) (Q : Int64 → XT → Prop) : Prop :=
  (wqX11_areEnds k t (li 1) (li 2) (fun r_1 t_1 => ((¬ r_1 = 0) → (wqX1_start k t_1 (li 1) (fun t_3 => (vp_in (li 1) 64 ∧ (∀ v_4 : Int32, v_4 = (t_3.2.2.1 3) (li 1).toNatClampNeg → (wqX1_pour k t_3 v_4 1 (fun t_5 => (vp_in (li 2) 64 ∧ (∀ v_6 : Int64, v_6 = (t_5.2.2.2 3) (li 2).toNatClampNeg → Q v_6 t_5))))))))) ∧ ((r_1 = 0) → Q (-9223372036854775808) t_1)))
def wpX11_incidence : Nat → Nat → XT → (Nat → Int32) → (Nat → Int64) → (Int64 → XT → Prop) → Prop
  | 0, _, _, _, _, _ => False
  | k + 1, 0, t, li, lj, Q => wbX11_incidence_0 (wpX11_incidence k) k t li lj Q
  | _ + 1, _, _, _, _, _ => False
def wqX11_incidence (k : Nat) (t : XT) (a1 : Int32) (a2 : Int32) (Q : Int64 → XT → Prop) : Prop := wpX11_incidence k 0 t (uI (uI (fun _ => 0) 1 a1) 2 a2) (fun _ => 0) Q
set_option maxHeartbeats 8000000 in
set_option maxRecDepth 100000 in
theorem wkX11_incidence (l : Launch) (D : va_G) (cI cJ cB cZ : ClassId) (ad : Nat → Nat) (k : Nat) (t : XT) (a1 : Int32) (a2 : Int32) (Q : Int64 → XT → Prop) (hR : wqX11_incidence k t a1 a2 Q) : MetL l yX11_incidence wsX11_incidence 4 96 0 0 D (TYS cI cJ cB cZ) (wX cI cJ cB cZ ad t) [.ref (ad 0), .int a1, .int a2] (fun r u => Q r u) (fun u : XT => (wX cI cJ cB cZ ad u)) := by
  refine x_startL (ty := .long) (cc := cX11_incidence) (by decide) rfl (Nat.le_of_ble_eq_true rfl) ?_
  intro p e s m args below meth c A ls B hr hnm h hl
  have hx := B.1.1
  have hb := B.1.2.1
  have hml := B.1.2.2.1
  have hts := B.1.2.2.2.2
  have hown : s.vm.findClass RX11 = some m.cls := B.1.2.2.2.1
  have hin1 : ∀ w ∈ u_ws RX1 TX1 7, w ∈ wsX11_incidence := by decide +kernel
  have hin9 : ∀ w ∈ u_ws RX9 TX9 7, w ∈ wsX11_incidence := by decide +kernel
  have hin11 : ∀ w ∈ u_ws RX11 TX11 11, w ∈ wsX11_incidence := by decide +kernel
  have main : ∀ k : Nat, (∀ (t : XT) (li : Nat → Int32) (lj : Nat → Int64) (H : Heap) (locs : List Loc) (ls : Array Slot), wpX11_incidence k 0 t li lj Q → lv_has ls 3 [(0, .ref (ad 0)), (1, .int (li 1)), (2, .int (li 2))] → Hp D A s.heap (wX cI cJ cB cZ ad t) H locs → W p l e { frames := 4, cells := 0, slots := 0, locals := 96 } s m args below meth c H locs 0 0 (MQ below (va_Ql (fun r u => Q r u) (fun u t => xEnd D ((fun u : XT => (wX cI cJ cB cZ ad u)) u) A t) A) args s 0 0 A) (F0 m 0 ls [])) := by
    intro k
    induction k with
    | zero => exact fun _ _ _ _ _ _ hR => False.elim hR
    | succ k ih =>
      intro t li lj H locs ls hR hl h
      have hR : wbX11_incidence_0 (wpX11_incidence k) k t li lj Q := hR
      unfold wbX11_incidence_0 at hR
      refine lv_aload_n hx hb dX11_incidence_0 rfl (lv_at hl 0 rfl) ?_
      refine lv_iload_n hx hb dX11_incidence_1 rfl (lv_at hl 1 rfl) ?_
      refine lv_iload_n hx hb dX11_incidence_2 rfl (lv_at hl 2 rfl) ?_
      refine x_cVIF (n := 2) (As := [.int (li 1), .int (li 2)]) (rest := []) B h (wkX11_areEnds l D cI cJ cB cZ ad k t (li 1) (li 2) _ hR) ⟨⟨_, rfl⟩, by decide +kernel, Nat.le_of_ble_eq_true rfl, Nat.le_of_ble_eq_true rfl⟩ gX11_incidence_X11_areEnds (show ((wX cI cJ cB cZ ad t) : va_W)[0]? = some (_, .inr (11, _)) from rfl) rfl rfl hl.1 rfl (Nat.le_of_ble_eq_true rfl) dX11_incidence_3 ⟨Nat.le_of_ble_eq_true rfl, Nat.le_of_ble_eq_true rfl⟩ (fun r_1 t_1 H locs hR h => ?_)
      refine lv_if_ne (tgt := 13) hx hb dX11_incidence_6 (by decide) (fun c_2 => ?_) (fun c_2 => ?_)
      · have hR := hR.1 c_2
        refine lv_aload_n hx hb dX11_incidence_13 rfl (lv_at hl 0 rfl) ?_
        refine x_get (ci := 11) (C := RX11) (T := TX11) (N := 11) (v := .ref (ad 7)) B h hin11 0 6 rfl rfl (by decide) (by decide +kernel) rfl dX11_incidence_14 ?_
        refine lv_iload_n hx hb dX11_incidence_17 rfl (lv_at hl 1 rfl) ?_
        refine x_cVVF (n := 1) (As := [.int (li 1)]) (rest := []) B h (wkX1_start l D cI cJ cB cZ ad k t_1 (li 1) _ hR) ⟨⟨_, rfl⟩, by decide +kernel, Nat.le_of_ble_eq_true rfl, Nat.le_of_ble_eq_true rfl⟩ gX11_incidence_X1_start (show ((wX cI cJ cB cZ ad t_1) : va_W)[7]? = some (_, .inr (1, _)) from rfl) rfl rfl hl.1 rfl (Nat.le_of_ble_eq_true rfl) dX11_incidence_18 ⟨Nat.le_of_ble_eq_true rfl, Nat.le_of_ble_eq_true rfl⟩ (fun t_3 H locs hR h => ?_)
        refine lv_aload_n hx hb dX11_incidence_21 rfl (lv_at hl 0 rfl) ?_
        refine x_get (ci := 11) (C := RX11) (T := TX11) (N := 11) (v := .ref (ad 7)) B h hin11 0 6 rfl rfl (by decide) (by decide +kernel) rfl dX11_incidence_22 ?_
        refine lv_aload_n hx hb dX11_incidence_25 rfl (lv_at hl 0 rfl) ?_
        refine x_get (ci := 11) (C := RX11) (T := TX11) (N := 11) (v := .ref (ad 3)) B h hin11 0 2 rfl rfl (by decide) (by decide +kernel) rfl dX11_incidence_26 ?_
        refine x_get (ci := 9) (C := RX9) (T := TX9) (N := 7) (v := .ref (ad 15)) B h hin9 3 2 rfl rfl (by decide) (by decide +kernel) rfl dX11_incidence_29 ?_
        refine lv_iload_n hx hb dX11_incidence_32 rfl (lv_at hl 1 rfl) ?_
        obtain ⟨hb_4, hR⟩ := hR
        refine va_iald (f := (t_3.2.2.1 3)) hx hb B.2.1 h.1 15 0 rfl rfl hb_4 dX11_incidence_33 ?_
        refine lv_topi (fun v_4 ev_4 => ?_)
        have hR := hR v_4 ev_4
        refine lv_iconst (v := 1) hx hb dX11_incidence_34 (by decide) ?_
        refine x_cVVF (n := 2) (As := [.int v_4, .int 1]) (rest := []) B h (wkX1_pour l D cI cJ cB cZ ad k t_3 v_4 1 _ hR) ⟨⟨_, rfl⟩, by decide +kernel, Nat.le_of_ble_eq_true rfl, Nat.le_of_ble_eq_true rfl⟩ gX11_incidence_X1_pour (show ((wX cI cJ cB cZ ad t_3) : va_W)[7]? = some (_, .inr (1, _)) from rfl) rfl rfl hl.1 rfl (Nat.le_of_ble_eq_true rfl) dX11_incidence_35 ⟨Nat.le_of_ble_eq_true rfl, Nat.le_of_ble_eq_true rfl⟩ (fun t_5 H locs hR h => ?_)
        refine lv_aload_n hx hb dX11_incidence_38 rfl (lv_at hl 0 rfl) ?_
        refine x_get (ci := 11) (C := RX11) (T := TX11) (N := 11) (v := .ref (ad 7)) B h hin11 0 6 rfl rfl (by decide) (by decide +kernel) rfl dX11_incidence_39 ?_
        refine x_get (ci := 1) (C := RX1) (T := TX1) (N := 7) (v := .ref (ad 23)) B h hin1 7 3 rfl rfl (by decide) (by decide +kernel) rfl dX11_incidence_42 ?_
        refine lv_iload_n hx hb dX11_incidence_45 rfl (lv_at hl 2 rfl) ?_
        obtain ⟨hb_6, hR⟩ := hR
        refine va_lald (f := (t_5.2.2.2 3)) hx hb B.2.1 h.1 23 1 rfl rfl hb_6 dX11_incidence_46 ?_
        refine lv_topl (fun v_6 ev_6 => ?_)
        have hR := hR v_6 ev_6
        exact x_lret (w1 := (fun u : XT => (wX cI cJ cB cZ ad u))) t_5 B h hr hR dX11_incidence_47
      · have hR := hR.2 c_2
        refine lv_ldc2 (v := (-9223372036854775808)) hx hb hown (hts (.constantLong RX11 244 (-9223372036854775808)) (by decide +kernel)) dX11_incidence_9 ?_
        exact x_lret (w1 := (fun u : XT => (wX cI cJ cB cZ ad u))) t_1 B h hr hR dX11_incidence_12
  exact (main k) t _ _ s.heap [] ls hR hl h
def wbX11_chain_0 (rec : Nat → XT → (Nat → Int32) → (Nat → Int64) → (Int64 → XT → Prop) → Prop) (k : Nat) (t : XT) (li : Nat → Int32) (lj : Nat → Int64) (Q : Int64 → XT → Prop) : Prop :=
  (wqX11_isThere k t (li 1) (fun r_1 t_1 => ((r_1 = 0) → rec 1 t_1 li lj Q) ∧ (¬ (r_1 = 0) → (wqX11_isThere k t_1 (li 2) (fun r_3 t_3 => ((r_3 = 0) → rec 1 t_3 li lj Q) ∧ (¬ (r_3 = 0) → (wqX6_isCritical k t_3 (li 1) (fun r_5 t_5 => ((¬ r_5 = 0) → (vp_in (li 1) 64 ∧ (∀ v_7 : Int32, v_7 = (t_5.2.2.1 3) (li 1).toNatClampNeg → (vp_in (li 2) 64 ∧ (∀ v_8 : Int32, v_8 = (t_5.2.2.1 3) (li 2).toNatClampNeg → ((v_7 = v_8) → (wqX1_start k t_5 (li 1) (fun t_10 => (vp_in (li 1) 64 ∧ (∀ v_11 : Int32, v_11 = (t_10.2.2.1 3) (li 1).toNatClampNeg → (wqX1_pour k t_10 v_11 1 (fun t_12 => (vp_in (li 2) 64 ∧ (∀ v_13 : Int64, v_13 = (t_12.2.2.2 3) (li 2).toNatClampNeg → Q v_13 t_12))))))))) ∧ (¬ (v_7 = v_8) → Q (-9223372036854775808) t_5)))))) ∧ ((r_5 = 0) → rec 1 t_5 li lj Q)))))))))
def wbX11_chain_1 (rec : Nat → XT → (Nat → Int32) → (Nat → Int64) → (Int64 → XT → Prop) → Prop) (k : Nat) (t : XT) (li : Nat → Int32) (lj : Nat → Int64) (Q : Int64 → XT → Prop) : Prop :=
  Q (-9223372036854775808) t
def wpX11_chain : Nat → Nat → XT → (Nat → Int32) → (Nat → Int64) → (Int64 → XT → Prop) → Prop
  | 0, _, _, _, _, _ => False
  | k + 1, 0, t, li, lj, Q => wbX11_chain_0 (wpX11_chain k) k t li lj Q
  | k + 1, 1, t, li, lj, Q => wbX11_chain_1 (wpX11_chain k) k t li lj Q
  | _ + 1, _, _, _, _, _ => False
def wqX11_chain (k : Nat) (t : XT) (a1 : Int32) (a2 : Int32) (Q : Int64 → XT → Prop) : Prop := wpX11_chain k 0 t (uI (uI (fun _ => 0) 1 a1) 2 a2) (fun _ => 0) Q
set_option maxHeartbeats 8000000 in
set_option maxRecDepth 100000 in
theorem wkX11_chain (l : Launch) (D : va_G) (cI cJ cB cZ : ClassId) (ad : Nat → Nat) (k : Nat) (t : XT) (a1 : Int32) (a2 : Int32) (Q : Int64 → XT → Prop) (hR : wqX11_chain k t a1 a2 Q) : MetL l yX11_chain wsX11_chain 4 96 0 0 D (TYS cI cJ cB cZ) (wX cI cJ cB cZ ad t) [.ref (ad 0), .int a1, .int a2] (fun r u => Q r u) (fun u : XT => (wX cI cJ cB cZ ad u)) := by
  refine x_startL (ty := .long) (cc := cX11_chain) (by decide) rfl (Nat.le_of_ble_eq_true rfl) ?_
  intro p e s m args below meth c A ls B hr hnm h hl
  have hx := B.1.1
  have hb := B.1.2.1
  have hml := B.1.2.2.1
  have hts := B.1.2.2.2.2
  have hown : s.vm.findClass RX11 = some m.cls := B.1.2.2.2.1
  have hin1 : ∀ w ∈ u_ws RX1 TX1 7, w ∈ wsX11_chain := by decide +kernel
  have hin9 : ∀ w ∈ u_ws RX9 TX9 7, w ∈ wsX11_chain := by decide +kernel
  have hin11 : ∀ w ∈ u_ws RX11 TX11 11, w ∈ wsX11_chain := by decide +kernel
  have main : ∀ k : Nat, (∀ (t : XT) (li : Nat → Int32) (lj : Nat → Int64) (H : Heap) (locs : List Loc) (ls : Array Slot), wpX11_chain k 0 t li lj Q → lv_has ls 3 [(0, .ref (ad 0)), (1, .int (li 1)), (2, .int (li 2))] → Hp D A s.heap (wX cI cJ cB cZ ad t) H locs → W p l e { frames := 4, cells := 0, slots := 0, locals := 96 } s m args below meth c H locs 0 0 (MQ below (va_Ql (fun r u => Q r u) (fun u t => xEnd D ((fun u : XT => (wX cI cJ cB cZ ad u)) u) A t) A) args s 0 0 A) (F0 m 0 ls [])) ∧
      (∀ (t : XT) (li : Nat → Int32) (lj : Nat → Int64) (H : Heap) (locs : List Loc) (ls : Array Slot), wpX11_chain k 1 t li lj Q → lv_has ls 3 [(0, .ref (ad 0)), (1, .int (li 1)), (2, .int (li 2))] → Hp D A s.heap (wX cI cJ cB cZ ad t) H locs → W p l e { frames := 4, cells := 0, slots := 0, locals := 96 } s m args below meth c H locs 0 0 (MQ below (va_Ql (fun r u => Q r u) (fun u t => xEnd D ((fun u : XT => (wX cI cJ cB cZ ad u)) u) A t) A) args s 0 0 A) (F0 m 27 ls [])) := by
    intro k
    induction k with
    | zero => exact ⟨fun _ _ _ _ _ _ hR => False.elim hR, fun _ _ _ _ _ _ hR => False.elim hR⟩
    | succ k ih =>
      refine ⟨?_, ?_⟩
      · intro t li lj H locs ls hR hl h
        have hR : wbX11_chain_0 (wpX11_chain k) k t li lj Q := hR
        unfold wbX11_chain_0 at hR
        refine lv_aload_n hx hb dX11_chain_0 rfl (lv_at hl 0 rfl) ?_
        refine lv_iload_n hx hb dX11_chain_1 rfl (lv_at hl 1 rfl) ?_
        refine x_cVIF (n := 1) (As := [.int (li 1)]) (rest := []) B h (wkX11_isThere l D cI cJ cB cZ ad k t (li 1) _ hR) ⟨⟨_, rfl⟩, by decide +kernel, Nat.le_of_ble_eq_true rfl, Nat.le_of_ble_eq_true rfl⟩ gX11_chain_X11_isThere (show ((wX cI cJ cB cZ ad t) : va_W)[0]? = some (_, .inr (11, _)) from rfl) rfl rfl hl.1 rfl (Nat.le_of_ble_eq_true rfl) dX11_chain_2 ⟨Nat.le_of_ble_eq_true rfl, Nat.le_of_ble_eq_true rfl⟩ (fun r_1 t_1 H locs hR h => ?_)
        refine lv_if_eq (tgt := 27) hx hb dX11_chain_5 (by decide) (fun c_2 => ?_) (fun c_2 => ?_)
        · have hR := hR.1 c_2
          exact ih.2 t_1 li lj H locs ls hR (lv_sub hl [0, 1, 2] rfl) h
        · have hR := hR.2 c_2
          refine lv_aload_n hx hb dX11_chain_8 rfl (lv_at hl 0 rfl) ?_
          refine lv_iload_n hx hb dX11_chain_9 rfl (lv_at hl 2 rfl) ?_
          refine x_cVIF (n := 1) (As := [.int (li 2)]) (rest := []) B h (wkX11_isThere l D cI cJ cB cZ ad k t_1 (li 2) _ hR) ⟨⟨_, rfl⟩, by decide +kernel, Nat.le_of_ble_eq_true rfl, Nat.le_of_ble_eq_true rfl⟩ gX11_chain_X11_isThere (show ((wX cI cJ cB cZ ad t_1) : va_W)[0]? = some (_, .inr (11, _)) from rfl) rfl rfl hl.1 rfl (Nat.le_of_ble_eq_true rfl) dX11_chain_10 ⟨Nat.le_of_ble_eq_true rfl, Nat.le_of_ble_eq_true rfl⟩ (fun r_3 t_3 H locs hR h => ?_)
          refine lv_if_eq (tgt := 27) hx hb dX11_chain_13 (by decide) (fun c_4 => ?_) (fun c_4 => ?_)
          · have hR := hR.1 c_4
            exact ih.2 t_3 li lj H locs ls hR (lv_sub hl [0, 1, 2] rfl) h
          · have hR := hR.2 c_4
            refine lv_aload_n hx hb dX11_chain_16 rfl (lv_at hl 0 rfl) ?_
            refine x_get (ci := 11) (C := RX11) (T := TX11) (N := 11) (v := .ref (ad 4)) B h hin11 0 3 rfl rfl (by decide) (by decide +kernel) rfl dX11_chain_17 ?_
            refine lv_iload_n hx hb dX11_chain_20 rfl (lv_at hl 1 rfl) ?_
            refine x_cVIF (n := 1) (As := [.int (li 1)]) (rest := []) B h (wkX6_isCritical l D cI cJ cB cZ ad k t_3 (li 1) _ hR) ⟨⟨_, rfl⟩, by decide +kernel, Nat.le_of_ble_eq_true rfl, Nat.le_of_ble_eq_true rfl⟩ gX11_chain_X6_isCritical (show ((wX cI cJ cB cZ ad t_3) : va_W)[4]? = some (_, .inr (6, _)) from rfl) rfl rfl hl.1 rfl (Nat.le_of_ble_eq_true rfl) dX11_chain_21 ⟨Nat.le_of_ble_eq_true rfl, Nat.le_of_ble_eq_true rfl⟩ (fun r_5 t_5 H locs hR h => ?_)
            refine lv_if_ne (tgt := 31) hx hb dX11_chain_24 (by decide) (fun c_6 => ?_) (fun c_6 => ?_)
            · have hR := hR.1 c_6
              refine lv_aload_n hx hb dX11_chain_31 rfl (lv_at hl 0 rfl) ?_
              refine x_get (ci := 11) (C := RX11) (T := TX11) (N := 11) (v := .ref (ad 3)) B h hin11 0 2 rfl rfl (by decide) (by decide +kernel) rfl dX11_chain_32 ?_
              refine x_get (ci := 9) (C := RX9) (T := TX9) (N := 7) (v := .ref (ad 15)) B h hin9 3 2 rfl rfl (by decide) (by decide +kernel) rfl dX11_chain_35 ?_
              refine lv_iload_n hx hb dX11_chain_38 rfl (lv_at hl 1 rfl) ?_
              obtain ⟨hb_7, hR⟩ := hR
              refine va_iald (f := (t_5.2.2.1 3)) hx hb B.2.1 h.1 15 0 rfl rfl hb_7 dX11_chain_39 ?_
              refine lv_topi (fun v_7 ev_7 => ?_)
              have hR := hR v_7 ev_7
              refine lv_aload_n hx hb dX11_chain_40 rfl (lv_at hl 0 rfl) ?_
              refine x_get (ci := 11) (C := RX11) (T := TX11) (N := 11) (v := .ref (ad 3)) B h hin11 0 2 rfl rfl (by decide) (by decide +kernel) rfl dX11_chain_41 ?_
              refine x_get (ci := 9) (C := RX9) (T := TX9) (N := 7) (v := .ref (ad 15)) B h hin9 3 2 rfl rfl (by decide) (by decide +kernel) rfl dX11_chain_44 ?_
              refine lv_iload_n hx hb dX11_chain_47 rfl (lv_at hl 2 rfl) ?_
              obtain ⟨hb_8, hR⟩ := hR
              refine va_iald (f := (t_5.2.2.1 3)) hx hb B.2.1 h.1 15 0 rfl rfl hb_8 dX11_chain_48 ?_
              refine lv_topi (fun v_8 ev_8 => ?_)
              have hR := hR v_8 ev_8
              refine lv_icmp_eq (tgt := 56) hx hb dX11_chain_49 (by decide) (fun c_9 => ?_) (fun c_9 => ?_)
              · have hR := hR.1 c_9
                refine lv_aload_n hx hb dX11_chain_56 rfl (lv_at hl 0 rfl) ?_
                refine x_get (ci := 11) (C := RX11) (T := TX11) (N := 11) (v := .ref (ad 7)) B h hin11 0 6 rfl rfl (by decide) (by decide +kernel) rfl dX11_chain_57 ?_
                refine lv_iload_n hx hb dX11_chain_60 rfl (lv_at hl 1 rfl) ?_
                refine x_cVVF (n := 1) (As := [.int (li 1)]) (rest := []) B h (wkX1_start l D cI cJ cB cZ ad k t_5 (li 1) _ hR) ⟨⟨_, rfl⟩, by decide +kernel, Nat.le_of_ble_eq_true rfl, Nat.le_of_ble_eq_true rfl⟩ gX11_chain_X1_start (show ((wX cI cJ cB cZ ad t_5) : va_W)[7]? = some (_, .inr (1, _)) from rfl) rfl rfl hl.1 rfl (Nat.le_of_ble_eq_true rfl) dX11_chain_61 ⟨Nat.le_of_ble_eq_true rfl, Nat.le_of_ble_eq_true rfl⟩ (fun t_10 H locs hR h => ?_)
                refine lv_aload_n hx hb dX11_chain_64 rfl (lv_at hl 0 rfl) ?_
                refine x_get (ci := 11) (C := RX11) (T := TX11) (N := 11) (v := .ref (ad 7)) B h hin11 0 6 rfl rfl (by decide) (by decide +kernel) rfl dX11_chain_65 ?_
                refine lv_aload_n hx hb dX11_chain_68 rfl (lv_at hl 0 rfl) ?_
                refine x_get (ci := 11) (C := RX11) (T := TX11) (N := 11) (v := .ref (ad 3)) B h hin11 0 2 rfl rfl (by decide) (by decide +kernel) rfl dX11_chain_69 ?_
                refine x_get (ci := 9) (C := RX9) (T := TX9) (N := 7) (v := .ref (ad 15)) B h hin9 3 2 rfl rfl (by decide) (by decide +kernel) rfl dX11_chain_72 ?_
                refine lv_iload_n hx hb dX11_chain_75 rfl (lv_at hl 1 rfl) ?_
                obtain ⟨hb_11, hR⟩ := hR
                refine va_iald (f := (t_10.2.2.1 3)) hx hb B.2.1 h.1 15 0 rfl rfl hb_11 dX11_chain_76 ?_
                refine lv_topi (fun v_11 ev_11 => ?_)
                have hR := hR v_11 ev_11
                refine lv_iconst (v := 1) hx hb dX11_chain_77 (by decide) ?_
                refine x_cVVF (n := 2) (As := [.int v_11, .int 1]) (rest := []) B h (wkX1_pour l D cI cJ cB cZ ad k t_10 v_11 1 _ hR) ⟨⟨_, rfl⟩, by decide +kernel, Nat.le_of_ble_eq_true rfl, Nat.le_of_ble_eq_true rfl⟩ gX11_chain_X1_pour (show ((wX cI cJ cB cZ ad t_10) : va_W)[7]? = some (_, .inr (1, _)) from rfl) rfl rfl hl.1 rfl (Nat.le_of_ble_eq_true rfl) dX11_chain_78 ⟨Nat.le_of_ble_eq_true rfl, Nat.le_of_ble_eq_true rfl⟩ (fun t_12 H locs hR h => ?_)
                refine lv_aload_n hx hb dX11_chain_81 rfl (lv_at hl 0 rfl) ?_
                refine x_get (ci := 11) (C := RX11) (T := TX11) (N := 11) (v := .ref (ad 7)) B h hin11 0 6 rfl rfl (by decide) (by decide +kernel) rfl dX11_chain_82 ?_
                refine x_get (ci := 1) (C := RX1) (T := TX1) (N := 7) (v := .ref (ad 23)) B h hin1 7 3 rfl rfl (by decide) (by decide +kernel) rfl dX11_chain_85 ?_
                refine lv_iload_n hx hb dX11_chain_88 rfl (lv_at hl 2 rfl) ?_
                obtain ⟨hb_13, hR⟩ := hR
                refine va_lald (f := (t_12.2.2.2 3)) hx hb B.2.1 h.1 23 1 rfl rfl hb_13 dX11_chain_89 ?_
                refine lv_topl (fun v_13 ev_13 => ?_)
                have hR := hR v_13 ev_13
                exact x_lret (w1 := (fun u : XT => (wX cI cJ cB cZ ad u))) t_12 B h hr hR dX11_chain_90
              · have hR := hR.2 c_9
                refine lv_ldc2 (v := (-9223372036854775808)) hx hb hown (hts (.constantLong RX11 244 (-9223372036854775808)) (by decide +kernel)) dX11_chain_52 ?_
                exact x_lret (w1 := (fun u : XT => (wX cI cJ cB cZ ad u))) t_5 B h hr hR dX11_chain_55
            · have hR := hR.2 c_6
              exact ih.2 t_5 li lj H locs ls hR (lv_sub hl [0, 1, 2] rfl) h
      · intro t li lj H locs ls hR hl h
        have hR : wbX11_chain_1 (wpX11_chain k) k t li lj Q := hR
        unfold wbX11_chain_1 at hR
        refine lv_ldc2 (v := (-9223372036854775808)) hx hb hown (hts (.constantLong RX11 244 (-9223372036854775808)) (by decide +kernel)) dX11_chain_27 ?_
        exact x_lret (w1 := (fun u : XT => (wX cI cJ cB cZ ad u))) t B h hr hR dX11_chain_30
  exact (main k).1 t _ _ s.heap [] ls hR hl h
def wbX11_root_0 (rec : Nat → XT → (Nat → Int32) → (Nat → Int64) → (Int32 → XT → Prop) → Prop) (k : Nat) (t : XT) (li : Nat → Int32) (lj : Nat → Int64) (Q : Int32 → XT → Prop) : Prop :=
  (wqX11_isThere k t (li 1) (fun r_1 t_1 => ((r_1 = 0) → rec 1 t_1 li lj Q) ∧ (¬ (r_1 = 0) → (vp_in (li 1) 64 ∧ (∀ v_3 : Int32, v_3 = (t_1.2.2.1 3) (li 1).toNatClampNeg → ((¬ v_3 = 0) → rec 1 t_1 li lj Q) ∧ ((v_3 = 0) → (((li 2) < 0) → rec 1 t_1 li lj Q) ∧ (¬ ((li 2) < 0) → (((li 2) ≤ 1) → rec 2 t_1 (uI (uI (uI li 3 (li 1)) 4 0) 5 0) lj Q) ∧ (¬ ((li 2) ≤ 1) → rec 1 t_1 li lj Q))))))))
def wbX11_root_1 (rec : Nat → XT → (Nat → Int32) → (Nat → Int64) → (Int32 → XT → Prop) → Prop) (k : Nat) (t : XT) (li : Nat → Int32) (lj : Nat → Int64) (Q : Int32 → XT → Prop) : Prop :=
  Q (-1) t
def wbX11_root_2 (rec : Nat → XT → (Nat → Int32) → (Nat → Int64) → (Int32 → XT → Prop) → Prop) (k : Nat) (t : XT) (li : Nat → Int32) (lj : Nat → Int64) (Q : Int32 → XT → Prop) : Prop :=
  (((60 : Int32) ≤ (li 5)) → rec 3 t li lj Q) ∧ (¬ ((60 : Int32) ≤ (li 5)) → (vp_in (li 3) 64 ∧ (∀ v_8 : Int32, v_8 = (t.2.2.1 5) (li 3).toNatClampNeg → ((v_8 = (-1)) → rec 3 t li lj Q) ∧ (¬ (v_8 = (-1)) → (vp_in (li 3) 64 ∧ (∀ v_10 : Int32, v_10 = (t.2.2.1 5) (li 3).toNatClampNeg → (vp_in v_10 64 ∧ (∀ v_11 : Int64, v_11 = (t.2.2.2 0) v_10.toNatClampNeg → (wqX11_bit k (li 3) (fun r_12 => (∀ v_13 : Int64, v_13 = (r_12 ^^^ (-1)) → (∀ v_14 : Int64, v_14 = (v_11 &&& v_13) → (wqX11_lowest k v_14 (fun r_15 => (∀ v_16 : Int32, v_16 = (li 4) + Int32.ofInt 1 → (∀ v_17 : Int32, v_17 = (li 5) + Int32.ofInt 1 → rec 2 t (uI (uI (uI li 3 r_15) 4 v_16) 5 v_17) lj Q))))))))))))))))
def wbX11_root_3 (rec : Nat → XT → (Nat → Int32) → (Nat → Int64) → (Int32 → XT → Prop) → Prop) (k : Nat) (t : XT) (li : Nat → Int32) (lj : Nat → Int64) (Q : Int32 → XT → Prop) : Prop :=
  ((¬ (li 2) = 0) → Q (li 4) t) ∧ (((li 2) = 0) → Q (li 3) t)
def wpX11_root : Nat → Nat → XT → (Nat → Int32) → (Nat → Int64) → (Int32 → XT → Prop) → Prop
  | 0, _, _, _, _, _ => False
  | k + 1, 0, t, li, lj, Q => wbX11_root_0 (wpX11_root k) k t li lj Q
  | k + 1, 1, t, li, lj, Q => wbX11_root_1 (wpX11_root k) k t li lj Q
  | k + 1, 2, t, li, lj, Q => wbX11_root_2 (wpX11_root k) k t li lj Q
  | k + 1, 3, t, li, lj, Q => wbX11_root_3 (wpX11_root k) k t li lj Q
  | _ + 1, _, _, _, _, _ => False
def wqX11_root (k : Nat) (t : XT) (a1 : Int32) (a2 : Int32) (Q : Int32 → XT → Prop) : Prop := wpX11_root k 0 t (uI (uI (fun _ => 0) 1 a1) 2 a2) (fun _ => 0) Q
set_option maxHeartbeats 8000000 in
set_option maxRecDepth 100000 in
theorem wkX11_root (l : Launch) (D : va_G) (cI cJ cB cZ : ClassId) (ad : Nat → Nat) (k : Nat) (t : XT) (a1 : Int32) (a2 : Int32) (Q : Int32 → XT → Prop) (hR : wqX11_root k t a1 a2 Q) : MetI l yX11_root wsX11_root 2 43 0 0 D (TYS cI cJ cB cZ) (wX cI cJ cB cZ ad t) [.ref (ad 0), .int a1, .int a2] (fun r u => Q r u) (fun u : XT => (wX cI cJ cB cZ ad u)) := by
  refine x_startI (ty := .int) (cc := cX11_root) (by decide) rfl (Nat.le_of_ble_eq_true rfl) ?_
  intro p e s m args below meth c A ls B hr hnm h hl
  have hx := B.1.1
  have hb := B.1.2.1
  have hml := B.1.2.2.1
  have hts := B.1.2.2.2.2
  have hown : s.vm.findClass RX11 = some m.cls := B.1.2.2.2.1
  have hin6 : ∀ w ∈ u_ws RX6 TX6 6, w ∈ wsX11_root := by decide +kernel
  have hin9 : ∀ w ∈ u_ws RX9 TX9 7, w ∈ wsX11_root := by decide +kernel
  have hin11 : ∀ w ∈ u_ws RX11 TX11 11, w ∈ wsX11_root := by decide +kernel
  have main : ∀ k : Nat, (∀ (t : XT) (li : Nat → Int32) (lj : Nat → Int64) (H : Heap) (locs : List Loc) (ls : Array Slot), wpX11_root k 0 t li lj Q → lv_has ls 8 [(0, .ref (ad 0)), (1, .int (li 1)), (2, .int (li 2))] → Hp D A s.heap (wX cI cJ cB cZ ad t) H locs → W p l e { frames := 2, cells := 0, slots := 0, locals := 43 } s m args below meth c H locs 0 0 (MQ below (va_Qi (fun r u => Q r u) (fun u t => xEnd D ((fun u : XT => (wX cI cJ cB cZ ad u)) u) A t) A) args s 0 0 A) (F0 m 0 ls [])) ∧
      (∀ (t : XT) (li : Nat → Int32) (lj : Nat → Int64) (H : Heap) (locs : List Loc) (ls : Array Slot), wpX11_root k 1 t li lj Q → lv_has ls 8 [(0, .ref (ad 0)), (1, .int (li 1)), (2, .int (li 2))] → Hp D A s.heap (wX cI cJ cB cZ ad t) H locs → W p l e { frames := 2, cells := 0, slots := 0, locals := 43 } s m args below meth c H locs 0 0 (MQ below (va_Qi (fun r u => Q r u) (fun u t => xEnd D ((fun u : XT => (wX cI cJ cB cZ ad u)) u) A t) A) args s 0 0 A) (F0 m 29 ls [])) ∧
      (∀ (t : XT) (li : Nat → Int32) (lj : Nat → Int64) (H : Heap) (locs : List Loc) (ls : Array Slot), wpX11_root k 2 t li lj Q → lv_has ls 8 [(0, .ref (ad 0)), (1, .int (li 1)), (2, .int (li 2)), (3, .int (li 3)), (4, .int (li 4)), (5, .int (li 5))] → Hp D A s.heap (wX cI cJ cB cZ ad t) H locs → W p l e { frames := 2, cells := 0, slots := 0, locals := 43 } s m args below meth c H locs 0 0 (MQ below (va_Qi (fun r u => Q r u) (fun u t => xEnd D ((fun u : XT => (wX cI cJ cB cZ ad u)) u) A t) A) args s 0 0 A) (F0 m 39 ls [])) ∧
      (∀ (t : XT) (li : Nat → Int32) (lj : Nat → Int64) (H : Heap) (locs : List Loc) (ls : Array Slot), wpX11_root k 3 t li lj Q → lv_has ls 8 [(0, .ref (ad 0)), (1, .int (li 1)), (2, .int (li 2)), (3, .int (li 3)), (4, .int (li 4)), (5, .int (li 5))] → Hp D A s.heap (wX cI cJ cB cZ ad t) H locs → W p l e { frames := 2, cells := 0, slots := 0, locals := 43 } s m args below meth c H locs 0 0 (MQ below (va_Qi (fun r u => Q r u) (fun u t => xEnd D ((fun u : XT => (wX cI cJ cB cZ ad u)) u) A t) A) args s 0 0 A) (F0 m 102 ls [])) := by
    intro k
    induction k with
    | zero => exact ⟨fun _ _ _ _ _ _ hR => False.elim hR, fun _ _ _ _ _ _ hR => False.elim hR, fun _ _ _ _ _ _ hR => False.elim hR, fun _ _ _ _ _ _ hR => False.elim hR⟩
    | succ k ih =>
      refine ⟨?_, ?_, ?_, ?_⟩
      · intro t li lj H locs ls hR hl h
        have hR : wbX11_root_0 (wpX11_root k) k t li lj Q := hR
        unfold wbX11_root_0 at hR
        refine lv_aload_n hx hb dX11_root_0 rfl (lv_at hl 0 rfl) ?_
        refine lv_iload_n hx hb dX11_root_1 rfl (lv_at hl 1 rfl) ?_
        refine x_cVIF (n := 1) (As := [.int (li 1)]) (rest := []) B h (wkX11_isThere l D cI cJ cB cZ ad k t (li 1) _ hR) ⟨⟨_, rfl⟩, by decide +kernel, Nat.le_of_ble_eq_true rfl, Nat.le_of_ble_eq_true rfl⟩ gX11_root_X11_isThere (show ((wX cI cJ cB cZ ad t) : va_W)[0]? = some (_, .inr (11, _)) from rfl) rfl rfl hl.1 rfl (Nat.le_of_ble_eq_true rfl) dX11_root_2 ⟨Nat.le_of_ble_eq_true rfl, Nat.le_of_ble_eq_true rfl⟩ (fun r_1 t_1 H locs hR h => ?_)
        refine lv_if_eq (tgt := 29) hx hb dX11_root_5 (by decide) (fun c_2 => ?_) (fun c_2 => ?_)
        · have hR := hR.1 c_2
          exact ih.2.1 t_1 li lj H locs ls hR (lv_sub hl [0, 1, 2] rfl) h
        · have hR := hR.2 c_2
          refine lv_aload_n hx hb dX11_root_8 rfl (lv_at hl 0 rfl) ?_
          refine x_get (ci := 11) (C := RX11) (T := TX11) (N := 11) (v := .ref (ad 3)) B h hin11 0 2 rfl rfl (by decide) (by decide +kernel) rfl dX11_root_9 ?_
          refine x_get (ci := 9) (C := RX9) (T := TX9) (N := 7) (v := .ref (ad 15)) B h hin9 3 2 rfl rfl (by decide) (by decide +kernel) rfl dX11_root_12 ?_
          refine lv_iload_n hx hb dX11_root_15 rfl (lv_at hl 1 rfl) ?_
          obtain ⟨hb_3, hR⟩ := hR
          refine va_iald (f := (t_1.2.2.1 3)) hx hb B.2.1 h.1 15 0 rfl rfl hb_3 dX11_root_16 ?_
          refine lv_topi (fun v_3 ev_3 => ?_)
          have hR := hR v_3 ev_3
          refine lv_if_ne (tgt := 29) hx hb dX11_root_17 (by decide) (fun c_4 => ?_) (fun c_4 => ?_)
          · have hR := hR.1 c_4
            exact ih.2.1 t_1 li lj H locs ls hR (lv_sub hl [0, 1, 2] rfl) h
          · have hR := hR.2 c_4
            refine lv_iload_n hx hb dX11_root_20 rfl (lv_at hl 2 rfl) ?_
            refine lv_if_lt (tgt := 29) hx hb dX11_root_21 (by decide) (fun c_5 => ?_) (fun c_5 => ?_)
            · have hR := hR.1 c_5
              exact ih.2.1 t_1 li lj H locs ls hR (lv_sub hl [0, 1, 2] rfl) h
            · have hR := hR.2 c_5
              refine lv_iload_n hx hb dX11_root_24 rfl (lv_at hl 2 rfl) ?_
              refine lv_iconst (v := 1) hx hb dX11_root_25 (by decide) ?_
              refine lv_icmp_le (tgt := 31) hx hb dX11_root_26 (by decide) (fun c_6 => ?_) (fun c_6 => ?_)
              · have hR := hR.1 c_6
                refine lv_iload_n hx hb dX11_root_31 rfl (lv_at hl 1 rfl) ?_
                refine lv_istore_n (lv' := [(3, .int (li 1)), (0, .ref (ad 0)), (1, .int (li 1)), (2, .int (li 2))]) hx hb dX11_root_32 rfl hl (by decide) rfl (fun ls hl => ?_)
                refine lv_iconst (v := 0) hx hb dX11_root_33 (by decide) ?_
                refine lv_istore (lv' := [(4, .int 0), (3, .int (li 1)), (0, .ref (ad 0)), (1, .int (li 1)), (2, .int (li 2))]) hx hb dX11_root_34 hl (by decide) rfl (fun ls hl => ?_)
                refine lv_iconst (v := 0) hx hb dX11_root_36 (by decide) ?_
                refine lv_istore (lv' := [(5, .int 0), (4, .int 0), (3, .int (li 1)), (0, .ref (ad 0)), (1, .int (li 1)), (2, .int (li 2))]) hx hb dX11_root_37 hl (by decide) rfl (fun ls hl => ?_)
                exact ih.2.2.1 t_1 (uI (uI (uI li 3 (li 1)) 4 0) 5 0) lj H locs ls hR (lv_sub hl [3, 4, 5, 2, 1, 0] rfl) h
              · have hR := hR.2 c_6
                exact ih.2.1 t_1 li lj H locs ls hR (lv_sub hl [0, 1, 2] rfl) h
      · intro t li lj H locs ls hR hl h
        have hR : wbX11_root_1 (wpX11_root k) k t li lj Q := hR
        unfold wbX11_root_1 at hR
        refine lv_iconst (v := (-1)) hx hb dX11_root_29 (by decide) ?_
        exact x_iret (w1 := (fun u : XT => (wX cI cJ cB cZ ad u))) t B h hr rfl hR dX11_root_30
      · intro t li lj H locs ls hR hl h
        have hR : wbX11_root_2 (wpX11_root k) k t li lj Q := hR
        unfold wbX11_root_2 at hR
        refine lv_iload hx hb dX11_root_39 (lv_at hl 5 rfl) ?_
        refine lv_bipush (v := 60) hx hb dX11_root_41 (by decide) ?_
        refine lv_icmp_ge (tgt := 102) hx hb dX11_root_43 (by decide) (fun c_7 => ?_) (fun c_7 => ?_)
        · have hR := hR.1 c_7
          exact ih.2.2.2 t li lj H locs ls hR (lv_sub hl [0, 1, 2, 3, 4, 5] rfl) h
        · have hR := hR.2 c_7
          refine lv_aload_n hx hb dX11_root_46 rfl (lv_at hl 0 rfl) ?_
          refine x_get (ci := 11) (C := RX11) (T := TX11) (N := 11) (v := .ref (ad 4)) B h hin11 0 3 rfl rfl (by decide) (by decide +kernel) rfl dX11_root_47 ?_
          refine x_get (ci := 6) (C := RX6) (T := TX6) (N := 6) (v := .ref (ad 20)) B h hin6 4 1 rfl rfl (by decide) (by decide +kernel) rfl dX11_root_50 ?_
          refine lv_iload_n hx hb dX11_root_53 rfl (lv_at hl 3 rfl) ?_
          obtain ⟨hb_8, hR⟩ := hR
          refine va_iald (f := (t.2.2.1 5)) hx hb B.2.1 h.1 20 0 rfl rfl hb_8 dX11_root_54 ?_
          refine lv_topi (fun v_8 ev_8 => ?_)
          have hR := hR v_8 ev_8
          refine lv_iconst (v := (-1)) hx hb dX11_root_55 (by decide) ?_
          refine lv_icmp_eq (tgt := 102) hx hb dX11_root_56 (by decide) (fun c_9 => ?_) (fun c_9 => ?_)
          · have hR := hR.1 c_9
            exact ih.2.2.2 t li lj H locs ls hR (lv_sub hl [0, 1, 2, 3, 4, 5] rfl) h
          · have hR := hR.2 c_9
            refine lv_aload_n hx hb dX11_root_59 rfl (lv_at hl 0 rfl) ?_
            refine x_get (ci := 11) (C := RX11) (T := TX11) (N := 11) (v := .ref (ad 3)) B h hin11 0 2 rfl rfl (by decide) (by decide +kernel) rfl dX11_root_60 ?_
            refine x_get (ci := 9) (C := RX9) (T := TX9) (N := 7) (v := .ref (ad 17)) B h hin9 3 4 rfl rfl (by decide) (by decide +kernel) rfl dX11_root_63 ?_
            refine lv_aload_n hx hb dX11_root_66 rfl (lv_at hl 0 rfl) ?_
            refine x_get (ci := 11) (C := RX11) (T := TX11) (N := 11) (v := .ref (ad 4)) B h hin11 0 3 rfl rfl (by decide) (by decide +kernel) rfl dX11_root_67 ?_
            refine x_get (ci := 6) (C := RX6) (T := TX6) (N := 6) (v := .ref (ad 20)) B h hin6 4 1 rfl rfl (by decide) (by decide +kernel) rfl dX11_root_70 ?_
            refine lv_iload_n hx hb dX11_root_73 rfl (lv_at hl 3 rfl) ?_
            obtain ⟨hb_10, hR⟩ := hR
            refine va_iald (f := (t.2.2.1 5)) hx hb B.2.1 h.1 20 0 rfl rfl hb_10 dX11_root_74 ?_
            refine lv_topi (fun v_10 ev_10 => ?_)
            have hR := hR v_10 ev_10
            obtain ⟨hb_11, hR⟩ := hR
            refine va_lald (f := (t.2.2.2 0)) hx hb B.2.1 h.1 17 1 rfl rfl hb_11 dX11_root_75 ?_
            refine lv_topl (fun v_11 ev_11 => ?_)
            have hR := hR v_11 ev_11
            refine lv_iload_n hx hb dX11_root_76 rfl (lv_at hl 3 rfl) ?_
            refine x_cSLE (n := 1) (As := [.int (li 3)]) (rest := [.long v_11]) B h (wkX11_bit l D cI cJ cB cZ ad k (li 3) _ hR) ⟨⟨_, rfl⟩, by decide +kernel, Nat.le_of_ble_eq_true rfl, Nat.le_of_ble_eq_true rfl⟩ gX11_root_X11_bit rfl hl.1 rfl (Nat.le_of_ble_eq_true rfl) dX11_root_77 ⟨Nat.le_of_ble_eq_true rfl, Nat.le_of_ble_eq_true rfl⟩ (fun r_12 _ H locs hR h => ?_)
            refine lv_ldc2 (v := (-1)) hx hb hown (hts (.constantLong RX11 242 (-1)) (by decide +kernel)) dX11_root_80 ?_
            refine lv_lxor hx hb dX11_root_83 ?_
            refine lv_topl (fun v_13 ev_13 => ?_)
            have hR := hR v_13 ev_13
            refine lv_land hx hb dX11_root_84 ?_
            refine lv_topl (fun v_14 ev_14 => ?_)
            have hR := hR v_14 ev_14
            refine lv_lstore (lv' := [(6, .long v_14), (0, .ref (ad 0)), (1, .int (li 1)), (2, .int (li 2)), (3, .int (li 3)), (4, .int (li 4)), (5, .int (li 5))]) hx hb dX11_root_85 hl (by decide) rfl (fun ls hl => ?_)
            refine lv_lload hx hb dX11_root_87 (lv_at hl 0 rfl) ?_
            refine x_cSIE (n := 1) (As := [.long v_14]) (rest := []) B h (wkX11_lowest l D cI cJ cB cZ ad k v_14 _ hR) ⟨⟨_, rfl⟩, by decide +kernel, Nat.le_of_ble_eq_true rfl, Nat.le_of_ble_eq_true rfl⟩ gX11_root_X11_lowest rfl hl.1 rfl (Nat.le_of_ble_eq_true rfl) dX11_root_89 ⟨Nat.le_of_ble_eq_true rfl, Nat.le_of_ble_eq_true rfl⟩ (fun r_15 _ H locs hR h => ?_)
            refine lv_istore_n (lv' := [(3, .int r_15), (6, .long v_14), (0, .ref (ad 0)), (1, .int (li 1)), (2, .int (li 2)), (4, .int (li 4)), (5, .int (li 5))]) hx hb dX11_root_92 rfl hl (by decide) rfl (fun ls hl => ?_)
            obtain ⟨v_16, ev_16⟩ : ∃ v : Int32, v = (li 4) + Int32.ofInt 1 := ⟨_, rfl⟩
            have hR := hR v_16 ev_16
            refine lv_iinc (v := v_16) (lv' := [(4, .int v_16), (3, .int r_15), (6, .long v_14), (0, .ref (ad 0)), (1, .int (li 1)), (2, .int (li 2)), (5, .int (li 5))]) hx hb dX11_root_93 hl (k := 5) rfl ev_16.symm (by decide) rfl (fun ls hl => ?_)
            obtain ⟨v_17, ev_17⟩ : ∃ v : Int32, v = (li 5) + Int32.ofInt 1 := ⟨_, rfl⟩
            have hR := hR v_17 ev_17
            refine lv_iinc (v := v_17) (lv' := [(5, .int v_17), (4, .int v_16), (3, .int r_15), (6, .long v_14), (0, .ref (ad 0)), (1, .int (li 1)), (2, .int (li 2))]) hx hb dX11_root_96 hl (k := 6) rfl ev_17.symm (by decide) rfl (fun ls hl => ?_)
            refine lv_goto (tgt := 39) hx hb dX11_root_99 (by decide) ?_
            exact ih.2.2.1 t (uI (uI (uI li 3 r_15) 4 v_16) 5 v_17) lj H locs ls hR (lv_sub hl [4, 5, 6, 2, 1, 0] rfl) h
      · intro t li lj H locs ls hR hl h
        have hR : wbX11_root_3 (wpX11_root k) k t li lj Q := hR
        unfold wbX11_root_3 at hR
        refine lv_iload_n hx hb dX11_root_102 rfl (lv_at hl 2 rfl) ?_
        refine lv_if_ne (tgt := 110) hx hb dX11_root_103 (by decide) (fun c_18 => ?_) (fun c_18 => ?_)
        · have hR := hR.1 c_18
          refine lv_iload hx hb dX11_root_110 (lv_at hl 4 rfl) ?_
          exact x_iret (w1 := (fun u : XT => (wX cI cJ cB cZ ad u))) t B h hr rfl hR dX11_root_112
        · have hR := hR.2 c_18
          refine lv_iload_n hx hb dX11_root_106 rfl (lv_at hl 3 rfl) ?_
          refine lv_goto (tgt := 112) hx hb dX11_root_107 (by decide) ?_
          exact x_iret (w1 := (fun u : XT => (wX cI cJ cB cZ ad u))) t B h hr rfl hR dX11_root_112
  exact (main k).1 t _ _ s.heap [] ls hR hl h
def wbX11_through_0 (rec : Nat → XT → (Nat → Int32) → (Nat → Int64) → (Int64 → XT → Prop) → Prop) (k : Nat) (t : XT) (li : Nat → Int32) (lj : Nat → Int64) (Q : Int64 → XT → Prop) : Prop :=
  (wqX11_areEnds k t (li 1) (li 2) (fun r_1 t_1 => ((r_1 = 0) → rec 1 t_1 li lj Q) ∧ (¬ (r_1 = 0) → (wqX11_isThere k t_1 (li 3) (fun r_3 t_3 => ((¬ r_3 = 0) → (wqX1_start k t_3 (li 1) (fun t_5 => (vp_in (li 1) 64 ∧ (∀ v_6 : Int32, v_6 = (t_5.2.2.1 3) (li 1).toNatClampNeg → (wqX1_pour k t_5 v_6 0 (fun t_7 => (wqX1_countWays k t_7 (li 1) (li 2) (fun r_8 t_8 => (vp_in (li 3) 64 ∧ (∀ v_9 : Int64, v_9 = (t_8.2.2.2 3) (li 3).toNatClampNeg → (vp_in (li 3) 64 ∧ (∀ v_10 : Int64, v_10 = (t_8.2.2.2 4) (li 3).toNatClampNeg → (∀ v_11 : Int64, v_11 = (v_9 * v_10) → Q v_11 t_8)))))))))))))) ∧ ((r_3 = 0) → rec 1 t_3 li lj Q))))))
def wbX11_through_1 (rec : Nat → XT → (Nat → Int32) → (Nat → Int64) → (Int64 → XT → Prop) → Prop) (k : Nat) (t : XT) (li : Nat → Int32) (lj : Nat → Int64) (Q : Int64 → XT → Prop) : Prop :=
  Q (-1) t
def wpX11_through : Nat → Nat → XT → (Nat → Int32) → (Nat → Int64) → (Int64 → XT → Prop) → Prop
  | 0, _, _, _, _, _ => False
  | k + 1, 0, t, li, lj, Q => wbX11_through_0 (wpX11_through k) k t li lj Q
  | k + 1, 1, t, li, lj, Q => wbX11_through_1 (wpX11_through k) k t li lj Q
  | _ + 1, _, _, _, _, _ => False
def wqX11_through (k : Nat) (t : XT) (a1 : Int32) (a2 : Int32) (a3 : Int32) (Q : Int64 → XT → Prop) : Prop := wpX11_through k 0 t (uI (uI (uI (fun _ => 0) 1 a1) 2 a2) 3 a3) (fun _ => 0) Q
set_option maxHeartbeats 8000000 in
set_option maxRecDepth 100000 in
theorem wkX11_through (l : Launch) (D : va_G) (cI cJ cB cZ : ClassId) (ad : Nat → Nat) (k : Nat) (t : XT) (a1 : Int32) (a2 : Int32) (a3 : Int32) (Q : Int64 → XT → Prop) (hR : wqX11_through k t a1 a2 a3 Q) : MetL l yX11_through wsX11_through 4 96 0 0 D (TYS cI cJ cB cZ) (wX cI cJ cB cZ ad t) [.ref (ad 0), .int a1, .int a2, .int a3] (fun r u => Q r u) (fun u : XT => (wX cI cJ cB cZ ad u)) := by
  refine x_startL (ty := .long) (cc := cX11_through) (by decide) rfl (Nat.le_of_ble_eq_true rfl) ?_
  intro p e s m args below meth c A ls B hr hnm h hl
  have hx := B.1.1
  have hb := B.1.2.1
  have hml := B.1.2.2.1
  have hts := B.1.2.2.2.2
  have hown : s.vm.findClass RX11 = some m.cls := B.1.2.2.2.1
  have hin1 : ∀ w ∈ u_ws RX1 TX1 7, w ∈ wsX11_through := by decide +kernel
  have hin9 : ∀ w ∈ u_ws RX9 TX9 7, w ∈ wsX11_through := by decide +kernel
  have hin11 : ∀ w ∈ u_ws RX11 TX11 11, w ∈ wsX11_through := by decide +kernel
  have main : ∀ k : Nat, (∀ (t : XT) (li : Nat → Int32) (lj : Nat → Int64) (H : Heap) (locs : List Loc) (ls : Array Slot), wpX11_through k 0 t li lj Q → lv_has ls 4 [(0, .ref (ad 0)), (1, .int (li 1)), (2, .int (li 2)), (3, .int (li 3))] → Hp D A s.heap (wX cI cJ cB cZ ad t) H locs → W p l e { frames := 4, cells := 0, slots := 0, locals := 96 } s m args below meth c H locs 0 0 (MQ below (va_Ql (fun r u => Q r u) (fun u t => xEnd D ((fun u : XT => (wX cI cJ cB cZ ad u)) u) A t) A) args s 0 0 A) (F0 m 0 ls [])) ∧
      (∀ (t : XT) (li : Nat → Int32) (lj : Nat → Int64) (H : Heap) (locs : List Loc) (ls : Array Slot), wpX11_through k 1 t li lj Q → lv_has ls 4 [(0, .ref (ad 0)), (1, .int (li 1)), (2, .int (li 2)), (3, .int (li 3))] → Hp D A s.heap (wX cI cJ cB cZ ad t) H locs → W p l e { frames := 4, cells := 0, slots := 0, locals := 96 } s m args below meth c H locs 0 0 (MQ below (va_Ql (fun r u => Q r u) (fun u t => xEnd D ((fun u : XT => (wX cI cJ cB cZ ad u)) u) A t) A) args s 0 0 A) (F0 m 17 ls [])) := by
    intro k
    induction k with
    | zero => exact ⟨fun _ _ _ _ _ _ hR => False.elim hR, fun _ _ _ _ _ _ hR => False.elim hR⟩
    | succ k ih =>
      refine ⟨?_, ?_⟩
      · intro t li lj H locs ls hR hl h
        have hR : wbX11_through_0 (wpX11_through k) k t li lj Q := hR
        unfold wbX11_through_0 at hR
        refine lv_aload_n hx hb dX11_through_0 rfl (lv_at hl 0 rfl) ?_
        refine lv_iload_n hx hb dX11_through_1 rfl (lv_at hl 1 rfl) ?_
        refine lv_iload_n hx hb dX11_through_2 rfl (lv_at hl 2 rfl) ?_
        refine x_cVIF (n := 2) (As := [.int (li 1), .int (li 2)]) (rest := []) B h (wkX11_areEnds l D cI cJ cB cZ ad k t (li 1) (li 2) _ hR) ⟨⟨_, rfl⟩, by decide +kernel, Nat.le_of_ble_eq_true rfl, Nat.le_of_ble_eq_true rfl⟩ gX11_through_X11_areEnds (show ((wX cI cJ cB cZ ad t) : va_W)[0]? = some (_, .inr (11, _)) from rfl) rfl rfl hl.1 rfl (Nat.le_of_ble_eq_true rfl) dX11_through_3 ⟨Nat.le_of_ble_eq_true rfl, Nat.le_of_ble_eq_true rfl⟩ (fun r_1 t_1 H locs hR h => ?_)
        refine lv_if_eq (tgt := 17) hx hb dX11_through_6 (by decide) (fun c_2 => ?_) (fun c_2 => ?_)
        · have hR := hR.1 c_2
          exact ih.2 t_1 li lj H locs ls hR (lv_sub hl [0, 1, 2, 3] rfl) h
        · have hR := hR.2 c_2
          refine lv_aload_n hx hb dX11_through_9 rfl (lv_at hl 0 rfl) ?_
          refine lv_iload_n hx hb dX11_through_10 rfl (lv_at hl 3 rfl) ?_
          refine x_cVIF (n := 1) (As := [.int (li 3)]) (rest := []) B h (wkX11_isThere l D cI cJ cB cZ ad k t_1 (li 3) _ hR) ⟨⟨_, rfl⟩, by decide +kernel, Nat.le_of_ble_eq_true rfl, Nat.le_of_ble_eq_true rfl⟩ gX11_through_X11_isThere (show ((wX cI cJ cB cZ ad t_1) : va_W)[0]? = some (_, .inr (11, _)) from rfl) rfl rfl hl.1 rfl (Nat.le_of_ble_eq_true rfl) dX11_through_11 ⟨Nat.le_of_ble_eq_true rfl, Nat.le_of_ble_eq_true rfl⟩ (fun r_3 t_3 H locs hR h => ?_)
          refine lv_if_ne (tgt := 21) hx hb dX11_through_14 (by decide) (fun c_4 => ?_) (fun c_4 => ?_)
          · have hR := hR.1 c_4
            refine lv_aload_n hx hb dX11_through_21 rfl (lv_at hl 0 rfl) ?_
            refine x_get (ci := 11) (C := RX11) (T := TX11) (N := 11) (v := .ref (ad 7)) B h hin11 0 6 rfl rfl (by decide) (by decide +kernel) rfl dX11_through_22 ?_
            refine lv_iload_n hx hb dX11_through_25 rfl (lv_at hl 1 rfl) ?_
            refine x_cVVF (n := 1) (As := [.int (li 1)]) (rest := []) B h (wkX1_start l D cI cJ cB cZ ad k t_3 (li 1) _ hR) ⟨⟨_, rfl⟩, by decide +kernel, Nat.le_of_ble_eq_true rfl, Nat.le_of_ble_eq_true rfl⟩ gX11_through_X1_start (show ((wX cI cJ cB cZ ad t_3) : va_W)[7]? = some (_, .inr (1, _)) from rfl) rfl rfl hl.1 rfl (Nat.le_of_ble_eq_true rfl) dX11_through_26 ⟨Nat.le_of_ble_eq_true rfl, Nat.le_of_ble_eq_true rfl⟩ (fun t_5 H locs hR h => ?_)
            refine lv_aload_n hx hb dX11_through_29 rfl (lv_at hl 0 rfl) ?_
            refine x_get (ci := 11) (C := RX11) (T := TX11) (N := 11) (v := .ref (ad 7)) B h hin11 0 6 rfl rfl (by decide) (by decide +kernel) rfl dX11_through_30 ?_
            refine lv_aload_n hx hb dX11_through_33 rfl (lv_at hl 0 rfl) ?_
            refine x_get (ci := 11) (C := RX11) (T := TX11) (N := 11) (v := .ref (ad 3)) B h hin11 0 2 rfl rfl (by decide) (by decide +kernel) rfl dX11_through_34 ?_
            refine x_get (ci := 9) (C := RX9) (T := TX9) (N := 7) (v := .ref (ad 15)) B h hin9 3 2 rfl rfl (by decide) (by decide +kernel) rfl dX11_through_37 ?_
            refine lv_iload_n hx hb dX11_through_40 rfl (lv_at hl 1 rfl) ?_
            obtain ⟨hb_6, hR⟩ := hR
            refine va_iald (f := (t_5.2.2.1 3)) hx hb B.2.1 h.1 15 0 rfl rfl hb_6 dX11_through_41 ?_
            refine lv_topi (fun v_6 ev_6 => ?_)
            have hR := hR v_6 ev_6
            refine lv_iconst (v := 0) hx hb dX11_through_42 (by decide) ?_
            refine x_cVVF (n := 2) (As := [.int v_6, .int 0]) (rest := []) B h (wkX1_pour l D cI cJ cB cZ ad k t_5 v_6 0 _ hR) ⟨⟨_, rfl⟩, by decide +kernel, Nat.le_of_ble_eq_true rfl, Nat.le_of_ble_eq_true rfl⟩ gX11_through_X1_pour (show ((wX cI cJ cB cZ ad t_5) : va_W)[7]? = some (_, .inr (1, _)) from rfl) rfl rfl hl.1 rfl (Nat.le_of_ble_eq_true rfl) dX11_through_43 ⟨Nat.le_of_ble_eq_true rfl, Nat.le_of_ble_eq_true rfl⟩ (fun t_7 H locs hR h => ?_)
            refine lv_aload_n hx hb dX11_through_46 rfl (lv_at hl 0 rfl) ?_
            refine x_get (ci := 11) (C := RX11) (T := TX11) (N := 11) (v := .ref (ad 7)) B h hin11 0 6 rfl rfl (by decide) (by decide +kernel) rfl dX11_through_47 ?_
            refine lv_iload_n hx hb dX11_through_50 rfl (lv_at hl 1 rfl) ?_
            refine lv_iload_n hx hb dX11_through_51 rfl (lv_at hl 2 rfl) ?_
            refine x_cVLF (n := 2) (As := [.int (li 1), .int (li 2)]) (rest := []) B h (wkX1_countWays l D cI cJ cB cZ ad k t_7 (li 1) (li 2) _ hR) ⟨⟨_, rfl⟩, by decide +kernel, Nat.le_of_ble_eq_true rfl, Nat.le_of_ble_eq_true rfl⟩ gX11_through_X1_countWays (show ((wX cI cJ cB cZ ad t_7) : va_W)[7]? = some (_, .inr (1, _)) from rfl) rfl rfl hl.1 rfl (Nat.le_of_ble_eq_true rfl) dX11_through_52 ⟨Nat.le_of_ble_eq_true rfl, Nat.le_of_ble_eq_true rfl⟩ (fun r_8 t_8 H locs hR h => ?_)
            refine lv_pop2_2 hx hb dX11_through_55 rfl ?_
            refine lv_aload_n hx hb dX11_through_56 rfl (lv_at hl 0 rfl) ?_
            refine x_get (ci := 11) (C := RX11) (T := TX11) (N := 11) (v := .ref (ad 7)) B h hin11 0 6 rfl rfl (by decide) (by decide +kernel) rfl dX11_through_57 ?_
            refine x_get (ci := 1) (C := RX1) (T := TX1) (N := 7) (v := .ref (ad 23)) B h hin1 7 3 rfl rfl (by decide) (by decide +kernel) rfl dX11_through_60 ?_
            refine lv_iload_n hx hb dX11_through_63 rfl (lv_at hl 3 rfl) ?_
            obtain ⟨hb_9, hR⟩ := hR
            refine va_lald (f := (t_8.2.2.2 3)) hx hb B.2.1 h.1 23 1 rfl rfl hb_9 dX11_through_64 ?_
            refine lv_topl (fun v_9 ev_9 => ?_)
            have hR := hR v_9 ev_9
            refine lv_aload_n hx hb dX11_through_65 rfl (lv_at hl 0 rfl) ?_
            refine x_get (ci := 11) (C := RX11) (T := TX11) (N := 11) (v := .ref (ad 7)) B h hin11 0 6 rfl rfl (by decide) (by decide +kernel) rfl dX11_through_66 ?_
            refine x_get (ci := 1) (C := RX1) (T := TX1) (N := 7) (v := .ref (ad 24)) B h hin1 7 4 rfl rfl (by decide) (by decide +kernel) rfl dX11_through_69 ?_
            refine lv_iload_n hx hb dX11_through_72 rfl (lv_at hl 3 rfl) ?_
            obtain ⟨hb_10, hR⟩ := hR
            refine va_lald (f := (t_8.2.2.2 4)) hx hb B.2.1 h.1 24 1 rfl rfl hb_10 dX11_through_73 ?_
            refine lv_topl (fun v_10 ev_10 => ?_)
            have hR := hR v_10 ev_10
            refine lv_lmul hx hb dX11_through_74 ?_
            refine lv_topl (fun v_11 ev_11 => ?_)
            have hR := hR v_11 ev_11
            exact x_lret (w1 := (fun u : XT => (wX cI cJ cB cZ ad u))) t_8 B h hr hR dX11_through_75
          · have hR := hR.2 c_4
            exact ih.2 t_3 li lj H locs ls hR (lv_sub hl [0, 1, 2, 3] rfl) h
      · intro t li lj H locs ls hR hl h
        have hR : wbX11_through_1 (wpX11_through k) k t li lj Q := hR
        unfold wbX11_through_1 at hR
        refine lv_ldc2 (v := (-1)) hx hb hown (hts (.constantLong RX11 242 (-1)) (by decide +kernel)) dX11_through_17 ?_
        exact x_lret (w1 := (fun u : XT => (wX cI cJ cB cZ ad u))) t B h hr hR dX11_through_20
  exact (main k).1 t _ _ s.heap [] ls hR hl h
def wbX1_holdOnly_0 (rec : Nat → XT → (Nat → Int32) → (Nat → Int64) → (XT → Prop) → Prop) (k : Nat) (t : XT) (li : Nat → Int32) (lj : Nat → Int64) (Q : XT → Prop) : Prop :=
  rec 1 t (uI li 3 0) lj Q
def wbX1_holdOnly_1 (rec : Nat → XT → (Nat → Int32) → (Nat → Int64) → (XT → Prop) → Prop) (k : Nat) (t : XT) (li : Nat → Int32) (lj : Nat → Int64) (Q : XT → Prop) : Prop :=
  (((64 : Int32) ≤ (li 3)) → Q t) ∧ (¬ ((64 : Int32) ≤ (li 3)) → (wqX11_isIn k (lj 1) (li 3) (fun r_2 => ((¬ r_2 = 0) → rec 2 t li lj Q) ∧ ((r_2 = 0) → (vp_in (li 3) 64 ∧ (∀ t_4 : XT, t_4 = sB t 3 (vp_updL (t.2.2.2 3) (li 3).toNatClampNeg 0) → rec 2 t_4 li lj Q))))))
def wbX1_holdOnly_2 (rec : Nat → XT → (Nat → Int32) → (Nat → Int64) → (XT → Prop) → Prop) (k : Nat) (t : XT) (li : Nat → Int32) (lj : Nat → Int64) (Q : XT → Prop) : Prop :=
  (∀ v_5 : Int32, v_5 = (li 3) + Int32.ofInt 1 → rec 1 t (uI li 3 v_5) lj Q)
def wpX1_holdOnly : Nat → Nat → XT → (Nat → Int32) → (Nat → Int64) → (XT → Prop) → Prop
  | 0, _, _, _, _, _ => False
  | k + 1, 0, t, li, lj, Q => wbX1_holdOnly_0 (wpX1_holdOnly k) k t li lj Q
  | k + 1, 1, t, li, lj, Q => wbX1_holdOnly_1 (wpX1_holdOnly k) k t li lj Q
  | k + 1, 2, t, li, lj, Q => wbX1_holdOnly_2 (wpX1_holdOnly k) k t li lj Q
  | _ + 1, _, _, _, _, _ => False
def wqX1_holdOnly (k : Nat) (t : XT) (a1 : Int64) (Q : XT → Prop) : Prop := wpX1_holdOnly k 0 t (fun _ => 0) (uI (fun _ => 0) 1 a1) Q
set_option maxHeartbeats 8000000 in
set_option maxRecDepth 100000 in
theorem wkX1_holdOnly (l : Launch) (D : va_G) (cI cJ cB cZ : ClassId) (ad : Nat → Nat) (k : Nat) (t : XT) (a1 : Int64) (Q : XT → Prop) (hR : wqX1_holdOnly k t a1 Q) : MetV l yX1_holdOnly wsX1_holdOnly 1 22 0 0 D (TYS cI cJ cB cZ) (wX cI cJ cB cZ ad t) [.ref (ad 7), .long a1] (fun u => Q u) (fun u : XT => (wX cI cJ cB cZ ad u)) := by
  refine x_startV (ty := .int) (cc := cX1_holdOnly) (by decide) rfl (Nat.le_of_ble_eq_true rfl) ?_
  intro p e s m args below meth c A ls B hr hnm h hl
  have hx := B.1.1
  have hb := B.1.2.1
  have hml := B.1.2.2.1
  have hts := B.1.2.2.2.2
  have hown : s.vm.findClass RX1 = some m.cls := B.1.2.2.2.1
  have hin1 : ∀ w ∈ u_ws RX1 TX1 7, w ∈ wsX1_holdOnly := by decide +kernel
  have main : ∀ k : Nat, (∀ (t : XT) (li : Nat → Int32) (lj : Nat → Int64) (H : Heap) (locs : List Loc) (ls : Array Slot), wpX1_holdOnly k 0 t li lj Q → lv_has ls 4 [(0, .ref (ad 7)), (1, .long (lj 1))] → Hp D A s.heap (wX cI cJ cB cZ ad t) H locs → W p l e { frames := 1, cells := 0, slots := 0, locals := 22 } s m args below meth c H locs 0 0 (MQ below (va_Qv (fun u => Q u) (fun u t => xEnd D ((fun u : XT => (wX cI cJ cB cZ ad u)) u) A t) A) args s 0 0 A) (F0 m 0 ls [])) ∧
      (∀ (t : XT) (li : Nat → Int32) (lj : Nat → Int64) (H : Heap) (locs : List Loc) (ls : Array Slot), wpX1_holdOnly k 1 t li lj Q → lv_has ls 4 [(0, .ref (ad 7)), (1, .long (lj 1)), (3, .int (li 3))] → Hp D A s.heap (wX cI cJ cB cZ ad t) H locs → W p l e { frames := 1, cells := 0, slots := 0, locals := 22 } s m args below meth c H locs 0 0 (MQ below (va_Qv (fun u => Q u) (fun u t => xEnd D ((fun u : XT => (wX cI cJ cB cZ ad u)) u) A t) A) args s 0 0 A) (F0 m 2 ls [])) ∧
      (∀ (t : XT) (li : Nat → Int32) (lj : Nat → Int64) (H : Heap) (locs : List Loc) (ls : Array Slot), wpX1_holdOnly k 2 t li lj Q → lv_has ls 4 [(0, .ref (ad 7)), (1, .long (lj 1)), (3, .int (li 3))] → Hp D A s.heap (wX cI cJ cB cZ ad t) H locs → W p l e { frames := 1, cells := 0, slots := 0, locals := 22 } s m args below meth c H locs 0 0 (MQ below (va_Qv (fun u => Q u) (fun u t => xEnd D ((fun u : XT => (wX cI cJ cB cZ ad u)) u) A t) A) args s 0 0 A) (F0 m 23 ls [])) := by
    intro k
    induction k with
    | zero => exact ⟨fun _ _ _ _ _ _ hR => False.elim hR, fun _ _ _ _ _ _ hR => False.elim hR, fun _ _ _ _ _ _ hR => False.elim hR⟩
    | succ k ih =>
      refine ⟨?_, ?_, ?_⟩
      · intro t li lj H locs ls hR hl h
        have hR : wbX1_holdOnly_0 (wpX1_holdOnly k) k t li lj Q := hR
        unfold wbX1_holdOnly_0 at hR
        refine lv_iconst (v := 0) hx hb dX1_holdOnly_0 (by decide) ?_
        refine lv_istore_n (lv' := [(3, .int 0), (0, .ref (ad 7)), (1, .long (lj 1))]) hx hb dX1_holdOnly_1 rfl hl (by decide) rfl (fun ls hl => ?_)
        exact ih.2.1 t (uI li 3 0) lj H locs ls hR (lv_sub hl [1, 2, 0] rfl) h
      · intro t li lj H locs ls hR hl h
        have hR : wbX1_holdOnly_1 (wpX1_holdOnly k) k t li lj Q := hR
        unfold wbX1_holdOnly_1 at hR
        refine lv_iload_n hx hb dX1_holdOnly_2 rfl (lv_at hl 2 rfl) ?_
        refine lv_bipush (v := 64) hx hb dX1_holdOnly_3 (by decide) ?_
        refine lv_icmp_ge (tgt := 29) hx hb dX1_holdOnly_5 (by decide) (fun c_1 => ?_) (fun c_1 => ?_)
        · have hR := hR.1 c_1
          exact x_vret (w1 := (fun u : XT => (wX cI cJ cB cZ ad u))) t B h hr hR dX1_holdOnly_29
        · have hR := hR.2 c_1
          refine lv_lload_n hx hb dX1_holdOnly_8 rfl (lv_at hl 1 rfl) ?_
          refine lv_iload_n hx hb dX1_holdOnly_9 rfl (lv_at hl 2 rfl) ?_
          refine x_cNIE (n := 2) (As := [.long (lj 1), .int (li 3)]) (rest := []) B h (wkX11_isIn l D cI cJ cB cZ ad k (lj 1) (li 3) _ hR) ⟨⟨_, rfl⟩, by decide +kernel, Nat.le_of_ble_eq_true rfl, Nat.le_of_ble_eq_true rfl⟩ gX1_holdOnly_X11_isIn_n45 (by decide +kernel) (by decide +kernel) (host := "MorseDesk") (by decide +kernel) rfl hl.1 rfl (Nat.le_of_ble_eq_true rfl) dX1_holdOnly_10 ⟨Nat.le_of_ble_eq_true rfl, Nat.le_of_ble_eq_true rfl⟩ (fun r_2 _ H locs hR h => ?_)
          refine lv_if_ne (tgt := 23) hx hb dX1_holdOnly_13 (by decide) (fun c_3 => ?_) (fun c_3 => ?_)
          · have hR := hR.1 c_3
            exact ih.2.2 t li lj H locs ls hR (lv_sub hl [0, 1, 2] rfl) h
          · have hR := hR.2 c_3
            refine lv_aload_n hx hb dX1_holdOnly_16 rfl (lv_at hl 0 rfl) ?_
            refine x_get (ci := 1) (C := RX1) (T := TX1) (N := 7) (v := .ref (ad 23)) B h hin1 7 3 rfl rfl (by decide) (by decide +kernel) rfl dX1_holdOnly_17 ?_
            refine lv_iload_n hx hb dX1_holdOnly_20 rfl (lv_at hl 2 rfl) ?_
            refine lv_lconst (v := 0) hx hb dX1_holdOnly_21 (by decide) ?_
            obtain ⟨hb_4, hR⟩ := hR
            refine z_last (f := (t.2.2.2 3)) B h 23 1 rfl rfl hb_4 dX1_holdOnly_22 (fun H locs h => ?_)
            obtain ⟨t_4, et_4⟩ : ∃ v : XT, v = sB t 3 (vp_updL (t.2.2.2 3) (li 3).toNatClampNeg 0) := ⟨_, rfl⟩
            have hR := hR t_4 et_4
            have h : Hp D A s.heap (wX cI cJ cB cZ ad t_4) H locs := by rw [et_4]; exact h
            exact ih.2.2 t_4 li lj H locs ls hR (lv_sub hl [0, 1, 2] rfl) h
      · intro t li lj H locs ls hR hl h
        have hR : wbX1_holdOnly_2 (wpX1_holdOnly k) k t li lj Q := hR
        unfold wbX1_holdOnly_2 at hR
        obtain ⟨v_5, ev_5⟩ : ∃ v : Int32, v = (li 3) + Int32.ofInt 1 := ⟨_, rfl⟩
        have hR := hR v_5 ev_5
        refine lv_iinc (v := v_5) (lv' := [(3, .int v_5), (0, .ref (ad 7)), (1, .long (lj 1))]) hx hb dX1_holdOnly_23 hl (k := 2) rfl ev_5.symm (by decide) rfl (fun ls hl => ?_)
        refine lv_goto (tgt := 2) hx hb dX1_holdOnly_26 (by decide) ?_
        exact ih.2.1 t (uI li 3 v_5) lj H locs ls hR (lv_sub hl [1, 2, 0] rfl) h
  exact (main k).1 t _ _ s.heap [] ls hR hl h
def wbX11_squaresFrom_0 (rec : Nat → XT → (Nat → Int32) → (Nat → Int64) → (Int32 → XT → Prop) → Prop) (k : Nat) (t : XT) (li : Nat → Int32) (lj : Nat → Int64) (Q : Int32 → XT → Prop) : Prop :=
  (vp_in (li 1) 64 ∧ (∀ v_1 : Int32, v_1 = (t.2.2.1 3) (li 1).toNatClampNeg → (((2 : Int32) ≤ v_1) → (wqX6_unpaired k t  (fun r_3 t_3 => (∀ v_4 : Int32, v_4 = (v_1 - 1) → (vp_in v_4 5 ∧ (∀ v_5 : Int64, v_5 = (t_3.2.2.2 2) v_4.toNatClampNeg → (∀ v_6 : Int64, v_6 = (r_3 &&& v_5) → (wqX6_unpaired k t_3  (fun r_7 t_7 => (∀ v_8 : Int32, v_8 = (v_1 - 2) → (vp_in v_8 5 ∧ (∀ v_9 : Int64, v_9 = (t_7.2.2.2 2) v_8.toNatClampNeg → (∀ v_10 : Int64, v_10 = (r_7 &&& v_9) → (wqX1_start k t_7 (li 1) (fun t_11 => (wqX1_pour k t_11 v_1 1 (fun t_12 => (wqX1_holdOnly k t_12 v_6 (fun t_13 => (∀ v_14 : Int32, v_14 = (v_1 - 1) → (wqX1_pour k t_13 v_14 1 (fun t_15 => rec 1 t_15 (uI (uI (uI li 2 v_1) 7 0) 8 0) (uI (uI lj 3 v_6) 5 v_10) Q)))))))))))))))))))))) ∧ (¬ ((2 : Int32) ≤ v_1) → Q 0 t)))
def wbX11_squaresFrom_1 (rec : Nat → XT → (Nat → Int32) → (Nat → Int64) → (Int32 → XT → Prop) → Prop) (k : Nat) (t : XT) (li : Nat → Int32) (lj : Nat → Int64) (Q : Int32 → XT → Prop) : Prop :=
  ((((t.1 4) : Int32) ≤ (li 8)) → Q (li 7) t) ∧ (¬ (((t.1 4) : Int32) ≤ (li 8)) → (wqX11_isIn k (lj 5) (li 8) (fun r_17 => ((r_17 = 0) → rec 2 t li lj Q) ∧ (¬ (r_17 = 0) → (vp_in (li 8) 64 ∧ (∀ v_19 : Int64, v_19 = (t.2.2.2 3) (li 8).toNatClampNeg → (∀ v_20 : Int32, v_20 = (lg_cmp v_19 0) → ((v_20 = 0) → rec 2 t li lj Q) ∧ (¬ (v_20 = 0) → (∀ v_22 : Int32, v_22 = (li 7) + Int32.ofInt 1 → rec 2 t (uI li 7 v_22) lj Q)))))))))
def wbX11_squaresFrom_2 (rec : Nat → XT → (Nat → Int32) → (Nat → Int64) → (Int32 → XT → Prop) → Prop) (k : Nat) (t : XT) (li : Nat → Int32) (lj : Nat → Int64) (Q : Int32 → XT → Prop) : Prop :=
  (∀ v_23 : Int32, v_23 = (li 8) + Int32.ofInt 1 → rec 1 t (uI li 8 v_23) lj Q)
def wpX11_squaresFrom : Nat → Nat → XT → (Nat → Int32) → (Nat → Int64) → (Int32 → XT → Prop) → Prop
  | 0, _, _, _, _, _ => False
  | k + 1, 0, t, li, lj, Q => wbX11_squaresFrom_0 (wpX11_squaresFrom k) k t li lj Q
  | k + 1, 1, t, li, lj, Q => wbX11_squaresFrom_1 (wpX11_squaresFrom k) k t li lj Q
  | k + 1, 2, t, li, lj, Q => wbX11_squaresFrom_2 (wpX11_squaresFrom k) k t li lj Q
  | _ + 1, _, _, _, _, _ => False
def wqX11_squaresFrom (k : Nat) (t : XT) (a1 : Int32) (Q : Int32 → XT → Prop) : Prop := wpX11_squaresFrom k 0 t (uI (fun _ => 0) 1 a1) (fun _ => 0) Q
set_option maxHeartbeats 8000000 in
set_option maxRecDepth 100000 in
theorem wkX11_squaresFrom (l : Launch) (D : va_G) (cI cJ cB cZ : ClassId) (ad : Nat → Nat) (k : Nat) (t : XT) (a1 : Int32) (Q : Int32 → XT → Prop) (hR : wqX11_squaresFrom k t a1 Q) : MetI l yX11_squaresFrom wsX11_squaresFrom 4 96 0 0 D (TYS cI cJ cB cZ) (wX cI cJ cB cZ ad t) [.ref (ad 0), .int a1] (fun r u => Q r u) (fun u : XT => (wX cI cJ cB cZ ad u)) := by
  refine x_startI (ty := .int) (cc := cX11_squaresFrom) (by decide) rfl (Nat.le_of_ble_eq_true rfl) ?_
  intro p e s m args below meth c A ls B hr hnm h hl
  have hx := B.1.1
  have hb := B.1.2.1
  have hml := B.1.2.2.1
  have hts := B.1.2.2.2.2
  have hown : s.vm.findClass RX11 = some m.cls := B.1.2.2.2.1
  have hin1 : ∀ w ∈ u_ws RX1 TX1 7, w ∈ wsX11_squaresFrom := by decide +kernel
  have hin9 : ∀ w ∈ u_ws RX9 TX9 7, w ∈ wsX11_squaresFrom := by decide +kernel
  have hin11 : ∀ w ∈ u_ws RX11 TX11 11, w ∈ wsX11_squaresFrom := by decide +kernel
  have main : ∀ k : Nat, (∀ (t : XT) (li : Nat → Int32) (lj : Nat → Int64) (H : Heap) (locs : List Loc) (ls : Array Slot), wpX11_squaresFrom k 0 t li lj Q → lv_has ls 9 [(0, .ref (ad 0)), (1, .int (li 1))] → Hp D A s.heap (wX cI cJ cB cZ ad t) H locs → W p l e { frames := 4, cells := 0, slots := 0, locals := 96 } s m args below meth c H locs 0 0 (MQ below (va_Qi (fun r u => Q r u) (fun u t => xEnd D ((fun u : XT => (wX cI cJ cB cZ ad u)) u) A t) A) args s 0 0 A) (F0 m 0 ls [])) ∧
      (∀ (t : XT) (li : Nat → Int32) (lj : Nat → Int64) (H : Heap) (locs : List Loc) (ls : Array Slot), wpX11_squaresFrom k 1 t li lj Q → lv_has ls 9 [(0, .ref (ad 0)), (1, .int (li 1)), (2, .int (li 2)), (3, .long (lj 3)), (5, .long (lj 5)), (7, .int (li 7)), (8, .int (li 8))] → Hp D A s.heap (wX cI cJ cB cZ ad t) H locs → W p l e { frames := 4, cells := 0, slots := 0, locals := 96 } s m args below meth c H locs 0 0 (MQ below (va_Qi (fun r u => Q r u) (fun u t => xEnd D ((fun u : XT => (wX cI cJ cB cZ ad u)) u) A t) A) args s 0 0 A) (F0 m 100 ls [])) ∧
      (∀ (t : XT) (li : Nat → Int32) (lj : Nat → Int64) (H : Heap) (locs : List Loc) (ls : Array Slot), wpX11_squaresFrom k 2 t li lj Q → lv_has ls 9 [(0, .ref (ad 0)), (1, .int (li 1)), (2, .int (li 2)), (3, .long (lj 3)), (5, .long (lj 5)), (7, .int (li 7)), (8, .int (li 8))] → Hp D A s.heap (wX cI cJ cB cZ ad t) H locs → W p l e { frames := 4, cells := 0, slots := 0, locals := 96 } s m args below meth c H locs 0 0 (MQ below (va_Qi (fun r u => Q r u) (fun u t => xEnd D ((fun u : XT => (wX cI cJ cB cZ ad u)) u) A t) A) args s 0 0 A) (F0 m 140 ls [])) := by
    intro k
    induction k with
    | zero => exact ⟨fun _ _ _ _ _ _ hR => False.elim hR, fun _ _ _ _ _ _ hR => False.elim hR, fun _ _ _ _ _ _ hR => False.elim hR⟩
    | succ k ih =>
      refine ⟨?_, ?_, ?_⟩
      · intro t li lj H locs ls hR hl h
        have hR : wbX11_squaresFrom_0 (wpX11_squaresFrom k) k t li lj Q := hR
        unfold wbX11_squaresFrom_0 at hR
        refine lv_aload_n hx hb dX11_squaresFrom_0 rfl (lv_at hl 0 rfl) ?_
        refine x_get (ci := 11) (C := RX11) (T := TX11) (N := 11) (v := .ref (ad 3)) B h hin11 0 2 rfl rfl (by decide) (by decide +kernel) rfl dX11_squaresFrom_1 ?_
        refine x_get (ci := 9) (C := RX9) (T := TX9) (N := 7) (v := .ref (ad 15)) B h hin9 3 2 rfl rfl (by decide) (by decide +kernel) rfl dX11_squaresFrom_4 ?_
        refine lv_iload_n hx hb dX11_squaresFrom_7 rfl (lv_at hl 1 rfl) ?_
        obtain ⟨hb_1, hR⟩ := hR
        refine va_iald (f := (t.2.2.1 3)) hx hb B.2.1 h.1 15 0 rfl rfl hb_1 dX11_squaresFrom_8 ?_
        refine lv_topi (fun v_1 ev_1 => ?_)
        have hR := hR v_1 ev_1
        refine lv_istore_n (lv' := [(2, .int v_1), (0, .ref (ad 0)), (1, .int (li 1))]) hx hb dX11_squaresFrom_9 rfl hl (by decide) rfl (fun ls hl => ?_)
        refine lv_iload_n hx hb dX11_squaresFrom_10 rfl (lv_at hl 0 rfl) ?_
        refine lv_iconst (v := 2) hx hb dX11_squaresFrom_11 (by decide) ?_
        refine lv_icmp_ge (tgt := 17) hx hb dX11_squaresFrom_12 (by decide) (fun c_2 => ?_) (fun c_2 => ?_)
        · have hR := hR.1 c_2
          refine lv_aload_n hx hb dX11_squaresFrom_17 rfl (lv_at hl 1 rfl) ?_
          refine x_get (ci := 11) (C := RX11) (T := TX11) (N := 11) (v := .ref (ad 4)) B h hin11 0 3 rfl rfl (by decide) (by decide +kernel) rfl dX11_squaresFrom_18 ?_
          refine x_cVLF (n := 0) (As := []) (rest := []) B h (wkX6_unpaired l D cI cJ cB cZ ad k t  _ hR) ⟨⟨_, rfl⟩, by decide +kernel, Nat.le_of_ble_eq_true rfl, Nat.le_of_ble_eq_true rfl⟩ gX11_squaresFrom_X6_unpaired (show ((wX cI cJ cB cZ ad t) : va_W)[4]? = some (_, .inr (6, _)) from rfl) rfl rfl hl.1 rfl (Nat.le_of_ble_eq_true rfl) dX11_squaresFrom_21 ⟨Nat.le_of_ble_eq_true rfl, Nat.le_of_ble_eq_true rfl⟩ (fun r_3 t_3 H locs hR h => ?_)
          refine lv_aload_n hx hb dX11_squaresFrom_24 rfl (lv_at hl 1 rfl) ?_
          refine x_get (ci := 11) (C := RX11) (T := TX11) (N := 11) (v := .ref (ad 3)) B h hin11 0 2 rfl rfl (by decide) (by decide +kernel) rfl dX11_squaresFrom_25 ?_
          refine x_get (ci := 9) (C := RX9) (T := TX9) (N := 7) (v := .ref (ad 19)) B h hin9 3 6 rfl rfl (by decide) (by decide +kernel) rfl dX11_squaresFrom_28 ?_
          refine lv_iload_n hx hb dX11_squaresFrom_31 rfl (lv_at hl 0 rfl) ?_
          refine lv_iconst (v := 1) hx hb dX11_squaresFrom_32 (by decide) ?_
          refine lv_isub hx hb dX11_squaresFrom_33 ?_
          refine lv_topi (fun v_4 ev_4 => ?_)
          have hR := hR v_4 ev_4
          obtain ⟨hb_5, hR⟩ := hR
          refine va_lald (f := (t_3.2.2.2 2)) hx hb B.2.1 h.1 19 1 rfl rfl hb_5 dX11_squaresFrom_34 ?_
          refine lv_topl (fun v_5 ev_5 => ?_)
          have hR := hR v_5 ev_5
          refine lv_land hx hb dX11_squaresFrom_35 ?_
          refine lv_topl (fun v_6 ev_6 => ?_)
          have hR := hR v_6 ev_6
          refine lv_lstore_n (lv' := [(3, .long v_6), (2, .int v_1), (0, .ref (ad 0)), (1, .int (li 1))]) hx hb dX11_squaresFrom_36 rfl hl (by decide) rfl (fun ls hl => ?_)
          refine lv_aload_n hx hb dX11_squaresFrom_37 rfl (lv_at hl 2 rfl) ?_
          refine x_get (ci := 11) (C := RX11) (T := TX11) (N := 11) (v := .ref (ad 4)) B h hin11 0 3 rfl rfl (by decide) (by decide +kernel) rfl dX11_squaresFrom_38 ?_
          refine x_cVLF (n := 0) (As := []) (rest := []) B h (wkX6_unpaired l D cI cJ cB cZ ad k t_3  _ hR) ⟨⟨_, rfl⟩, by decide +kernel, Nat.le_of_ble_eq_true rfl, Nat.le_of_ble_eq_true rfl⟩ gX11_squaresFrom_X6_unpaired (show ((wX cI cJ cB cZ ad t_3) : va_W)[4]? = some (_, .inr (6, _)) from rfl) rfl rfl hl.1 rfl (Nat.le_of_ble_eq_true rfl) dX11_squaresFrom_41 ⟨Nat.le_of_ble_eq_true rfl, Nat.le_of_ble_eq_true rfl⟩ (fun r_7 t_7 H locs hR h => ?_)
          refine lv_aload_n hx hb dX11_squaresFrom_44 rfl (lv_at hl 2 rfl) ?_
          refine x_get (ci := 11) (C := RX11) (T := TX11) (N := 11) (v := .ref (ad 3)) B h hin11 0 2 rfl rfl (by decide) (by decide +kernel) rfl dX11_squaresFrom_45 ?_
          refine x_get (ci := 9) (C := RX9) (T := TX9) (N := 7) (v := .ref (ad 19)) B h hin9 3 6 rfl rfl (by decide) (by decide +kernel) rfl dX11_squaresFrom_48 ?_
          refine lv_iload_n hx hb dX11_squaresFrom_51 rfl (lv_at hl 1 rfl) ?_
          refine lv_iconst (v := 2) hx hb dX11_squaresFrom_52 (by decide) ?_
          refine lv_isub hx hb dX11_squaresFrom_53 ?_
          refine lv_topi (fun v_8 ev_8 => ?_)
          have hR := hR v_8 ev_8
          obtain ⟨hb_9, hR⟩ := hR
          refine va_lald (f := (t_7.2.2.2 2)) hx hb B.2.1 h.1 19 1 rfl rfl hb_9 dX11_squaresFrom_54 ?_
          refine lv_topl (fun v_9 ev_9 => ?_)
          have hR := hR v_9 ev_9
          refine lv_land hx hb dX11_squaresFrom_55 ?_
          refine lv_topl (fun v_10 ev_10 => ?_)
          have hR := hR v_10 ev_10
          refine lv_lstore (lv' := [(5, .long v_10), (3, .long v_6), (2, .int v_1), (0, .ref (ad 0)), (1, .int (li 1))]) hx hb dX11_squaresFrom_56 hl (by decide) rfl (fun ls hl => ?_)
          refine lv_aload_n hx hb dX11_squaresFrom_58 rfl (lv_at hl 3 rfl) ?_
          refine x_get (ci := 11) (C := RX11) (T := TX11) (N := 11) (v := .ref (ad 7)) B h hin11 0 6 rfl rfl (by decide) (by decide +kernel) rfl dX11_squaresFrom_59 ?_
          refine lv_iload_n hx hb dX11_squaresFrom_62 rfl (lv_at hl 4 rfl) ?_
          refine x_cVVF (n := 1) (As := [.int (li 1)]) (rest := []) B h (wkX1_start l D cI cJ cB cZ ad k t_7 (li 1) _ hR) ⟨⟨_, rfl⟩, by decide +kernel, Nat.le_of_ble_eq_true rfl, Nat.le_of_ble_eq_true rfl⟩ gX11_squaresFrom_X1_start (show ((wX cI cJ cB cZ ad t_7) : va_W)[7]? = some (_, .inr (1, _)) from rfl) rfl rfl hl.1 rfl (Nat.le_of_ble_eq_true rfl) dX11_squaresFrom_63 ⟨Nat.le_of_ble_eq_true rfl, Nat.le_of_ble_eq_true rfl⟩ (fun t_11 H locs hR h => ?_)
          refine lv_aload_n hx hb dX11_squaresFrom_66 rfl (lv_at hl 3 rfl) ?_
          refine x_get (ci := 11) (C := RX11) (T := TX11) (N := 11) (v := .ref (ad 7)) B h hin11 0 6 rfl rfl (by decide) (by decide +kernel) rfl dX11_squaresFrom_67 ?_
          refine lv_iload_n hx hb dX11_squaresFrom_70 rfl (lv_at hl 2 rfl) ?_
          refine lv_iconst (v := 1) hx hb dX11_squaresFrom_71 (by decide) ?_
          refine x_cVVF (n := 2) (As := [.int v_1, .int 1]) (rest := []) B h (wkX1_pour l D cI cJ cB cZ ad k t_11 v_1 1 _ hR) ⟨⟨_, rfl⟩, by decide +kernel, Nat.le_of_ble_eq_true rfl, Nat.le_of_ble_eq_true rfl⟩ gX11_squaresFrom_X1_pour (show ((wX cI cJ cB cZ ad t_11) : va_W)[7]? = some (_, .inr (1, _)) from rfl) rfl rfl hl.1 rfl (Nat.le_of_ble_eq_true rfl) dX11_squaresFrom_72 ⟨Nat.le_of_ble_eq_true rfl, Nat.le_of_ble_eq_true rfl⟩ (fun t_12 H locs hR h => ?_)
          refine lv_aload_n hx hb dX11_squaresFrom_75 rfl (lv_at hl 3 rfl) ?_
          refine x_get (ci := 11) (C := RX11) (T := TX11) (N := 11) (v := .ref (ad 7)) B h hin11 0 6 rfl rfl (by decide) (by decide +kernel) rfl dX11_squaresFrom_76 ?_
          refine lv_lload_n hx hb dX11_squaresFrom_79 rfl (lv_at hl 1 rfl) ?_
          refine x_cVVF (n := 1) (As := [.long v_6]) (rest := []) B h (wkX1_holdOnly l D cI cJ cB cZ ad k t_12 v_6 _ hR) ⟨⟨_, rfl⟩, by decide +kernel, Nat.le_of_ble_eq_true rfl, Nat.le_of_ble_eq_true rfl⟩ gX11_squaresFrom_X1_holdOnly (show ((wX cI cJ cB cZ ad t_12) : va_W)[7]? = some (_, .inr (1, _)) from rfl) rfl rfl hl.1 rfl (Nat.le_of_ble_eq_true rfl) dX11_squaresFrom_80 ⟨Nat.le_of_ble_eq_true rfl, Nat.le_of_ble_eq_true rfl⟩ (fun t_13 H locs hR h => ?_)
          refine lv_aload_n hx hb dX11_squaresFrom_83 rfl (lv_at hl 3 rfl) ?_
          refine x_get (ci := 11) (C := RX11) (T := TX11) (N := 11) (v := .ref (ad 7)) B h hin11 0 6 rfl rfl (by decide) (by decide +kernel) rfl dX11_squaresFrom_84 ?_
          refine lv_iload_n hx hb dX11_squaresFrom_87 rfl (lv_at hl 2 rfl) ?_
          refine lv_iconst (v := 1) hx hb dX11_squaresFrom_88 (by decide) ?_
          refine lv_isub hx hb dX11_squaresFrom_89 ?_
          refine lv_topi (fun v_14 ev_14 => ?_)
          have hR := hR v_14 ev_14
          refine lv_iconst (v := 1) hx hb dX11_squaresFrom_90 (by decide) ?_
          refine x_cVVF (n := 2) (As := [.int v_14, .int 1]) (rest := []) B h (wkX1_pour l D cI cJ cB cZ ad k t_13 v_14 1 _ hR) ⟨⟨_, rfl⟩, by decide +kernel, Nat.le_of_ble_eq_true rfl, Nat.le_of_ble_eq_true rfl⟩ gX11_squaresFrom_X1_pour (show ((wX cI cJ cB cZ ad t_13) : va_W)[7]? = some (_, .inr (1, _)) from rfl) rfl rfl hl.1 rfl (Nat.le_of_ble_eq_true rfl) dX11_squaresFrom_91 ⟨Nat.le_of_ble_eq_true rfl, Nat.le_of_ble_eq_true rfl⟩ (fun t_15 H locs hR h => ?_)
          refine lv_iconst (v := 0) hx hb dX11_squaresFrom_94 (by decide) ?_
          refine lv_istore (lv' := [(7, .int 0), (5, .long v_10), (3, .long v_6), (2, .int v_1), (0, .ref (ad 0)), (1, .int (li 1))]) hx hb dX11_squaresFrom_95 hl (by decide) rfl (fun ls hl => ?_)
          refine lv_iconst (v := 0) hx hb dX11_squaresFrom_97 (by decide) ?_
          refine lv_istore (lv' := [(8, .int 0), (7, .int 0), (5, .long v_10), (3, .long v_6), (2, .int v_1), (0, .ref (ad 0)), (1, .int (li 1))]) hx hb dX11_squaresFrom_98 hl (by decide) rfl (fun ls hl => ?_)
          exact ih.2.1 t_15 (uI (uI (uI li 2 v_1) 7 0) 8 0) (uI (uI lj 3 v_6) 5 v_10) H locs ls hR (lv_sub hl [5, 6, 4, 3, 2, 1, 0] rfl) h
        · have hR := hR.2 c_2
          refine lv_iconst (v := 0) hx hb dX11_squaresFrom_15 (by decide) ?_
          exact x_iret (w1 := (fun u : XT => (wX cI cJ cB cZ ad u))) t B h hr rfl hR dX11_squaresFrom_16
      · intro t li lj H locs ls hR hl h
        have hR : wbX11_squaresFrom_1 (wpX11_squaresFrom k) k t li lj Q := hR
        unfold wbX11_squaresFrom_1 at hR
        refine lv_iload hx hb dX11_squaresFrom_100 (lv_at hl 6 rfl) ?_
        refine lv_aload_n hx hb dX11_squaresFrom_102 rfl (lv_at hl 0 rfl) ?_
        refine x_get (ci := 11) (C := RX11) (T := TX11) (N := 11) (v := .ref (ad 3)) B h hin11 0 2 rfl rfl (by decide) (by decide +kernel) rfl dX11_squaresFrom_103 ?_
        refine x_get (ci := 9) (C := RX9) (T := TX9) (N := 7) (v := .int (t.1 4)) B h hin9 3 0 rfl rfl (by decide) (by decide +kernel) rfl dX11_squaresFrom_106 ?_
        refine lv_icmp_ge (tgt := 146) hx hb dX11_squaresFrom_109 (by decide) (fun c_16 => ?_) (fun c_16 => ?_)
        · have hR := hR.1 c_16
          refine lv_iload hx hb dX11_squaresFrom_146 (lv_at hl 5 rfl) ?_
          exact x_iret (w1 := (fun u : XT => (wX cI cJ cB cZ ad u))) t B h hr rfl hR dX11_squaresFrom_148
        · have hR := hR.2 c_16
          refine lv_lload hx hb dX11_squaresFrom_112 (lv_at hl 4 rfl) ?_
          refine lv_iload hx hb dX11_squaresFrom_114 (lv_at hl 6 rfl) ?_
          refine x_cSIE (n := 2) (As := [.long (lj 5), .int (li 8)]) (rest := []) B h (wkX11_isIn l D cI cJ cB cZ ad k (lj 5) (li 8) _ hR) ⟨⟨_, rfl⟩, by decide +kernel, Nat.le_of_ble_eq_true rfl, Nat.le_of_ble_eq_true rfl⟩ gX11_squaresFrom_X11_isIn rfl hl.1 rfl (Nat.le_of_ble_eq_true rfl) dX11_squaresFrom_116 ⟨Nat.le_of_ble_eq_true rfl, Nat.le_of_ble_eq_true rfl⟩ (fun r_17 _ H locs hR h => ?_)
          refine lv_if_eq (tgt := 140) hx hb dX11_squaresFrom_119 (by decide) (fun c_18 => ?_) (fun c_18 => ?_)
          · have hR := hR.1 c_18
            exact ih.2.2 t li lj H locs ls hR (lv_sub hl [0, 1, 2, 3, 4, 5, 6] rfl) h
          · have hR := hR.2 c_18
            refine lv_aload_n hx hb dX11_squaresFrom_122 rfl (lv_at hl 0 rfl) ?_
            refine x_get (ci := 11) (C := RX11) (T := TX11) (N := 11) (v := .ref (ad 7)) B h hin11 0 6 rfl rfl (by decide) (by decide +kernel) rfl dX11_squaresFrom_123 ?_
            refine x_get (ci := 1) (C := RX1) (T := TX1) (N := 7) (v := .ref (ad 23)) B h hin1 7 3 rfl rfl (by decide) (by decide +kernel) rfl dX11_squaresFrom_126 ?_
            refine lv_iload hx hb dX11_squaresFrom_129 (lv_at hl 6 rfl) ?_
            obtain ⟨hb_19, hR⟩ := hR
            refine va_lald (f := (t.2.2.2 3)) hx hb B.2.1 h.1 23 1 rfl rfl hb_19 dX11_squaresFrom_131 ?_
            refine lv_topl (fun v_19 ev_19 => ?_)
            have hR := hR v_19 ev_19
            refine lv_lconst (v := 0) hx hb dX11_squaresFrom_132 (by decide) ?_
            refine W.lcmp hx hb dX11_squaresFrom_133 ?_
            refine lv_topi (fun v_20 ev_20 => ?_)
            have hR := hR v_20 ev_20
            refine lv_if_eq (tgt := 140) hx hb dX11_squaresFrom_134 (by decide) (fun c_21 => ?_) (fun c_21 => ?_)
            · have hR := hR.1 c_21
              exact ih.2.2 t li lj H locs ls hR (lv_sub hl [0, 1, 2, 3, 4, 5, 6] rfl) h
            · have hR := hR.2 c_21
              obtain ⟨v_22, ev_22⟩ : ∃ v : Int32, v = (li 7) + Int32.ofInt 1 := ⟨_, rfl⟩
              have hR := hR v_22 ev_22
              refine lv_iinc (v := v_22) (lv' := [(7, .int v_22), (0, .ref (ad 0)), (1, .int (li 1)), (2, .int (li 2)), (3, .long (lj 3)), (5, .long (lj 5)), (8, .int (li 8))]) hx hb dX11_squaresFrom_137 hl (k := 5) rfl ev_22.symm (by decide) rfl (fun ls hl => ?_)
              exact ih.2.2 t (uI li 7 v_22) lj H locs ls hR (lv_sub hl [1, 2, 3, 4, 5, 0, 6] rfl) h
      · intro t li lj H locs ls hR hl h
        have hR : wbX11_squaresFrom_2 (wpX11_squaresFrom k) k t li lj Q := hR
        unfold wbX11_squaresFrom_2 at hR
        obtain ⟨v_23, ev_23⟩ : ∃ v : Int32, v = (li 8) + Int32.ofInt 1 := ⟨_, rfl⟩
        have hR := hR v_23 ev_23
        refine lv_iinc (v := v_23) (lv' := [(8, .int v_23), (0, .ref (ad 0)), (1, .int (li 1)), (2, .int (li 2)), (3, .long (lj 3)), (5, .long (lj 5)), (7, .int (li 7))]) hx hb dX11_squaresFrom_140 hl (k := 6) rfl ev_23.symm (by decide) rfl (fun ls hl => ?_)
        refine lv_goto (tgt := 100) hx hb dX11_squaresFrom_143 (by decide) ?_
        exact ih.2.1 t (uI li 8 v_23) lj H locs ls hR (lv_sub hl [1, 2, 3, 4, 5, 6, 0] rfl) h
  exact (main k).1 t _ _ s.heap [] ls hR hl h
