set_option maxRecDepth 20000 in
theorem ggX11_pairDownwards_X6_isCritical : GoodIn wsX11_pairDownwards wsX6_isCritical := goodIn_r _ [9, 10, 11, 12, 8, 13, 14, 15, 16, 17, 18, 19, 20, 64, 65, 66, 67, 68, 69] (by decide +kernel) (by decide +kernel)
set_option maxRecDepth 20000 in
theorem gX11_pairDownwards_X6_isCritical : GoodIn wsX11_pairDownwards (wsV RX11 172 RX6 yX6_isCritical wsX6_isCritical) := goodIn_app (goodIn_of _ (by decide +kernel)) ggX11_pairDownwards_X6_isCritical
set_option maxRecDepth 20000 in
theorem ggX11_pairDownwards_X6_unpaired : GoodIn wsX11_pairDownwards wsX6_unpaired := goodIn_r _ [13, 14, 15, 16, 17, 64, 65, 66, 67, 68, 69] (by decide +kernel) (by decide +kernel)
set_option maxRecDepth 20000 in
theorem gX11_pairDownwards_X6_unpaired : GoodIn wsX11_pairDownwards (wsV RX11 232 RX6 yX6_unpaired wsX6_unpaired) := goodIn_app (goodIn_of _ (by decide +kernel)) ggX11_pairDownwards_X6_unpaired
set_option maxRecDepth 20000 in
theorem ggX11_pairDownwards_X11_isIn : GoodIn wsX11_pairDownwards wsX11_isIn := goodIn_r _ [20] (by decide +kernel) (by decide +kernel)
set_option maxRecDepth 20000 in
theorem gX11_pairDownwards_X11_isIn : GoodIn wsX11_pairDownwards (va_wsS RX11 168 yX11_isIn wsX11_isIn) := goodIn_app (goodIn_of _ (by decide +kernel)) ggX11_pairDownwards_X11_isIn
set_option maxRecDepth 20000 in
theorem ggX11_pairDownwards_X6_staysAcyclic : GoodIn wsX11_pairDownwards wsX6_staysAcyclic := goodIn_r _ [26, 27, 28, 17, 15, 29, 30, 19, 31, 32, 33, 34, 35, 36, 37, 38, 39, 40, 18, 20, 64, 65, 66, 67, 68, 69, 57, 58, 59, 60, 61, 62, 63] (by decide +kernel) (by decide +kernel)
set_option maxRecDepth 20000 in
theorem gX11_pairDownwards_X6_staysAcyclic : GoodIn wsX11_pairDownwards (wsV RX11 175 RX6 yX6_staysAcyclic wsX6_staysAcyclic) := goodIn_app (goodIn_of _ (by decide +kernel)) ggX11_pairDownwards_X6_staysAcyclic
set_option maxRecDepth 20000 in
theorem ggX11_pairDownwards_X6_unite : GoodIn wsX11_pairDownwards wsX6_unite := goodIn_r _ [44, 29, 15, 16, 45, 30, 19, 31, 64, 65, 66, 67, 68, 69] (by decide +kernel) (by decide +kernel)
set_option maxRecDepth 20000 in
theorem gX11_pairDownwards_X6_unite : GoodIn wsX11_pairDownwards (wsV RX11 183 RX6 yX6_unite wsX6_unite) := goodIn_app (goodIn_of _ (by decide +kernel)) ggX11_pairDownwards_X6_unite
def wbX11_pairDownwards_0 (rec : Nat → XT → (Nat → Int32) → (Nat → Int64) → (XT → Prop) → Prop) (k : Nat) (t : XT) (li : Nat → Int32) (lj : Nat → Int64) (Q : XT → Prop) : Prop :=
  (∀ v_1 : Int32, v_1 = ((t.1 4) - 1) → rec 1 t (uI li 1 v_1) lj Q)
def wbX11_pairDownwards_1 (rec : Nat → XT → (Nat → Int32) → (Nat → Int64) → (XT → Prop) → Prop) (k : Nat) (t : XT) (li : Nat → Int32) (lj : Nat → Int64) (Q : XT → Prop) : Prop :=
  (((li 1) < 0) → Q t) ∧ (¬ ((li 1) < 0) → (wqX6_isCritical k t (li 1) (fun r_3 t_3 => ((r_3 = 0) → rec 2 t_3 li (uI lj 100 0) Q) ∧ (¬ (r_3 = 0) → (vp_in (li 1) 64 ∧ (∀ v_5 : Int64, v_5 = (t_3.2.2.2 0) (li 1).toNatClampNeg → (wqX6_unpaired k t_3  (fun r_6 t_6 => (∀ v_7 : Int64, v_7 = (v_5 &&& r_6) → rec 2 t_6 li (uI lj 100 v_7) Q)))))))))
def wbX11_pairDownwards_2 (rec : Nat → XT → (Nat → Int32) → (Nat → Int64) → (XT → Prop) → Prop) (k : Nat) (t : XT) (li : Nat → Int32) (lj : Nat → Int64) (Q : XT → Prop) : Prop :=
  (∀ v_8 : Int32, v_8 = ((li 1) - 1) → rec 3 t (uI li 4 v_8) (uI lj 2 (lj 100)) Q)
def wbX11_pairDownwards_3 (rec : Nat → XT → (Nat → Int32) → (Nat → Int64) → (XT → Prop) → Prop) (k : Nat) (t : XT) (li : Nat → Int32) (lj : Nat → Int64) (Q : XT → Prop) : Prop :=
  (((li 4) < 0) → rec 5 t li lj Q) ∧ (¬ ((li 4) < 0) → (∀ v_10 : Int32, v_10 = (lg_cmp (lj 2) 0) → ((v_10 = 0) → rec 5 t li lj Q) ∧ (¬ (v_10 = 0) → (wqX11_isIn k (lj 2) (li 4) (fun r_12 => ((r_12 = 0) → rec 4 t li lj Q) ∧ (¬ (r_12 = 0) → (wqX6_staysAcyclic k t (li 4) (li 1) (fun r_14 t_14 => ((r_14 = 0) → rec 4 t_14 li lj Q) ∧ (¬ (r_14 = 0) → (wqX6_unite k t_14 (li 4) (li 1) (fun t_16 => rec 4 t_16 li (uI lj 2 0) Q)))))))))))
def wbX11_pairDownwards_4 (rec : Nat → XT → (Nat → Int32) → (Nat → Int64) → (XT → Prop) → Prop) (k : Nat) (t : XT) (li : Nat → Int32) (lj : Nat → Int64) (Q : XT → Prop) : Prop :=
  (∀ v_17 : Int32, v_17 = (li 4) + Int32.ofInt (-1) → rec 3 t (uI li 4 v_17) lj Q)
def wbX11_pairDownwards_5 (rec : Nat → XT → (Nat → Int32) → (Nat → Int64) → (XT → Prop) → Prop) (k : Nat) (t : XT) (li : Nat → Int32) (lj : Nat → Int64) (Q : XT → Prop) : Prop :=
  (∀ v_18 : Int32, v_18 = (li 1) + Int32.ofInt (-1) → rec 1 t (uI li 1 v_18) lj Q)
def wpX11_pairDownwards : Nat → Nat → XT → (Nat → Int32) → (Nat → Int64) → (XT → Prop) → Prop
  | 0, _, _, _, _, _ => False
  | k + 1, 0, t, li, lj, Q => wbX11_pairDownwards_0 (wpX11_pairDownwards k) k t li lj Q
  | k + 1, 1, t, li, lj, Q => wbX11_pairDownwards_1 (wpX11_pairDownwards k) k t li lj Q
  | k + 1, 2, t, li, lj, Q => wbX11_pairDownwards_2 (wpX11_pairDownwards k) k t li lj Q
  | k + 1, 3, t, li, lj, Q => wbX11_pairDownwards_3 (wpX11_pairDownwards k) k t li lj Q
  | k + 1, 4, t, li, lj, Q => wbX11_pairDownwards_4 (wpX11_pairDownwards k) k t li lj Q
  | k + 1, 5, t, li, lj, Q => wbX11_pairDownwards_5 (wpX11_pairDownwards k) k t li lj Q
  | _ + 1, _, _, _, _, _ => False
def wqX11_pairDownwards (k : Nat) (t : XT)  (Q : XT → Prop) : Prop := wpX11_pairDownwards k 0 t (fun _ => 0) (fun _ => 0) Q
set_option maxHeartbeats 8000000 in
set_option maxRecDepth 100000 in
theorem wkX11_pairDownwards (l : Launch) (D : va_G) (cI cJ cB cZ : ClassId) (ad : Nat → Nat) (k : Nat) (t : XT)  (Q : XT → Prop) (hR : wqX11_pairDownwards k t  Q) : MetV l yX11_pairDownwards wsX11_pairDownwards 3 72 0 0 D (TYS cI cJ cB cZ) (wX cI cJ cB cZ ad t) [.ref (ad 0)] (fun u => Q u) (fun u : XT => (wX cI cJ cB cZ ad u)) := by
  refine x_startV (ty := .int) (cc := cX11_pairDownwards) (by decide) rfl (Nat.le_of_ble_eq_true rfl) ?_
  intro p e s m args below meth c A ls B hr hnm h hl
  have hx := B.1.1
  have hb := B.1.2.1
  have hml := B.1.2.2.1
  have hts := B.1.2.2.2.2
  have hown : s.vm.findClass RX11 = some m.cls := B.1.2.2.2.1
  have hin9 : ∀ w ∈ u_ws RX9 TX9 7, w ∈ wsX11_pairDownwards := by decide +kernel
  have hin11 : ∀ w ∈ u_ws RX11 TX11 11, w ∈ wsX11_pairDownwards := by decide +kernel
  have main : ∀ k : Nat, (∀ (t : XT) (li : Nat → Int32) (lj : Nat → Int64) (H : Heap) (locs : List Loc) (ls : Array Slot), wpX11_pairDownwards k 0 t li lj Q → lv_has ls 5 [(0, .ref (ad 0))] → Hp D A s.heap (wX cI cJ cB cZ ad t) H locs → W p l e { frames := 3, cells := 0, slots := 0, locals := 72 } s m args below meth c H locs 0 0 (MQ below (va_Qv (fun u => Q u) (fun u t => xEnd D ((fun u : XT => (wX cI cJ cB cZ ad u)) u) A t) A) args s 0 0 A) (F0 m 0 ls [])) ∧
      (∀ (t : XT) (li : Nat → Int32) (lj : Nat → Int64) (H : Heap) (locs : List Loc) (ls : Array Slot), wpX11_pairDownwards k 1 t li lj Q → lv_has ls 5 [(0, .ref (ad 0)), (1, .int (li 1))] → Hp D A s.heap (wX cI cJ cB cZ ad t) H locs → W p l e { frames := 3, cells := 0, slots := 0, locals := 72 } s m args below meth c H locs 0 0 (MQ below (va_Qv (fun u => Q u) (fun u t => xEnd D ((fun u : XT => (wX cI cJ cB cZ ad u)) u) A t) A) args s 0 0 A) (F0 m 10 ls [])) ∧
      (∀ (t : XT) (li : Nat → Int32) (lj : Nat → Int64) (H : Heap) (locs : List Loc) (ls : Array Slot), wpX11_pairDownwards k 2 t li lj Q → lv_has ls 5 [(0, .ref (ad 0)), (1, .int (li 1))] → Hp D A s.heap (wX cI cJ cB cZ ad t) H locs → W p l e { frames := 3, cells := 0, slots := 0, locals := 72 } s m args below meth c H locs 0 0 (MQ below (va_Qv (fun u => Q u) (fun u t => xEnd D ((fun u : XT => (wX cI cJ cB cZ ad u)) u) A t) A) args s 0 0 A) (F0 m 46 ls [.long (lj 100)])) ∧
      (∀ (t : XT) (li : Nat → Int32) (lj : Nat → Int64) (H : Heap) (locs : List Loc) (ls : Array Slot), wpX11_pairDownwards k 3 t li lj Q → lv_has ls 5 [(0, .ref (ad 0)), (1, .int (li 1)), (2, .long (lj 2)), (4, .int (li 4))] → Hp D A s.heap (wX cI cJ cB cZ ad t) H locs → W p l e { frames := 3, cells := 0, slots := 0, locals := 72 } s m args below meth c H locs 0 0 (MQ below (va_Qv (fun u => Q u) (fun u t => xEnd D ((fun u : XT => (wX cI cJ cB cZ ad u)) u) A t) A) args s 0 0 A) (F0 m 52 ls [])) ∧
      (∀ (t : XT) (li : Nat → Int32) (lj : Nat → Int64) (H : Heap) (locs : List Loc) (ls : Array Slot), wpX11_pairDownwards k 4 t li lj Q → lv_has ls 5 [(0, .ref (ad 0)), (1, .int (li 1)), (2, .long (lj 2)), (4, .int (li 4))] → Hp D A s.heap (wX cI cJ cB cZ ad t) H locs → W p l e { frames := 3, cells := 0, slots := 0, locals := 72 } s m args below meth c H locs 0 0 (MQ below (va_Qv (fun u => Q u) (fun u t => xEnd D ((fun u : XT => (wX cI cJ cB cZ ad u)) u) A t) A) args s 0 0 A) (F0 m 97 ls [])) ∧
      (∀ (t : XT) (li : Nat → Int32) (lj : Nat → Int64) (H : Heap) (locs : List Loc) (ls : Array Slot), wpX11_pairDownwards k 5 t li lj Q → lv_has ls 5 [(0, .ref (ad 0)), (1, .int (li 1)), (2, .long (lj 2)), (4, .int (li 4))] → Hp D A s.heap (wX cI cJ cB cZ ad t) H locs → W p l e { frames := 3, cells := 0, slots := 0, locals := 72 } s m args below meth c H locs 0 0 (MQ below (va_Qv (fun u => Q u) (fun u t => xEnd D ((fun u : XT => (wX cI cJ cB cZ ad u)) u) A t) A) args s 0 0 A) (F0 m 103 ls [])) := by
    intro k
    induction k with
    | zero => exact ⟨fun _ _ _ _ _ _ hR => False.elim hR, fun _ _ _ _ _ _ hR => False.elim hR, fun _ _ _ _ _ _ hR => False.elim hR, fun _ _ _ _ _ _ hR => False.elim hR, fun _ _ _ _ _ _ hR => False.elim hR, fun _ _ _ _ _ _ hR => False.elim hR⟩
    | succ k ih =>
      refine ⟨?_, ?_, ?_, ?_, ?_, ?_⟩
      · intro t li lj H locs ls hR hl h
        have hR : wbX11_pairDownwards_0 (wpX11_pairDownwards k) k t li lj Q := hR
        unfold wbX11_pairDownwards_0 at hR
        refine lv_aload_n hx hb dX11_pairDownwards_0 rfl (lv_at hl 0 rfl) ?_
        refine x_get (ci := 11) (C := RX11) (T := TX11) (N := 11) (v := .ref (ad 3)) B h hin11 0 2 rfl rfl (by decide) (by decide +kernel) rfl dX11_pairDownwards_1 ?_
        refine x_get (ci := 9) (C := RX9) (T := TX9) (N := 7) (v := .int (t.1 4)) B h hin9 3 0 rfl rfl (by decide) (by decide +kernel) rfl dX11_pairDownwards_4 ?_
        refine lv_iconst (v := 1) hx hb dX11_pairDownwards_7 (by decide) ?_
        refine lv_isub hx hb dX11_pairDownwards_8 ?_
        refine lv_topi (fun v_1 ev_1 => ?_)
        have hR := hR v_1 ev_1
        refine lv_istore_n (lv' := [(1, .int v_1), (0, .ref (ad 0))]) hx hb dX11_pairDownwards_9 rfl hl (by decide) rfl (fun ls hl => ?_)
        exact ih.2.1 t (uI li 1 v_1) lj H locs ls hR (lv_sub hl [1, 0] rfl) h
      · intro t li lj H locs ls hR hl h
        have hR : wbX11_pairDownwards_1 (wpX11_pairDownwards k) k t li lj Q := hR
        unfold wbX11_pairDownwards_1 at hR
        refine lv_iload_n hx hb dX11_pairDownwards_10 rfl (lv_at hl 1 rfl) ?_
        refine lv_if_lt (tgt := 109) hx hb dX11_pairDownwards_11 (by decide) (fun c_2 => ?_) (fun c_2 => ?_)
        · have hR := hR.1 c_2
          exact x_vret (w1 := (fun u : XT => (wX cI cJ cB cZ ad u))) t B h hr hR dX11_pairDownwards_109
        · have hR := hR.2 c_2
          refine lv_aload_n hx hb dX11_pairDownwards_14 rfl (lv_at hl 0 rfl) ?_
          refine x_get (ci := 11) (C := RX11) (T := TX11) (N := 11) (v := .ref (ad 4)) B h hin11 0 3 rfl rfl (by decide) (by decide +kernel) rfl dX11_pairDownwards_15 ?_
          refine lv_iload_n hx hb dX11_pairDownwards_18 rfl (lv_at hl 1 rfl) ?_
          refine x_cVIF (n := 1) (As := [.int (li 1)]) (rest := []) B h (wkX6_isCritical l D cI cJ cB cZ ad k t (li 1) _ hR) ⟨⟨_, rfl⟩, by decide +kernel, Nat.le_of_ble_eq_true rfl, Nat.le_of_ble_eq_true rfl⟩ gX11_pairDownwards_X6_isCritical (show ((wX cI cJ cB cZ ad t) : va_W)[4]? = some (_, .inr (6, _)) from rfl) rfl rfl hl.1 rfl (Nat.le_of_ble_eq_true rfl) dX11_pairDownwards_19 ⟨Nat.le_of_ble_eq_true rfl, Nat.le_of_ble_eq_true rfl⟩ (fun r_3 t_3 H locs hR h => ?_)
          refine lv_if_eq (tgt := 45) hx hb dX11_pairDownwards_22 (by decide) (fun c_4 => ?_) (fun c_4 => ?_)
          · have hR := hR.1 c_4
            refine lv_lconst (v := 0) hx hb dX11_pairDownwards_45 (by decide) ?_
            exact ih.2.2.1 t_3 li (uI lj 100 0) H locs ls hR (lv_sub hl [0, 1] rfl) h
          · have hR := hR.2 c_4
            refine lv_aload_n hx hb dX11_pairDownwards_25 rfl (lv_at hl 0 rfl) ?_
            refine x_get (ci := 11) (C := RX11) (T := TX11) (N := 11) (v := .ref (ad 3)) B h hin11 0 2 rfl rfl (by decide) (by decide +kernel) rfl dX11_pairDownwards_26 ?_
            refine x_get (ci := 9) (C := RX9) (T := TX9) (N := 7) (v := .ref (ad 17)) B h hin9 3 4 rfl rfl (by decide) (by decide +kernel) rfl dX11_pairDownwards_29 ?_
            refine lv_iload_n hx hb dX11_pairDownwards_32 rfl (lv_at hl 1 rfl) ?_
            obtain ⟨hb_5, hR⟩ := hR
            refine va_lald (f := (t_3.2.2.2 0)) hx hb B.2.1 h.1 17 1 rfl rfl hb_5 dX11_pairDownwards_33 ?_
            refine lv_topl (fun v_5 ev_5 => ?_)
            have hR := hR v_5 ev_5
            refine lv_aload_n hx hb dX11_pairDownwards_34 rfl (lv_at hl 0 rfl) ?_
            refine x_get (ci := 11) (C := RX11) (T := TX11) (N := 11) (v := .ref (ad 4)) B h hin11 0 3 rfl rfl (by decide) (by decide +kernel) rfl dX11_pairDownwards_35 ?_
            refine x_cVLF (n := 0) (As := []) (rest := [.long v_5]) B h (wkX6_unpaired l D cI cJ cB cZ ad k t_3  _ hR) ⟨⟨_, rfl⟩, by decide +kernel, Nat.le_of_ble_eq_true rfl, Nat.le_of_ble_eq_true rfl⟩ gX11_pairDownwards_X6_unpaired (show ((wX cI cJ cB cZ ad t_3) : va_W)[4]? = some (_, .inr (6, _)) from rfl) rfl rfl hl.1 rfl (Nat.le_of_ble_eq_true rfl) dX11_pairDownwards_38 ⟨Nat.le_of_ble_eq_true rfl, Nat.le_of_ble_eq_true rfl⟩ (fun r_6 t_6 H locs hR h => ?_)
            refine lv_land hx hb dX11_pairDownwards_41 ?_
            refine lv_topl (fun v_7 ev_7 => ?_)
            have hR := hR v_7 ev_7
            refine lv_goto (tgt := 46) hx hb dX11_pairDownwards_42 (by decide) ?_
            exact ih.2.2.1 t_6 li (uI lj 100 v_7) H locs ls hR (lv_sub hl [0, 1] rfl) h
      · intro t li lj H locs ls hR hl h
        have hR : wbX11_pairDownwards_2 (wpX11_pairDownwards k) k t li lj Q := hR
        unfold wbX11_pairDownwards_2 at hR
        refine lv_lstore_n (lv' := [(2, .long (lj 100)), (0, .ref (ad 0)), (1, .int (li 1))]) hx hb dX11_pairDownwards_46 rfl hl (by decide) rfl (fun ls hl => ?_)
        refine lv_iload_n hx hb dX11_pairDownwards_47 rfl (lv_at hl 2 rfl) ?_
        refine lv_iconst (v := 1) hx hb dX11_pairDownwards_48 (by decide) ?_
        refine lv_isub hx hb dX11_pairDownwards_49 ?_
        refine lv_topi (fun v_8 ev_8 => ?_)
        have hR := hR v_8 ev_8
        refine lv_istore (lv' := [(4, .int v_8), (2, .long (lj 100)), (0, .ref (ad 0)), (1, .int (li 1))]) hx hb dX11_pairDownwards_50 hl (by decide) rfl (fun ls hl => ?_)
        exact ih.2.2.2.1 t (uI li 4 v_8) (uI lj 2 (lj 100)) H locs ls hR (lv_sub hl [2, 3, 1, 0] rfl) h
      · intro t li lj H locs ls hR hl h
        have hR : wbX11_pairDownwards_3 (wpX11_pairDownwards k) k t li lj Q := hR
        unfold wbX11_pairDownwards_3 at hR
        refine lv_iload hx hb dX11_pairDownwards_52 (lv_at hl 3 rfl) ?_
        refine lv_if_lt (tgt := 103) hx hb dX11_pairDownwards_54 (by decide) (fun c_9 => ?_) (fun c_9 => ?_)
        · have hR := hR.1 c_9
          exact ih.2.2.2.2.2 t li lj H locs ls hR (lv_sub hl [0, 1, 2, 3] rfl) h
        · have hR := hR.2 c_9
          refine lv_lload_n hx hb dX11_pairDownwards_57 rfl (lv_at hl 2 rfl) ?_
          refine lv_lconst (v := 0) hx hb dX11_pairDownwards_58 (by decide) ?_
          refine W.lcmp hx hb dX11_pairDownwards_59 ?_
          refine lv_topi (fun v_10 ev_10 => ?_)
          have hR := hR v_10 ev_10
          refine lv_if_eq (tgt := 103) hx hb dX11_pairDownwards_60 (by decide) (fun c_11 => ?_) (fun c_11 => ?_)
          · have hR := hR.1 c_11
            exact ih.2.2.2.2.2 t li lj H locs ls hR (lv_sub hl [0, 1, 2, 3] rfl) h
          · have hR := hR.2 c_11
            refine lv_lload_n hx hb dX11_pairDownwards_63 rfl (lv_at hl 2 rfl) ?_
            refine lv_iload hx hb dX11_pairDownwards_64 (lv_at hl 3 rfl) ?_
            refine x_cSIE (n := 2) (As := [.long (lj 2), .int (li 4)]) (rest := []) B h (wkX11_isIn l D cI cJ cB cZ ad k (lj 2) (li 4) _ hR) ⟨⟨_, rfl⟩, by decide +kernel, Nat.le_of_ble_eq_true rfl, Nat.le_of_ble_eq_true rfl⟩ gX11_pairDownwards_X11_isIn rfl hl.1 rfl (Nat.le_of_ble_eq_true rfl) dX11_pairDownwards_66 ⟨Nat.le_of_ble_eq_true rfl, Nat.le_of_ble_eq_true rfl⟩ (fun r_12 _ H locs hR h => ?_)
            refine lv_if_eq (tgt := 97) hx hb dX11_pairDownwards_69 (by decide) (fun c_13 => ?_) (fun c_13 => ?_)
            · have hR := hR.1 c_13
              exact ih.2.2.2.2.1 t li lj H locs ls hR (lv_sub hl [0, 1, 2, 3] rfl) h
            · have hR := hR.2 c_13
              refine lv_aload_n hx hb dX11_pairDownwards_72 rfl (lv_at hl 0 rfl) ?_
              refine x_get (ci := 11) (C := RX11) (T := TX11) (N := 11) (v := .ref (ad 4)) B h hin11 0 3 rfl rfl (by decide) (by decide +kernel) rfl dX11_pairDownwards_73 ?_
              refine lv_iload hx hb dX11_pairDownwards_76 (lv_at hl 3 rfl) ?_
              refine lv_iload_n hx hb dX11_pairDownwards_78 rfl (lv_at hl 1 rfl) ?_
              refine x_cVIF (n := 2) (As := [.int (li 4), .int (li 1)]) (rest := []) B h (wkX6_staysAcyclic l D cI cJ cB cZ ad k t (li 4) (li 1) _ hR) ⟨⟨_, rfl⟩, by decide +kernel, Nat.le_of_ble_eq_true rfl, Nat.le_of_ble_eq_true rfl⟩ gX11_pairDownwards_X6_staysAcyclic (show ((wX cI cJ cB cZ ad t) : va_W)[4]? = some (_, .inr (6, _)) from rfl) rfl rfl hl.1 rfl (Nat.le_of_ble_eq_true rfl) dX11_pairDownwards_79 ⟨Nat.le_of_ble_eq_true rfl, Nat.le_of_ble_eq_true rfl⟩ (fun r_14 t_14 H locs hR h => ?_)
              refine lv_if_eq (tgt := 97) hx hb dX11_pairDownwards_82 (by decide) (fun c_15 => ?_) (fun c_15 => ?_)
              · have hR := hR.1 c_15
                exact ih.2.2.2.2.1 t_14 li lj H locs ls hR (lv_sub hl [0, 1, 2, 3] rfl) h
              · have hR := hR.2 c_15
                refine lv_aload_n hx hb dX11_pairDownwards_85 rfl (lv_at hl 0 rfl) ?_
                refine x_get (ci := 11) (C := RX11) (T := TX11) (N := 11) (v := .ref (ad 4)) B h hin11 0 3 rfl rfl (by decide) (by decide +kernel) rfl dX11_pairDownwards_86 ?_
                refine lv_iload hx hb dX11_pairDownwards_89 (lv_at hl 3 rfl) ?_
                refine lv_iload_n hx hb dX11_pairDownwards_91 rfl (lv_at hl 1 rfl) ?_
                refine x_cVVF (n := 2) (As := [.int (li 4), .int (li 1)]) (rest := []) B h (wkX6_unite l D cI cJ cB cZ ad k t_14 (li 4) (li 1) _ hR) ⟨⟨_, rfl⟩, by decide +kernel, Nat.le_of_ble_eq_true rfl, Nat.le_of_ble_eq_true rfl⟩ gX11_pairDownwards_X6_unite (show ((wX cI cJ cB cZ ad t_14) : va_W)[4]? = some (_, .inr (6, _)) from rfl) rfl rfl hl.1 rfl (Nat.le_of_ble_eq_true rfl) dX11_pairDownwards_92 ⟨Nat.le_of_ble_eq_true rfl, Nat.le_of_ble_eq_true rfl⟩ (fun t_16 H locs hR h => ?_)
                refine lv_lconst (v := 0) hx hb dX11_pairDownwards_95 (by decide) ?_
                refine lv_lstore_n (lv' := [(2, .long 0), (0, .ref (ad 0)), (1, .int (li 1)), (4, .int (li 4))]) hx hb dX11_pairDownwards_96 rfl hl (by decide) rfl (fun ls hl => ?_)
                exact ih.2.2.2.2.1 t_16 li (uI lj 2 0) H locs ls hR (lv_sub hl [1, 2, 0, 3] rfl) h
      · intro t li lj H locs ls hR hl h
        have hR : wbX11_pairDownwards_4 (wpX11_pairDownwards k) k t li lj Q := hR
        unfold wbX11_pairDownwards_4 at hR
        obtain ⟨v_17, ev_17⟩ : ∃ v : Int32, v = (li 4) + Int32.ofInt (-1) := ⟨_, rfl⟩
        have hR := hR v_17 ev_17
        refine lv_iinc (v := v_17) (lv' := [(4, .int v_17), (0, .ref (ad 0)), (1, .int (li 1)), (2, .long (lj 2))]) hx hb dX11_pairDownwards_97 hl (k := 3) rfl ev_17.symm (by decide) rfl (fun ls hl => ?_)
        refine lv_goto (tgt := 52) hx hb dX11_pairDownwards_100 (by decide) ?_
        exact ih.2.2.2.1 t (uI li 4 v_17) lj H locs ls hR (lv_sub hl [1, 2, 3, 0] rfl) h
      · intro t li lj H locs ls hR hl h
        have hR : wbX11_pairDownwards_5 (wpX11_pairDownwards k) k t li lj Q := hR
        unfold wbX11_pairDownwards_5 at hR
        obtain ⟨v_18, ev_18⟩ : ∃ v : Int32, v = (li 1) + Int32.ofInt (-1) := ⟨_, rfl⟩
        have hR := hR v_18 ev_18
        refine lv_iinc (v := v_18) (lv' := [(1, .int v_18), (0, .ref (ad 0)), (2, .long (lj 2)), (4, .int (li 4))]) hx hb dX11_pairDownwards_103 hl (k := 1) rfl ev_18.symm (by decide) rfl (fun ls hl => ?_)
        refine lv_goto (tgt := 10) hx hb dX11_pairDownwards_106 (by decide) ?_
        exact ih.2.1 t (uI li 1 v_18) lj H locs ls hR (lv_sub hl [1, 0] rfl) h
  exact (main k).1 t _ _ s.heap [] ls hR hl h
set_option maxRecDepth 20000 in
theorem ggX11_pairUpwards_X6_isCritical : GoodIn wsX11_pairUpwards wsX6_isCritical := goodIn_r _ [9, 10, 11, 12, 8, 13, 14, 15, 16, 17, 18, 19, 20, 64, 65, 66, 67, 68, 69] (by decide +kernel) (by decide +kernel)
set_option maxRecDepth 20000 in
theorem gX11_pairUpwards_X6_isCritical : GoodIn wsX11_pairUpwards (wsV RX11 172 RX6 yX6_isCritical wsX6_isCritical) := goodIn_app (goodIn_of _ (by decide +kernel)) ggX11_pairUpwards_X6_isCritical
set_option maxRecDepth 20000 in
theorem ggX11_pairUpwards_X6_unpaired : GoodIn wsX11_pairUpwards wsX6_unpaired := goodIn_r _ [13, 14, 15, 16, 17, 64, 65, 66, 67, 68, 69] (by decide +kernel) (by decide +kernel)
set_option maxRecDepth 20000 in
theorem gX11_pairUpwards_X6_unpaired : GoodIn wsX11_pairUpwards (wsV RX11 232 RX6 yX6_unpaired wsX6_unpaired) := goodIn_app (goodIn_of _ (by decide +kernel)) ggX11_pairUpwards_X6_unpaired
set_option maxRecDepth 20000 in
theorem ggX11_pairUpwards_X11_isIn : GoodIn wsX11_pairUpwards wsX11_isIn := goodIn_r _ [20] (by decide +kernel) (by decide +kernel)
set_option maxRecDepth 20000 in
theorem gX11_pairUpwards_X11_isIn : GoodIn wsX11_pairUpwards (va_wsS RX11 168 yX11_isIn wsX11_isIn) := goodIn_app (goodIn_of _ (by decide +kernel)) ggX11_pairUpwards_X11_isIn
set_option maxRecDepth 20000 in
theorem ggX11_pairUpwards_X6_staysAcyclic : GoodIn wsX11_pairUpwards wsX6_staysAcyclic := goodIn_r _ [26, 27, 28, 17, 15, 29, 30, 19, 31, 32, 33, 34, 35, 36, 37, 38, 39, 40, 18, 20, 64, 65, 66, 67, 68, 69, 57, 58, 59, 60, 61, 62, 63] (by decide +kernel) (by decide +kernel)
set_option maxRecDepth 20000 in
theorem gX11_pairUpwards_X6_staysAcyclic : GoodIn wsX11_pairUpwards (wsV RX11 175 RX6 yX6_staysAcyclic wsX6_staysAcyclic) := goodIn_app (goodIn_of _ (by decide +kernel)) ggX11_pairUpwards_X6_staysAcyclic
set_option maxRecDepth 20000 in
theorem ggX11_pairUpwards_X6_unite : GoodIn wsX11_pairUpwards wsX6_unite := goodIn_r _ [44, 29, 15, 16, 45, 30, 19, 31, 64, 65, 66, 67, 68, 69] (by decide +kernel) (by decide +kernel)
set_option maxRecDepth 20000 in
theorem gX11_pairUpwards_X6_unite : GoodIn wsX11_pairUpwards (wsV RX11 183 RX6 yX6_unite wsX6_unite) := goodIn_app (goodIn_of _ (by decide +kernel)) ggX11_pairUpwards_X6_unite
def wbX11_pairUpwards_0 (rec : Nat → XT → (Nat → Int32) → (Nat → Int64) → (XT → Prop) → Prop) (k : Nat) (t : XT) (li : Nat → Int32) (lj : Nat → Int64) (Q : XT → Prop) : Prop :=
  rec 1 t (uI li 1 0) lj Q
def wbX11_pairUpwards_1 (rec : Nat → XT → (Nat → Int32) → (Nat → Int64) → (XT → Prop) → Prop) (k : Nat) (t : XT) (li : Nat → Int32) (lj : Nat → Int64) (Q : XT → Prop) : Prop :=
  ((((t.1 4) : Int32) ≤ (li 1)) → Q t) ∧ (¬ (((t.1 4) : Int32) ≤ (li 1)) → (wqX6_isCritical k t (li 1) (fun r_2 t_2 => ((r_2 = 0) → rec 2 t_2 li (uI lj 100 0) Q) ∧ (¬ (r_2 = 0) → (vp_in (li 1) 64 ∧ (∀ v_4 : Int64, v_4 = (t_2.2.2.2 1) (li 1).toNatClampNeg → (wqX6_unpaired k t_2  (fun r_5 t_5 => (∀ v_6 : Int64, v_6 = (v_4 &&& r_5) → rec 2 t_5 li (uI lj 100 v_6) Q)))))))))
def wbX11_pairUpwards_2 (rec : Nat → XT → (Nat → Int32) → (Nat → Int64) → (XT → Prop) → Prop) (k : Nat) (t : XT) (li : Nat → Int32) (lj : Nat → Int64) (Q : XT → Prop) : Prop :=
  (∀ v_7 : Int32, v_7 = ((li 1) + 1) → rec 3 t (uI li 4 v_7) (uI lj 2 (lj 100)) Q)
def wbX11_pairUpwards_3 (rec : Nat → XT → (Nat → Int32) → (Nat → Int64) → (XT → Prop) → Prop) (k : Nat) (t : XT) (li : Nat → Int32) (lj : Nat → Int64) (Q : XT → Prop) : Prop :=
  ((((t.1 4) : Int32) ≤ (li 4)) → rec 5 t li lj Q) ∧ (¬ (((t.1 4) : Int32) ≤ (li 4)) → (∀ v_9 : Int32, v_9 = (lg_cmp (lj 2) 0) → ((v_9 = 0) → rec 5 t li lj Q) ∧ (¬ (v_9 = 0) → (wqX11_isIn k (lj 2) (li 4) (fun r_11 => ((r_11 = 0) → rec 4 t li lj Q) ∧ (¬ (r_11 = 0) → (wqX6_staysAcyclic k t (li 1) (li 4) (fun r_13 t_13 => ((r_13 = 0) → rec 4 t_13 li lj Q) ∧ (¬ (r_13 = 0) → (wqX6_unite k t_13 (li 1) (li 4) (fun t_15 => rec 4 t_15 li (uI lj 2 0) Q)))))))))))
def wbX11_pairUpwards_4 (rec : Nat → XT → (Nat → Int32) → (Nat → Int64) → (XT → Prop) → Prop) (k : Nat) (t : XT) (li : Nat → Int32) (lj : Nat → Int64) (Q : XT → Prop) : Prop :=
  (∀ v_16 : Int32, v_16 = (li 4) + Int32.ofInt 1 → rec 3 t (uI li 4 v_16) lj Q)
def wbX11_pairUpwards_5 (rec : Nat → XT → (Nat → Int32) → (Nat → Int64) → (XT → Prop) → Prop) (k : Nat) (t : XT) (li : Nat → Int32) (lj : Nat → Int64) (Q : XT → Prop) : Prop :=
  (∀ v_17 : Int32, v_17 = (li 1) + Int32.ofInt 1 → rec 1 t (uI li 1 v_17) lj Q)
def wpX11_pairUpwards : Nat → Nat → XT → (Nat → Int32) → (Nat → Int64) → (XT → Prop) → Prop
  | 0, _, _, _, _, _ => False
  | k + 1, 0, t, li, lj, Q => wbX11_pairUpwards_0 (wpX11_pairUpwards k) k t li lj Q
  | k + 1, 1, t, li, lj, Q => wbX11_pairUpwards_1 (wpX11_pairUpwards k) k t li lj Q
  | k + 1, 2, t, li, lj, Q => wbX11_pairUpwards_2 (wpX11_pairUpwards k) k t li lj Q
  | k + 1, 3, t, li, lj, Q => wbX11_pairUpwards_3 (wpX11_pairUpwards k) k t li lj Q
  | k + 1, 4, t, li, lj, Q => wbX11_pairUpwards_4 (wpX11_pairUpwards k) k t li lj Q
  | k + 1, 5, t, li, lj, Q => wbX11_pairUpwards_5 (wpX11_pairUpwards k) k t li lj Q
  | _ + 1, _, _, _, _, _ => False
def wqX11_pairUpwards (k : Nat) (t : XT)  (Q : XT → Prop) : Prop := wpX11_pairUpwards k 0 t (fun _ => 0) (fun _ => 0) Q
set_option maxHeartbeats 8000000 in
set_option maxRecDepth 100000 in
theorem wkX11_pairUpwards (l : Launch) (D : va_G) (cI cJ cB cZ : ClassId) (ad : Nat → Nat) (k : Nat) (t : XT)  (Q : XT → Prop) (hR : wqX11_pairUpwards k t  Q) : MetV l yX11_pairUpwards wsX11_pairUpwards 3 72 0 0 D (TYS cI cJ cB cZ) (wX cI cJ cB cZ ad t) [.ref (ad 0)] (fun u => Q u) (fun u : XT => (wX cI cJ cB cZ ad u)) := by
  refine x_startV (ty := .int) (cc := cX11_pairUpwards) (by decide) rfl (Nat.le_of_ble_eq_true rfl) ?_
  intro p e s m args below meth c A ls B hr hnm h hl
  have hx := B.1.1
  have hb := B.1.2.1
  have hml := B.1.2.2.1
  have hts := B.1.2.2.2.2
  have hown : s.vm.findClass RX11 = some m.cls := B.1.2.2.2.1
  have hin9 : ∀ w ∈ u_ws RX9 TX9 7, w ∈ wsX11_pairUpwards := by decide +kernel
  have hin11 : ∀ w ∈ u_ws RX11 TX11 11, w ∈ wsX11_pairUpwards := by decide +kernel
  have main : ∀ k : Nat, (∀ (t : XT) (li : Nat → Int32) (lj : Nat → Int64) (H : Heap) (locs : List Loc) (ls : Array Slot), wpX11_pairUpwards k 0 t li lj Q → lv_has ls 5 [(0, .ref (ad 0))] → Hp D A s.heap (wX cI cJ cB cZ ad t) H locs → W p l e { frames := 3, cells := 0, slots := 0, locals := 72 } s m args below meth c H locs 0 0 (MQ below (va_Qv (fun u => Q u) (fun u t => xEnd D ((fun u : XT => (wX cI cJ cB cZ ad u)) u) A t) A) args s 0 0 A) (F0 m 0 ls [])) ∧
      (∀ (t : XT) (li : Nat → Int32) (lj : Nat → Int64) (H : Heap) (locs : List Loc) (ls : Array Slot), wpX11_pairUpwards k 1 t li lj Q → lv_has ls 5 [(0, .ref (ad 0)), (1, .int (li 1))] → Hp D A s.heap (wX cI cJ cB cZ ad t) H locs → W p l e { frames := 3, cells := 0, slots := 0, locals := 72 } s m args below meth c H locs 0 0 (MQ below (va_Qv (fun u => Q u) (fun u t => xEnd D ((fun u : XT => (wX cI cJ cB cZ ad u)) u) A t) A) args s 0 0 A) (F0 m 2 ls [])) ∧
      (∀ (t : XT) (li : Nat → Int32) (lj : Nat → Int64) (H : Heap) (locs : List Loc) (ls : Array Slot), wpX11_pairUpwards k 2 t li lj Q → lv_has ls 5 [(0, .ref (ad 0)), (1, .int (li 1))] → Hp D A s.heap (wX cI cJ cB cZ ad t) H locs → W p l e { frames := 3, cells := 0, slots := 0, locals := 72 } s m args below meth c H locs 0 0 (MQ below (va_Qv (fun u => Q u) (fun u t => xEnd D ((fun u : XT => (wX cI cJ cB cZ ad u)) u) A t) A) args s 0 0 A) (F0 m 45 ls [.long (lj 100)])) ∧
      (∀ (t : XT) (li : Nat → Int32) (lj : Nat → Int64) (H : Heap) (locs : List Loc) (ls : Array Slot), wpX11_pairUpwards k 3 t li lj Q → lv_has ls 5 [(0, .ref (ad 0)), (1, .int (li 1)), (2, .long (lj 2)), (4, .int (li 4))] → Hp D A s.heap (wX cI cJ cB cZ ad t) H locs → W p l e { frames := 3, cells := 0, slots := 0, locals := 72 } s m args below meth c H locs 0 0 (MQ below (va_Qv (fun u => Q u) (fun u t => xEnd D ((fun u : XT => (wX cI cJ cB cZ ad u)) u) A t) A) args s 0 0 A) (F0 m 51 ls [])) ∧
      (∀ (t : XT) (li : Nat → Int32) (lj : Nat → Int64) (H : Heap) (locs : List Loc) (ls : Array Slot), wpX11_pairUpwards k 4 t li lj Q → lv_has ls 5 [(0, .ref (ad 0)), (1, .int (li 1)), (2, .long (lj 2)), (4, .int (li 4))] → Hp D A s.heap (wX cI cJ cB cZ ad t) H locs → W p l e { frames := 3, cells := 0, slots := 0, locals := 72 } s m args below meth c H locs 0 0 (MQ below (va_Qv (fun u => Q u) (fun u t => xEnd D ((fun u : XT => (wX cI cJ cB cZ ad u)) u) A t) A) args s 0 0 A) (F0 m 103 ls [])) ∧
      (∀ (t : XT) (li : Nat → Int32) (lj : Nat → Int64) (H : Heap) (locs : List Loc) (ls : Array Slot), wpX11_pairUpwards k 5 t li lj Q → lv_has ls 5 [(0, .ref (ad 0)), (1, .int (li 1)), (2, .long (lj 2)), (4, .int (li 4))] → Hp D A s.heap (wX cI cJ cB cZ ad t) H locs → W p l e { frames := 3, cells := 0, slots := 0, locals := 72 } s m args below meth c H locs 0 0 (MQ below (va_Qv (fun u => Q u) (fun u t => xEnd D ((fun u : XT => (wX cI cJ cB cZ ad u)) u) A t) A) args s 0 0 A) (F0 m 109 ls [])) := by
    intro k
    induction k with
    | zero => exact ⟨fun _ _ _ _ _ _ hR => False.elim hR, fun _ _ _ _ _ _ hR => False.elim hR, fun _ _ _ _ _ _ hR => False.elim hR, fun _ _ _ _ _ _ hR => False.elim hR, fun _ _ _ _ _ _ hR => False.elim hR, fun _ _ _ _ _ _ hR => False.elim hR⟩
    | succ k ih =>
      refine ⟨?_, ?_, ?_, ?_, ?_, ?_⟩
      · intro t li lj H locs ls hR hl h
        have hR : wbX11_pairUpwards_0 (wpX11_pairUpwards k) k t li lj Q := hR
        unfold wbX11_pairUpwards_0 at hR
        refine lv_iconst (v := 0) hx hb dX11_pairUpwards_0 (by decide) ?_
        refine lv_istore_n (lv' := [(1, .int 0), (0, .ref (ad 0))]) hx hb dX11_pairUpwards_1 rfl hl (by decide) rfl (fun ls hl => ?_)
        exact ih.2.1 t (uI li 1 0) lj H locs ls hR (lv_sub hl [1, 0] rfl) h
      · intro t li lj H locs ls hR hl h
        have hR : wbX11_pairUpwards_1 (wpX11_pairUpwards k) k t li lj Q := hR
        unfold wbX11_pairUpwards_1 at hR
        refine lv_iload_n hx hb dX11_pairUpwards_2 rfl (lv_at hl 1 rfl) ?_
        refine lv_aload_n hx hb dX11_pairUpwards_3 rfl (lv_at hl 0 rfl) ?_
        refine x_get (ci := 11) (C := RX11) (T := TX11) (N := 11) (v := .ref (ad 3)) B h hin11 0 2 rfl rfl (by decide) (by decide +kernel) rfl dX11_pairUpwards_4 ?_
        refine x_get (ci := 9) (C := RX9) (T := TX9) (N := 7) (v := .int (t.1 4)) B h hin9 3 0 rfl rfl (by decide) (by decide +kernel) rfl dX11_pairUpwards_7 ?_
        refine lv_icmp_ge (tgt := 115) hx hb dX11_pairUpwards_10 (by decide) (fun c_1 => ?_) (fun c_1 => ?_)
        · have hR := hR.1 c_1
          exact x_vret (w1 := (fun u : XT => (wX cI cJ cB cZ ad u))) t B h hr hR dX11_pairUpwards_115
        · have hR := hR.2 c_1
          refine lv_aload_n hx hb dX11_pairUpwards_13 rfl (lv_at hl 0 rfl) ?_
          refine x_get (ci := 11) (C := RX11) (T := TX11) (N := 11) (v := .ref (ad 4)) B h hin11 0 3 rfl rfl (by decide) (by decide +kernel) rfl dX11_pairUpwards_14 ?_
          refine lv_iload_n hx hb dX11_pairUpwards_17 rfl (lv_at hl 1 rfl) ?_
          refine x_cVIF (n := 1) (As := [.int (li 1)]) (rest := []) B h (wkX6_isCritical l D cI cJ cB cZ ad k t (li 1) _ hR) ⟨⟨_, rfl⟩, by decide +kernel, Nat.le_of_ble_eq_true rfl, Nat.le_of_ble_eq_true rfl⟩ gX11_pairUpwards_X6_isCritical (show ((wX cI cJ cB cZ ad t) : va_W)[4]? = some (_, .inr (6, _)) from rfl) rfl rfl hl.1 rfl (Nat.le_of_ble_eq_true rfl) dX11_pairUpwards_18 ⟨Nat.le_of_ble_eq_true rfl, Nat.le_of_ble_eq_true rfl⟩ (fun r_2 t_2 H locs hR h => ?_)
          refine lv_if_eq (tgt := 44) hx hb dX11_pairUpwards_21 (by decide) (fun c_3 => ?_) (fun c_3 => ?_)
          · have hR := hR.1 c_3
            refine lv_lconst (v := 0) hx hb dX11_pairUpwards_44 (by decide) ?_
            exact ih.2.2.1 t_2 li (uI lj 100 0) H locs ls hR (lv_sub hl [0, 1] rfl) h
          · have hR := hR.2 c_3
            refine lv_aload_n hx hb dX11_pairUpwards_24 rfl (lv_at hl 0 rfl) ?_
            refine x_get (ci := 11) (C := RX11) (T := TX11) (N := 11) (v := .ref (ad 3)) B h hin11 0 2 rfl rfl (by decide) (by decide +kernel) rfl dX11_pairUpwards_25 ?_
            refine x_get (ci := 9) (C := RX9) (T := TX9) (N := 7) (v := .ref (ad 18)) B h hin9 3 5 rfl rfl (by decide) (by decide +kernel) rfl dX11_pairUpwards_28 ?_
            refine lv_iload_n hx hb dX11_pairUpwards_31 rfl (lv_at hl 1 rfl) ?_
            obtain ⟨hb_4, hR⟩ := hR
            refine va_lald (f := (t_2.2.2.2 1)) hx hb B.2.1 h.1 18 1 rfl rfl hb_4 dX11_pairUpwards_32 ?_
            refine lv_topl (fun v_4 ev_4 => ?_)
            have hR := hR v_4 ev_4
            refine lv_aload_n hx hb dX11_pairUpwards_33 rfl (lv_at hl 0 rfl) ?_
            refine x_get (ci := 11) (C := RX11) (T := TX11) (N := 11) (v := .ref (ad 4)) B h hin11 0 3 rfl rfl (by decide) (by decide +kernel) rfl dX11_pairUpwards_34 ?_
            refine x_cVLF (n := 0) (As := []) (rest := [.long v_4]) B h (wkX6_unpaired l D cI cJ cB cZ ad k t_2  _ hR) ⟨⟨_, rfl⟩, by decide +kernel, Nat.le_of_ble_eq_true rfl, Nat.le_of_ble_eq_true rfl⟩ gX11_pairUpwards_X6_unpaired (show ((wX cI cJ cB cZ ad t_2) : va_W)[4]? = some (_, .inr (6, _)) from rfl) rfl rfl hl.1 rfl (Nat.le_of_ble_eq_true rfl) dX11_pairUpwards_37 ⟨Nat.le_of_ble_eq_true rfl, Nat.le_of_ble_eq_true rfl⟩ (fun r_5 t_5 H locs hR h => ?_)
            refine lv_land hx hb dX11_pairUpwards_40 ?_
            refine lv_topl (fun v_6 ev_6 => ?_)
            have hR := hR v_6 ev_6
            refine lv_goto (tgt := 45) hx hb dX11_pairUpwards_41 (by decide) ?_
            exact ih.2.2.1 t_5 li (uI lj 100 v_6) H locs ls hR (lv_sub hl [0, 1] rfl) h
      · intro t li lj H locs ls hR hl h
        have hR : wbX11_pairUpwards_2 (wpX11_pairUpwards k) k t li lj Q := hR
        unfold wbX11_pairUpwards_2 at hR
        refine lv_lstore_n (lv' := [(2, .long (lj 100)), (0, .ref (ad 0)), (1, .int (li 1))]) hx hb dX11_pairUpwards_45 rfl hl (by decide) rfl (fun ls hl => ?_)
        refine lv_iload_n hx hb dX11_pairUpwards_46 rfl (lv_at hl 2 rfl) ?_
        refine lv_iconst (v := 1) hx hb dX11_pairUpwards_47 (by decide) ?_
        refine lv_iadd hx hb dX11_pairUpwards_48 ?_
        refine lv_topi (fun v_7 ev_7 => ?_)
        have hR := hR v_7 ev_7
        refine lv_istore (lv' := [(4, .int v_7), (2, .long (lj 100)), (0, .ref (ad 0)), (1, .int (li 1))]) hx hb dX11_pairUpwards_49 hl (by decide) rfl (fun ls hl => ?_)
        exact ih.2.2.2.1 t (uI li 4 v_7) (uI lj 2 (lj 100)) H locs ls hR (lv_sub hl [2, 3, 1, 0] rfl) h
      · intro t li lj H locs ls hR hl h
        have hR : wbX11_pairUpwards_3 (wpX11_pairUpwards k) k t li lj Q := hR
        unfold wbX11_pairUpwards_3 at hR
        refine lv_iload hx hb dX11_pairUpwards_51 (lv_at hl 3 rfl) ?_
        refine lv_aload_n hx hb dX11_pairUpwards_53 rfl (lv_at hl 0 rfl) ?_
        refine x_get (ci := 11) (C := RX11) (T := TX11) (N := 11) (v := .ref (ad 3)) B h hin11 0 2 rfl rfl (by decide) (by decide +kernel) rfl dX11_pairUpwards_54 ?_
        refine x_get (ci := 9) (C := RX9) (T := TX9) (N := 7) (v := .int (t.1 4)) B h hin9 3 0 rfl rfl (by decide) (by decide +kernel) rfl dX11_pairUpwards_57 ?_
        refine lv_icmp_ge (tgt := 109) hx hb dX11_pairUpwards_60 (by decide) (fun c_8 => ?_) (fun c_8 => ?_)
        · have hR := hR.1 c_8
          exact ih.2.2.2.2.2 t li lj H locs ls hR (lv_sub hl [0, 1, 2, 3] rfl) h
        · have hR := hR.2 c_8
          refine lv_lload_n hx hb dX11_pairUpwards_63 rfl (lv_at hl 2 rfl) ?_
          refine lv_lconst (v := 0) hx hb dX11_pairUpwards_64 (by decide) ?_
          refine W.lcmp hx hb dX11_pairUpwards_65 ?_
          refine lv_topi (fun v_9 ev_9 => ?_)
          have hR := hR v_9 ev_9
          refine lv_if_eq (tgt := 109) hx hb dX11_pairUpwards_66 (by decide) (fun c_10 => ?_) (fun c_10 => ?_)
          · have hR := hR.1 c_10
            exact ih.2.2.2.2.2 t li lj H locs ls hR (lv_sub hl [0, 1, 2, 3] rfl) h
          · have hR := hR.2 c_10
            refine lv_lload_n hx hb dX11_pairUpwards_69 rfl (lv_at hl 2 rfl) ?_
            refine lv_iload hx hb dX11_pairUpwards_70 (lv_at hl 3 rfl) ?_
            refine x_cSIE (n := 2) (As := [.long (lj 2), .int (li 4)]) (rest := []) B h (wkX11_isIn l D cI cJ cB cZ ad k (lj 2) (li 4) _ hR) ⟨⟨_, rfl⟩, by decide +kernel, Nat.le_of_ble_eq_true rfl, Nat.le_of_ble_eq_true rfl⟩ gX11_pairUpwards_X11_isIn rfl hl.1 rfl (Nat.le_of_ble_eq_true rfl) dX11_pairUpwards_72 ⟨Nat.le_of_ble_eq_true rfl, Nat.le_of_ble_eq_true rfl⟩ (fun r_11 _ H locs hR h => ?_)
            refine lv_if_eq (tgt := 103) hx hb dX11_pairUpwards_75 (by decide) (fun c_12 => ?_) (fun c_12 => ?_)
            · have hR := hR.1 c_12
              exact ih.2.2.2.2.1 t li lj H locs ls hR (lv_sub hl [0, 1, 2, 3] rfl) h
            · have hR := hR.2 c_12
              refine lv_aload_n hx hb dX11_pairUpwards_78 rfl (lv_at hl 0 rfl) ?_
              refine x_get (ci := 11) (C := RX11) (T := TX11) (N := 11) (v := .ref (ad 4)) B h hin11 0 3 rfl rfl (by decide) (by decide +kernel) rfl dX11_pairUpwards_79 ?_
              refine lv_iload_n hx hb dX11_pairUpwards_82 rfl (lv_at hl 1 rfl) ?_
              refine lv_iload hx hb dX11_pairUpwards_83 (lv_at hl 3 rfl) ?_
              refine x_cVIF (n := 2) (As := [.int (li 1), .int (li 4)]) (rest := []) B h (wkX6_staysAcyclic l D cI cJ cB cZ ad k t (li 1) (li 4) _ hR) ⟨⟨_, rfl⟩, by decide +kernel, Nat.le_of_ble_eq_true rfl, Nat.le_of_ble_eq_true rfl⟩ gX11_pairUpwards_X6_staysAcyclic (show ((wX cI cJ cB cZ ad t) : va_W)[4]? = some (_, .inr (6, _)) from rfl) rfl rfl hl.1 rfl (Nat.le_of_ble_eq_true rfl) dX11_pairUpwards_85 ⟨Nat.le_of_ble_eq_true rfl, Nat.le_of_ble_eq_true rfl⟩ (fun r_13 t_13 H locs hR h => ?_)
              refine lv_if_eq (tgt := 103) hx hb dX11_pairUpwards_88 (by decide) (fun c_14 => ?_) (fun c_14 => ?_)
              · have hR := hR.1 c_14
                exact ih.2.2.2.2.1 t_13 li lj H locs ls hR (lv_sub hl [0, 1, 2, 3] rfl) h
              · have hR := hR.2 c_14
                refine lv_aload_n hx hb dX11_pairUpwards_91 rfl (lv_at hl 0 rfl) ?_
                refine x_get (ci := 11) (C := RX11) (T := TX11) (N := 11) (v := .ref (ad 4)) B h hin11 0 3 rfl rfl (by decide) (by decide +kernel) rfl dX11_pairUpwards_92 ?_
                refine lv_iload_n hx hb dX11_pairUpwards_95 rfl (lv_at hl 1 rfl) ?_
                refine lv_iload hx hb dX11_pairUpwards_96 (lv_at hl 3 rfl) ?_
                refine x_cVVF (n := 2) (As := [.int (li 1), .int (li 4)]) (rest := []) B h (wkX6_unite l D cI cJ cB cZ ad k t_13 (li 1) (li 4) _ hR) ⟨⟨_, rfl⟩, by decide +kernel, Nat.le_of_ble_eq_true rfl, Nat.le_of_ble_eq_true rfl⟩ gX11_pairUpwards_X6_unite (show ((wX cI cJ cB cZ ad t_13) : va_W)[4]? = some (_, .inr (6, _)) from rfl) rfl rfl hl.1 rfl (Nat.le_of_ble_eq_true rfl) dX11_pairUpwards_98 ⟨Nat.le_of_ble_eq_true rfl, Nat.le_of_ble_eq_true rfl⟩ (fun t_15 H locs hR h => ?_)
                refine lv_lconst (v := 0) hx hb dX11_pairUpwards_101 (by decide) ?_
                refine lv_lstore_n (lv' := [(2, .long 0), (0, .ref (ad 0)), (1, .int (li 1)), (4, .int (li 4))]) hx hb dX11_pairUpwards_102 rfl hl (by decide) rfl (fun ls hl => ?_)
                exact ih.2.2.2.2.1 t_15 li (uI lj 2 0) H locs ls hR (lv_sub hl [1, 2, 0, 3] rfl) h
      · intro t li lj H locs ls hR hl h
        have hR : wbX11_pairUpwards_4 (wpX11_pairUpwards k) k t li lj Q := hR
        unfold wbX11_pairUpwards_4 at hR
        obtain ⟨v_16, ev_16⟩ : ∃ v : Int32, v = (li 4) + Int32.ofInt 1 := ⟨_, rfl⟩
        have hR := hR v_16 ev_16
        refine lv_iinc (v := v_16) (lv' := [(4, .int v_16), (0, .ref (ad 0)), (1, .int (li 1)), (2, .long (lj 2))]) hx hb dX11_pairUpwards_103 hl (k := 3) rfl ev_16.symm (by decide) rfl (fun ls hl => ?_)
        refine lv_goto (tgt := 51) hx hb dX11_pairUpwards_106 (by decide) ?_
        exact ih.2.2.2.1 t (uI li 4 v_16) lj H locs ls hR (lv_sub hl [1, 2, 3, 0] rfl) h
      · intro t li lj H locs ls hR hl h
        have hR : wbX11_pairUpwards_5 (wpX11_pairUpwards k) k t li lj Q := hR
        unfold wbX11_pairUpwards_5 at hR
        obtain ⟨v_17, ev_17⟩ : ∃ v : Int32, v = (li 1) + Int32.ofInt 1 := ⟨_, rfl⟩
        have hR := hR v_17 ev_17
        refine lv_iinc (v := v_17) (lv' := [(1, .int v_17), (0, .ref (ad 0)), (2, .long (lj 2)), (4, .int (li 4))]) hx hb dX11_pairUpwards_109 hl (k := 1) rfl ev_17.symm (by decide) rfl (fun ls hl => ?_)
        refine lv_goto (tgt := 2) hx hb dX11_pairUpwards_112 (by decide) ?_
        exact ih.2.1 t (uI li 1 v_17) lj H locs ls hR (lv_sub hl [1, 0] rfl) h
  exact (main k).1 t _ _ s.heap [] ls hR hl h
set_option maxRecDepth 20000 in
theorem ggX11_auto_X3_save : GoodIn wsX11_auto wsX3_save := goodIn_r _ [10, 11, 12, 13, 14, 15, 16, 17, 18, 19, 20, 21, 22, 23, 24, 141, 142, 143, 144, 145, 146, 147, 148, 149, 150] (by decide +kernel) (by decide +kernel)
set_option maxRecDepth 20000 in
theorem gX11_auto_X3_save : GoodIn wsX11_auto (wsV RX11 179 RX3 yX3_save wsX3_save) := goodIn_app (goodIn_of _ (by decide +kernel)) ggX11_auto_X3_save
set_option maxRecDepth 20000 in
theorem ggX11_auto_X6_restart : GoodIn wsX11_auto wsX6_restart := goodIn_r _ [29, 30, 31, 32, 33, 34, 35, 36, 37, 38, 141, 142, 143, 144, 145, 146] (by decide +kernel) (by decide +kernel)
set_option maxRecDepth 20000 in
theorem gX11_auto_X6_restart : GoodIn wsX11_auto (wsV RX11 111 RX6 yX6_restart wsX6_restart) := goodIn_app (goodIn_of _ (by decide +kernel)) ggX11_auto_X6_restart
set_option maxRecDepth 20000 in
theorem ggX11_auto_X11_pairUpwards : GoodIn wsX11_auto wsX11_pairUpwards := goodIn_r _ [43, 1, 2, 4, 44, 45, 46, 47, 28, 48, 49, 50, 51, 52, 31, 32, 33, 53, 54, 42, 55, 56, 57, 58, 59, 60, 61, 62, 63, 30, 64, 65, 66, 67, 68, 69, 70, 71, 72, 73, 74, 75, 76, 77, 78, 34, 123, 124, 125, 126, 127, 128, 129, 130, 131, 132, 133, 134, 135, 136, 137, 138, 139, 140, 141, 142, 143, 144, 145, 146] (by decide +kernel) (by decide +kernel)
set_option maxRecDepth 20000 in
theorem gX11_auto_X11_pairUpwards : GoodIn wsX11_auto (wsV RX11 194 RX11 yX11_pairUpwards wsX11_pairUpwards) := goodIn_app (goodIn_of _ (by decide +kernel)) ggX11_auto_X11_pairUpwards
set_option maxRecDepth 20000 in
theorem ggX11_auto_X11_pairDownwards : GoodIn wsX11_auto wsX11_pairDownwards := goodIn_r _ [82, 1, 2, 4, 83, 45, 46, 47, 28, 48, 49, 50, 51, 52, 31, 32, 33, 53, 54, 42, 55, 56, 57, 58, 59, 60, 61, 62, 63, 30, 64, 65, 66, 67, 68, 69, 70, 71, 72, 73, 74, 75, 76, 77, 78, 34, 123, 124, 125, 126, 127, 128, 129, 130, 131, 132, 133, 134, 135, 136, 137, 138, 139, 140, 141, 142, 143, 144, 145, 146] (by decide +kernel) (by decide +kernel)
set_option maxRecDepth 20000 in
theorem gX11_auto_X11_pairDownwards : GoodIn wsX11_auto (wsV RX11 197 RX11 yX11_pairDownwards wsX11_pairDownwards) := goodIn_app (goodIn_of _ (by decide +kernel)) ggX11_auto_X11_pairDownwards
set_option maxRecDepth 20000 in
theorem ggX11_auto_X11_pairByPeeling : GoodIn wsX11_auto wsX11_pairByPeeling := goodIn_r _ [87, 88, 4, 5, 89, 90, 91, 92, 93, 94, 95, 96, 97, 98, 99, 100, 101, 102, 103, 104, 66, 42, 67, 68, 69, 70, 71, 72, 73, 74, 105, 64, 65, 106, 107, 108, 109, 110, 75, 76, 77, 28, 78, 30, 32, 33, 34, 111, 112, 113, 114, 115, 116, 117, 118, 123, 124, 125, 126, 127, 128, 129, 130, 131, 132, 133, 141, 142, 143, 144, 145, 146, 151, 152, 153, 134, 135, 136, 137, 138, 139, 140] (by decide +kernel) (by decide +kernel)
set_option maxRecDepth 20000 in
theorem gX11_auto_X11_pairByPeeling : GoodIn wsX11_auto (wsV RX11 200 RX11 yX11_pairByPeeling wsX11_pairByPeeling) := goodIn_app (goodIn_of _ (by decide +kernel)) ggX11_auto_X11_pairByPeeling
set_option maxRecDepth 20000 in
theorem ggX11_auto_X11_criticalOnes : GoodIn wsX11_auto wsX11_criticalOnes := goodIn_r _ [122, 4, 56, 50, 51, 28, 52, 31, 32, 33, 53, 68, 69, 70, 71, 72, 73, 74, 123, 124, 125, 126, 127, 128, 129, 130, 131, 132, 133, 141, 142, 143, 144, 145, 146] (by decide +kernel) (by decide +kernel)
set_option maxRecDepth 20000 in
theorem gX11_auto_X11_criticalOnes : GoodIn wsX11_auto (wsV RX11 187 RX11 yX11_criticalOnes wsX11_criticalOnes) := goodIn_app (goodIn_of _ (by decide +kernel)) ggX11_auto_X11_criticalOnes
def wbX11_auto_0 (rec : Nat → XT → (Nat → Int32) → (Nat → Int64) → (Int32 → XT → Prop) → Prop) (k : Nat) (t : XT) (li : Nat → Int32) (lj : Nat → Int64) (Q : Int32 → XT → Prop) : Prop :=
  (((li 1) < 0) → rec 1 t li lj Q) ∧ (¬ ((li 1) < 0) → (((2 : Int32) < (li 1)) → rec 1 t li lj Q) ∧ (¬ ((2 : Int32) < (li 1)) → ((¬ (t.1 4) = 0) → (wqX3_save_c4 k t  (fun t_4 => (wqX6_restart k t_4 (t_4.2.1 0) (fun t_5 => ((¬ (li 1) = 0) → ((¬ (li 1) = 1) → (wqX11_pairByPeeling k t_5  (fun t_8 => rec 2 t_8 li lj Q))) ∧ (((li 1) = 1) → (wqX11_pairDownwards k t_5  (fun t_9 => rec 2 t_9 li lj Q)))) ∧ (((li 1) = 0) → (wqX11_pairUpwards k t_5  (fun t_10 => rec 2 t_10 li lj Q)))))))) ∧ (((t.1 4) = 0) → rec 1 t li lj Q)))
def wbX11_auto_1 (rec : Nat → XT → (Nat → Int32) → (Nat → Int64) → (Int32 → XT → Prop) → Prop) (k : Nat) (t : XT) (li : Nat → Int32) (lj : Nat → Int64) (Q : Int32 → XT → Prop) : Prop :=
  Q (-1) t
def wbX11_auto_2 (rec : Nat → XT → (Nat → Int32) → (Nat → Int64) → (Int32 → XT → Prop) → Prop) (k : Nat) (t : XT) (li : Nat → Int32) (lj : Nat → Int64) (Q : Int32 → XT → Prop) : Prop :=
  (wqX11_criticalOnes k t  (fun r_11 t_11 => Q r_11 t_11))
def wpX11_auto : Nat → Nat → XT → (Nat → Int32) → (Nat → Int64) → (Int32 → XT → Prop) → Prop
  | 0, _, _, _, _, _ => False
  | k + 1, 0, t, li, lj, Q => wbX11_auto_0 (wpX11_auto k) k t li lj Q
  | k + 1, 1, t, li, lj, Q => wbX11_auto_1 (wpX11_auto k) k t li lj Q
  | k + 1, 2, t, li, lj, Q => wbX11_auto_2 (wpX11_auto k) k t li lj Q
  | _ + 1, _, _, _, _, _ => False
def wqX11_auto (k : Nat) (t : XT) (a1 : Int32) (Q : Int32 → XT → Prop) : Prop := wpX11_auto k 0 t (uI (fun _ => 0) 1 a1) (fun _ => 0) Q
set_option maxHeartbeats 8000000 in
set_option maxRecDepth 100000 in
theorem wkX11_auto (l : Launch) (D : va_G) (cI cJ cB cZ : ClassId) (ad : Nat → Nat) (k : Nat) (t : XT) (a1 : Int32) (Q : Int32 → XT → Prop) (hR : wqX11_auto k t a1 Q) : MetI l yX11_auto wsX11_auto 5 113 0 0 D (TYS cI cJ cB cZ) (wX cI cJ cB cZ ad t) [.ref (ad 0), .int a1] (fun r u => Q r u) (fun u : XT => (wX cI cJ cB cZ ad u)) := by
  refine x_startI (ty := .int) (cc := cX11_auto) (by decide) rfl (Nat.le_of_ble_eq_true rfl) ?_
  intro p e s m args below meth c A ls B hr hnm h hl
  have hx := B.1.1
  have hb := B.1.2.1
  have hml := B.1.2.2.1
  have hts := B.1.2.2.2.2
  have hown : s.vm.findClass RX11 = some m.cls := B.1.2.2.2.1
  have hin6 : ∀ w ∈ u_ws RX6 TX6 6, w ∈ wsX11_auto := by decide +kernel
  have hin9 : ∀ w ∈ u_ws RX9 TX9 7, w ∈ wsX11_auto := by decide +kernel
  have hin11 : ∀ w ∈ u_ws RX11 TX11 11, w ∈ wsX11_auto := by decide +kernel
  have main : ∀ k : Nat, (∀ (t : XT) (li : Nat → Int32) (lj : Nat → Int64) (H : Heap) (locs : List Loc) (ls : Array Slot), wpX11_auto k 0 t li lj Q → lv_has ls 2 [(0, .ref (ad 0)), (1, .int (li 1))] → Hp D A s.heap (wX cI cJ cB cZ ad t) H locs → W p l e { frames := 5, cells := 0, slots := 0, locals := 113 } s m args below meth c H locs 0 0 (MQ below (va_Qi (fun r u => Q r u) (fun u t => xEnd D ((fun u : XT => (wX cI cJ cB cZ ad u)) u) A t) A) args s 0 0 A) (F0 m 0 ls [])) ∧
      (∀ (t : XT) (li : Nat → Int32) (lj : Nat → Int64) (H : Heap) (locs : List Loc) (ls : Array Slot), wpX11_auto k 1 t li lj Q → lv_has ls 2 [(0, .ref (ad 0)), (1, .int (li 1))] → Hp D A s.heap (wX cI cJ cB cZ ad t) H locs → W p l e { frames := 5, cells := 0, slots := 0, locals := 113 } s m args below meth c H locs 0 0 (MQ below (va_Qi (fun r u => Q r u) (fun u t => xEnd D ((fun u : XT => (wX cI cJ cB cZ ad u)) u) A t) A) args s 0 0 A) (F0 m 19 ls [])) ∧
      (∀ (t : XT) (li : Nat → Int32) (lj : Nat → Int64) (H : Heap) (locs : List Loc) (ls : Array Slot), wpX11_auto k 2 t li lj Q → lv_has ls 2 [(0, .ref (ad 0)), (1, .int (li 1))] → Hp D A s.heap (wX cI cJ cB cZ ad t) H locs → W p l e { frames := 5, cells := 0, slots := 0, locals := 113 } s m args below meth c H locs 0 0 (MQ below (va_Qi (fun r u => Q r u) (fun u t => xEnd D ((fun u : XT => (wX cI cJ cB cZ ad u)) u) A t) A) args s 0 0 A) (F0 m 73 ls [])) := by
    intro k
    induction k with
    | zero => exact ⟨fun _ _ _ _ _ _ hR => False.elim hR, fun _ _ _ _ _ _ hR => False.elim hR, fun _ _ _ _ _ _ hR => False.elim hR⟩
    | succ k ih =>
      refine ⟨?_, ?_, ?_⟩
      · intro t li lj H locs ls hR hl h
        have hR : wbX11_auto_0 (wpX11_auto k) k t li lj Q := hR
        unfold wbX11_auto_0 at hR
        refine lv_iload_n hx hb dX11_auto_0 rfl (lv_at hl 1 rfl) ?_
        refine lv_if_lt (tgt := 19) hx hb dX11_auto_1 (by decide) (fun c_1 => ?_) (fun c_1 => ?_)
        · have hR := hR.1 c_1
          exact ih.2.1 t li lj H locs ls hR (lv_sub hl [0, 1] rfl) h
        · have hR := hR.2 c_1
          refine lv_iload_n hx hb dX11_auto_4 rfl (lv_at hl 1 rfl) ?_
          refine lv_iconst (v := 2) hx hb dX11_auto_5 (by decide) ?_
          refine lv_icmp_gt (tgt := 19) hx hb dX11_auto_6 (by decide) (fun c_2 => ?_) (fun c_2 => ?_)
          · have hR := hR.1 c_2
            exact ih.2.1 t li lj H locs ls hR (lv_sub hl [0, 1] rfl) h
          · have hR := hR.2 c_2
            refine lv_aload_n hx hb dX11_auto_9 rfl (lv_at hl 0 rfl) ?_
            refine x_get (ci := 11) (C := RX11) (T := TX11) (N := 11) (v := .ref (ad 3)) B h hin11 0 2 rfl rfl (by decide) (by decide +kernel) rfl dX11_auto_10 ?_
            refine x_get (ci := 9) (C := RX9) (T := TX9) (N := 7) (v := .int (t.1 4)) B h hin9 3 0 rfl rfl (by decide) (by decide +kernel) rfl dX11_auto_13 ?_
            refine lv_if_ne (tgt := 21) hx hb dX11_auto_16 (by decide) (fun c_3 => ?_) (fun c_3 => ?_)
            · have hR := hR.1 c_3
              refine lv_aload_n hx hb dX11_auto_21 rfl (lv_at hl 0 rfl) ?_
              refine x_get (ci := 11) (C := RX11) (T := TX11) (N := 11) (v := .ref (ad 9)) B h hin11 0 8 rfl rfl (by decide) (by decide +kernel) rfl dX11_auto_22 ?_
              refine lv_aload_n hx hb dX11_auto_25 rfl (lv_at hl 0 rfl) ?_
              refine x_get (ci := 11) (C := RX11) (T := TX11) (N := 11) (v := .ref (ad 4)) B h hin11 0 3 rfl rfl (by decide) (by decide +kernel) rfl dX11_auto_26 ?_
              refine x_cVVF (n := 1) (As := [.ref (ad 4)]) (rest := []) B h (wkX3_save_c4 l D cI cJ cB cZ ad k t  _ hR) ⟨⟨_, rfl⟩, by decide +kernel, Nat.le_of_ble_eq_true rfl, Nat.le_of_ble_eq_true rfl⟩ gX11_auto_X3_save (show ((wX cI cJ cB cZ ad t) : va_W)[9]? = some (_, .inr (3, _)) from rfl) rfl rfl hl.1 rfl (Nat.le_of_ble_eq_true rfl) dX11_auto_29 ⟨Nat.le_of_ble_eq_true rfl, Nat.le_of_ble_eq_true rfl⟩ (fun t_4 H locs hR h => ?_)
              refine lv_aload_n hx hb dX11_auto_32 rfl (lv_at hl 0 rfl) ?_
              refine x_get (ci := 11) (C := RX11) (T := TX11) (N := 11) (v := .ref (ad 4)) B h hin11 0 3 rfl rfl (by decide) (by decide +kernel) rfl dX11_auto_33 ?_
              refine lv_aload_n hx hb dX11_auto_36 rfl (lv_at hl 0 rfl) ?_
              refine x_get (ci := 11) (C := RX11) (T := TX11) (N := 11) (v := .ref (ad 4)) B h hin11 0 3 rfl rfl (by decide) (by decide +kernel) rfl dX11_auto_37 ?_
              refine x_get (ci := 6) (C := RX6) (T := TX6) (N := 6) (v := .long (t_4.2.1 0)) B h hin6 4 2 rfl rfl (by decide) (by decide +kernel) rfl dX11_auto_40 ?_
              refine x_cVVF (n := 1) (As := [.long (t_4.2.1 0)]) (rest := []) B h (wkX6_restart l D cI cJ cB cZ ad k t_4 (t_4.2.1 0) _ hR) ⟨⟨_, rfl⟩, by decide +kernel, Nat.le_of_ble_eq_true rfl, Nat.le_of_ble_eq_true rfl⟩ gX11_auto_X6_restart (show ((wX cI cJ cB cZ ad t_4) : va_W)[4]? = some (_, .inr (6, _)) from rfl) rfl rfl hl.1 rfl (Nat.le_of_ble_eq_true rfl) dX11_auto_43 ⟨Nat.le_of_ble_eq_true rfl, Nat.le_of_ble_eq_true rfl⟩ (fun t_5 H locs hR h => ?_)
              refine lv_iload_n hx hb dX11_auto_46 rfl (lv_at hl 1 rfl) ?_
              refine lv_if_ne (tgt := 57) hx hb dX11_auto_47 (by decide) (fun c_6 => ?_) (fun c_6 => ?_)
              · have hR := hR.1 c_6
                refine lv_iload_n hx hb dX11_auto_57 rfl (lv_at hl 1 rfl) ?_
                refine lv_iconst (v := 1) hx hb dX11_auto_58 (by decide) ?_
                refine lv_icmp_ne (tgt := 69) hx hb dX11_auto_59 (by decide) (fun c_7 => ?_) (fun c_7 => ?_)
                · have hR := hR.1 c_7
                  refine lv_aload_n hx hb dX11_auto_69 rfl (lv_at hl 0 rfl) ?_
                  refine x_cVVF (n := 0) (As := []) (rest := []) B h (wkX11_pairByPeeling l D cI cJ cB cZ ad k t_5  _ hR) ⟨⟨_, rfl⟩, by decide +kernel, Nat.le_of_ble_eq_true rfl, Nat.le_of_ble_eq_true rfl⟩ gX11_auto_X11_pairByPeeling (show ((wX cI cJ cB cZ ad t_5) : va_W)[0]? = some (_, .inr (11, _)) from rfl) rfl rfl hl.1 rfl (Nat.le_of_ble_eq_true rfl) dX11_auto_70 ⟨Nat.le_of_ble_eq_true rfl, Nat.le_of_ble_eq_true rfl⟩ (fun t_8 H locs hR h => ?_)
                  exact ih.2.2 t_8 li lj H locs ls hR (lv_sub hl [0, 1] rfl) h
                · have hR := hR.2 c_7
                  refine lv_aload_n hx hb dX11_auto_62 rfl (lv_at hl 0 rfl) ?_
                  refine x_cVVF (n := 0) (As := []) (rest := []) B h (wkX11_pairDownwards l D cI cJ cB cZ ad k t_5  _ hR) ⟨⟨_, rfl⟩, by decide +kernel, Nat.le_of_ble_eq_true rfl, Nat.le_of_ble_eq_true rfl⟩ gX11_auto_X11_pairDownwards (show ((wX cI cJ cB cZ ad t_5) : va_W)[0]? = some (_, .inr (11, _)) from rfl) rfl rfl hl.1 rfl (Nat.le_of_ble_eq_true rfl) dX11_auto_63 ⟨Nat.le_of_ble_eq_true rfl, Nat.le_of_ble_eq_true rfl⟩ (fun t_9 H locs hR h => ?_)
                  refine lv_goto (tgt := 73) hx hb dX11_auto_66 (by decide) ?_
                  exact ih.2.2 t_9 li lj H locs ls hR (lv_sub hl [0, 1] rfl) h
              · have hR := hR.2 c_6
                refine lv_aload_n hx hb dX11_auto_50 rfl (lv_at hl 0 rfl) ?_
                refine x_cVVF (n := 0) (As := []) (rest := []) B h (wkX11_pairUpwards l D cI cJ cB cZ ad k t_5  _ hR) ⟨⟨_, rfl⟩, by decide +kernel, Nat.le_of_ble_eq_true rfl, Nat.le_of_ble_eq_true rfl⟩ gX11_auto_X11_pairUpwards (show ((wX cI cJ cB cZ ad t_5) : va_W)[0]? = some (_, .inr (11, _)) from rfl) rfl rfl hl.1 rfl (Nat.le_of_ble_eq_true rfl) dX11_auto_51 ⟨Nat.le_of_ble_eq_true rfl, Nat.le_of_ble_eq_true rfl⟩ (fun t_10 H locs hR h => ?_)
                refine lv_goto (tgt := 73) hx hb dX11_auto_54 (by decide) ?_
                exact ih.2.2 t_10 li lj H locs ls hR (lv_sub hl [0, 1] rfl) h
            · have hR := hR.2 c_3
              exact ih.2.1 t li lj H locs ls hR (lv_sub hl [0, 1] rfl) h
      · intro t li lj H locs ls hR hl h
        have hR : wbX11_auto_1 (wpX11_auto k) k t li lj Q := hR
        unfold wbX11_auto_1 at hR
        refine lv_iconst (v := (-1)) hx hb dX11_auto_19 (by decide) ?_
        exact x_iret (w1 := (fun u : XT => (wX cI cJ cB cZ ad u))) t B h hr rfl hR dX11_auto_20
      · intro t li lj H locs ls hR hl h
        have hR : wbX11_auto_2 (wpX11_auto k) k t li lj Q := hR
        unfold wbX11_auto_2 at hR
        refine lv_aload_n hx hb dX11_auto_73 rfl (lv_at hl 0 rfl) ?_
        refine x_cVIF (n := 0) (As := []) (rest := []) B h (wkX11_criticalOnes l D cI cJ cB cZ ad k t  _ hR) ⟨⟨_, rfl⟩, by decide +kernel, Nat.le_of_ble_eq_true rfl, Nat.le_of_ble_eq_true rfl⟩ gX11_auto_X11_criticalOnes (show ((wX cI cJ cB cZ ad t) : va_W)[0]? = some (_, .inr (11, _)) from rfl) rfl rfl hl.1 rfl (Nat.le_of_ble_eq_true rfl) dX11_auto_74 ⟨Nat.le_of_ble_eq_true rfl, Nat.le_of_ble_eq_true rfl⟩ (fun r_11 t_11 H locs hR h => ?_)
        exact x_iret (w1 := (fun u : XT => (wX cI cJ cB cZ ad u))) t_11 B h hr rfl hR dX11_auto_77
  exact (main k).1 t _ _ s.heap [] ls hR hl h
set_option maxRecDepth 20000 in
theorem ggX11_areEnds_X11_isThere : GoodIn wsX11_areEnds wsX11_isThere := goodIn_r _ [8, 1, 3, 9, 10, 11, 12, 13, 14, 15, 16, 17, 7, 18, 32, 33, 34, 35, 36, 37, 38, 39, 40, 41, 42, 50, 51, 52, 53, 54, 55, 43, 44, 45, 46, 47, 48, 49] (by decide +kernel) (by decide +kernel)
set_option maxRecDepth 20000 in
theorem gX11_areEnds_X11_isThere : GoodIn wsX11_areEnds (wsV RX11 130 RX11 yX11_isThere wsX11_isThere) := goodIn_app (goodIn_of _ (by decide +kernel)) ggX11_areEnds_X11_isThere
set_option maxRecDepth 20000 in
theorem ggX11_areEnds_X6_isCritical : GoodIn wsX11_areEnds wsX6_isCritical := goodIn_r _ [23, 24, 25, 26, 22, 27, 28, 29, 30, 31, 17, 7, 18, 50, 51, 52, 53, 54, 55] (by decide +kernel) (by decide +kernel)
set_option maxRecDepth 20000 in
theorem gX11_areEnds_X6_isCritical : GoodIn wsX11_areEnds (wsV RX11 172 RX6 yX6_isCritical wsX6_isCritical) := goodIn_app (goodIn_of _ (by decide +kernel)) ggX11_areEnds_X6_isCritical
def wbX11_areEnds_0 (rec : Nat → XT → (Nat → Int32) → (Nat → Int64) → (Int32 → XT → Prop) → Prop) (k : Nat) (t : XT) (li : Nat → Int32) (lj : Nat → Int64) (Q : Int32 → XT → Prop) : Prop :=
  (wqX11_isThere k t (li 1) (fun r_1 t_1 => ((r_1 = 0) → rec 1 t_1 li lj Q) ∧ (¬ (r_1 = 0) → (wqX11_isThere k t_1 (li 2) (fun r_3 t_3 => ((¬ r_3 = 0) → (vp_in (li 1) 64 ∧ (∀ v_5 : Int32, v_5 = (t_3.2.2.1 3) (li 1).toNatClampNeg → (vp_in (li 2) 64 ∧ (∀ v_6 : Int32, v_6 = (t_3.2.2.1 3) (li 2).toNatClampNeg → (∀ v_7 : Int32, v_7 = (v_6 + 1) → ((v_5 = v_7) → (wqX6_isCritical k t_3 (li 1) (fun r_9 t_9 => ((r_9 = 0) → rec 2 t_9 li lj Q) ∧ (¬ (r_9 = 0) → (wqX6_isCritical k t_9 (li 2) (fun r_11 t_11 => ((r_11 = 0) → rec 2 t_11 li lj Q) ∧ (¬ (r_11 = 0) → Q 1 t_11))))))) ∧ (¬ (v_5 = v_7) → Q 0 t_3))))))) ∧ ((r_3 = 0) → rec 1 t_3 li lj Q))))))
def wbX11_areEnds_1 (rec : Nat → XT → (Nat → Int32) → (Nat → Int64) → (Int32 → XT → Prop) → Prop) (k : Nat) (t : XT) (li : Nat → Int32) (lj : Nat → Int64) (Q : Int32 → XT → Prop) : Prop :=
  Q 0 t
def wbX11_areEnds_2 (rec : Nat → XT → (Nat → Int32) → (Nat → Int64) → (Int32 → XT → Prop) → Prop) (k : Nat) (t : XT) (li : Nat → Int32) (lj : Nat → Int64) (Q : Int32 → XT → Prop) : Prop :=
  Q 0 t
def wpX11_areEnds : Nat → Nat → XT → (Nat → Int32) → (Nat → Int64) → (Int32 → XT → Prop) → Prop
  | 0, _, _, _, _, _ => False
  | k + 1, 0, t, li, lj, Q => wbX11_areEnds_0 (wpX11_areEnds k) k t li lj Q
  | k + 1, 1, t, li, lj, Q => wbX11_areEnds_1 (wpX11_areEnds k) k t li lj Q
  | k + 1, 2, t, li, lj, Q => wbX11_areEnds_2 (wpX11_areEnds k) k t li lj Q
  | _ + 1, _, _, _, _, _ => False
def wqX11_areEnds (k : Nat) (t : XT) (a1 : Int32) (a2 : Int32) (Q : Int32 → XT → Prop) : Prop := wpX11_areEnds k 0 t (uI (uI (fun _ => 0) 1 a1) 2 a2) (fun _ => 0) Q
set_option maxHeartbeats 8000000 in
set_option maxRecDepth 100000 in
theorem wkX11_areEnds (l : Launch) (D : va_G) (cI cJ cB cZ : ClassId) (ad : Nat → Nat) (k : Nat) (t : XT) (a1 : Int32) (a2 : Int32) (Q : Int32 → XT → Prop) (hR : wqX11_areEnds k t a1 a2 Q) : MetI l yX11_areEnds wsX11_areEnds 2 43 0 0 D (TYS cI cJ cB cZ) (wX cI cJ cB cZ ad t) [.ref (ad 0), .int a1, .int a2] (fun r u => Q r u) (fun u : XT => (wX cI cJ cB cZ ad u)) := by
  refine x_startI (ty := .boolean) (cc := cX11_areEnds) (by decide) rfl (Nat.le_of_ble_eq_true rfl) ?_
  intro p e s m args below meth c A ls B hr hnm h hl
  have hx := B.1.1
  have hb := B.1.2.1
  have hml := B.1.2.2.1
  have hts := B.1.2.2.2.2
  have hown : s.vm.findClass RX11 = some m.cls := B.1.2.2.2.1
  have hin9 : ∀ w ∈ u_ws RX9 TX9 7, w ∈ wsX11_areEnds := by decide +kernel
  have hin11 : ∀ w ∈ u_ws RX11 TX11 11, w ∈ wsX11_areEnds := by decide +kernel
  have main : ∀ k : Nat, (∀ (t : XT) (li : Nat → Int32) (lj : Nat → Int64) (H : Heap) (locs : List Loc) (ls : Array Slot), wpX11_areEnds k 0 t li lj Q → lv_has ls 3 [(0, .ref (ad 0)), (1, .int (li 1)), (2, .int (li 2))] → Hp D A s.heap (wX cI cJ cB cZ ad t) H locs → W p l e { frames := 2, cells := 0, slots := 0, locals := 43 } s m args below meth c H locs 0 0 (MQ below (va_Qi (fun r u => Q r u) (fun u t => xEnd D ((fun u : XT => (wX cI cJ cB cZ ad u)) u) A t) A) args s 0 0 A) (F0 m 0 ls [])) ∧
      (∀ (t : XT) (li : Nat → Int32) (lj : Nat → Int64) (H : Heap) (locs : List Loc) (ls : Array Slot), wpX11_areEnds k 1 t li lj Q → lv_has ls 3 [(0, .ref (ad 0)), (1, .int (li 1)), (2, .int (li 2))] → Hp D A s.heap (wX cI cJ cB cZ ad t) H locs → W p l e { frames := 2, cells := 0, slots := 0, locals := 43 } s m args below meth c H locs 0 0 (MQ below (va_Qi (fun r u => Q r u) (fun u t => xEnd D ((fun u : XT => (wX cI cJ cB cZ ad u)) u) A t) A) args s 0 0 A) (F0 m 16 ls [])) ∧
      (∀ (t : XT) (li : Nat → Int32) (lj : Nat → Int64) (H : Heap) (locs : List Loc) (ls : Array Slot), wpX11_areEnds k 2 t li lj Q → lv_has ls 3 [(0, .ref (ad 0)), (1, .int (li 1)), (2, .int (li 2))] → Hp D A s.heap (wX cI cJ cB cZ ad t) H locs → W p l e { frames := 2, cells := 0, slots := 0, locals := 43 } s m args below meth c H locs 0 0 (MQ below (va_Qi (fun r u => Q r u) (fun u t => xEnd D ((fun u : XT => (wX cI cJ cB cZ ad u)) u) A t) A) args s 0 0 A) (F0 m 69 ls [])) := by
    intro k
    induction k with
    | zero => exact ⟨fun _ _ _ _ _ _ hR => False.elim hR, fun _ _ _ _ _ _ hR => False.elim hR, fun _ _ _ _ _ _ hR => False.elim hR⟩
    | succ k ih =>
      refine ⟨?_, ?_, ?_⟩
      · intro t li lj H locs ls hR hl h
        have hR : wbX11_areEnds_0 (wpX11_areEnds k) k t li lj Q := hR
        unfold wbX11_areEnds_0 at hR
        refine lv_aload_n hx hb dX11_areEnds_0 rfl (lv_at hl 0 rfl) ?_
        refine lv_iload_n hx hb dX11_areEnds_1 rfl (lv_at hl 1 rfl) ?_
        refine x_cVIF (n := 1) (As := [.int (li 1)]) (rest := []) B h (wkX11_isThere l D cI cJ cB cZ ad k t (li 1) _ hR) ⟨⟨_, rfl⟩, by decide +kernel, Nat.le_of_ble_eq_true rfl, Nat.le_of_ble_eq_true rfl⟩ gX11_areEnds_X11_isThere (show ((wX cI cJ cB cZ ad t) : va_W)[0]? = some (_, .inr (11, _)) from rfl) rfl rfl hl.1 rfl (Nat.le_of_ble_eq_true rfl) dX11_areEnds_2 ⟨Nat.le_of_ble_eq_true rfl, Nat.le_of_ble_eq_true rfl⟩ (fun r_1 t_1 H locs hR h => ?_)
        refine lv_if_eq (tgt := 16) hx hb dX11_areEnds_5 (by decide) (fun c_2 => ?_) (fun c_2 => ?_)
        · have hR := hR.1 c_2
          exact ih.2.1 t_1 li lj H locs ls hR (lv_sub hl [0, 1, 2] rfl) h
        · have hR := hR.2 c_2
          refine lv_aload_n hx hb dX11_areEnds_8 rfl (lv_at hl 0 rfl) ?_
          refine lv_iload_n hx hb dX11_areEnds_9 rfl (lv_at hl 2 rfl) ?_
          refine x_cVIF (n := 1) (As := [.int (li 2)]) (rest := []) B h (wkX11_isThere l D cI cJ cB cZ ad k t_1 (li 2) _ hR) ⟨⟨_, rfl⟩, by decide +kernel, Nat.le_of_ble_eq_true rfl, Nat.le_of_ble_eq_true rfl⟩ gX11_areEnds_X11_isThere (show ((wX cI cJ cB cZ ad t_1) : va_W)[0]? = some (_, .inr (11, _)) from rfl) rfl rfl hl.1 rfl (Nat.le_of_ble_eq_true rfl) dX11_areEnds_10 ⟨Nat.le_of_ble_eq_true rfl, Nat.le_of_ble_eq_true rfl⟩ (fun r_3 t_3 H locs hR h => ?_)
          refine lv_if_ne (tgt := 18) hx hb dX11_areEnds_13 (by decide) (fun c_4 => ?_) (fun c_4 => ?_)
          · have hR := hR.1 c_4
            refine lv_aload_n hx hb dX11_areEnds_18 rfl (lv_at hl 0 rfl) ?_
            refine x_get (ci := 11) (C := RX11) (T := TX11) (N := 11) (v := .ref (ad 3)) B h hin11 0 2 rfl rfl (by decide) (by decide +kernel) rfl dX11_areEnds_19 ?_
            refine x_get (ci := 9) (C := RX9) (T := TX9) (N := 7) (v := .ref (ad 15)) B h hin9 3 2 rfl rfl (by decide) (by decide +kernel) rfl dX11_areEnds_22 ?_
            refine lv_iload_n hx hb dX11_areEnds_25 rfl (lv_at hl 1 rfl) ?_
            obtain ⟨hb_5, hR⟩ := hR
            refine va_iald (f := (t_3.2.2.1 3)) hx hb B.2.1 h.1 15 0 rfl rfl hb_5 dX11_areEnds_26 ?_
            refine lv_topi (fun v_5 ev_5 => ?_)
            have hR := hR v_5 ev_5
            refine lv_aload_n hx hb dX11_areEnds_27 rfl (lv_at hl 0 rfl) ?_
            refine x_get (ci := 11) (C := RX11) (T := TX11) (N := 11) (v := .ref (ad 3)) B h hin11 0 2 rfl rfl (by decide) (by decide +kernel) rfl dX11_areEnds_28 ?_
            refine x_get (ci := 9) (C := RX9) (T := TX9) (N := 7) (v := .ref (ad 15)) B h hin9 3 2 rfl rfl (by decide) (by decide +kernel) rfl dX11_areEnds_31 ?_
            refine lv_iload_n hx hb dX11_areEnds_34 rfl (lv_at hl 2 rfl) ?_
            obtain ⟨hb_6, hR⟩ := hR
            refine va_iald (f := (t_3.2.2.1 3)) hx hb B.2.1 h.1 15 0 rfl rfl hb_6 dX11_areEnds_35 ?_
            refine lv_topi (fun v_6 ev_6 => ?_)
            have hR := hR v_6 ev_6
            refine lv_iconst (v := 1) hx hb dX11_areEnds_36 (by decide) ?_
            refine lv_iadd hx hb dX11_areEnds_37 ?_
            refine lv_topi (fun v_7 ev_7 => ?_)
            have hR := hR v_7 ev_7
            refine lv_icmp_eq (tgt := 43) hx hb dX11_areEnds_38 (by decide) (fun c_8 => ?_) (fun c_8 => ?_)
            · have hR := hR.1 c_8
              refine lv_aload_n hx hb dX11_areEnds_43 rfl (lv_at hl 0 rfl) ?_
              refine x_get (ci := 11) (C := RX11) (T := TX11) (N := 11) (v := .ref (ad 4)) B h hin11 0 3 rfl rfl (by decide) (by decide +kernel) rfl dX11_areEnds_44 ?_
              refine lv_iload_n hx hb dX11_areEnds_47 rfl (lv_at hl 1 rfl) ?_
              refine x_cVIF (n := 1) (As := [.int (li 1)]) (rest := []) B h (wkX6_isCritical l D cI cJ cB cZ ad k t_3 (li 1) _ hR) ⟨⟨_, rfl⟩, by decide +kernel, Nat.le_of_ble_eq_true rfl, Nat.le_of_ble_eq_true rfl⟩ gX11_areEnds_X6_isCritical (show ((wX cI cJ cB cZ ad t_3) : va_W)[4]? = some (_, .inr (6, _)) from rfl) rfl rfl hl.1 rfl (Nat.le_of_ble_eq_true rfl) dX11_areEnds_48 ⟨Nat.le_of_ble_eq_true rfl, Nat.le_of_ble_eq_true rfl⟩ (fun r_9 t_9 H locs hR h => ?_)
              refine lv_if_eq (tgt := 69) hx hb dX11_areEnds_51 (by decide) (fun c_10 => ?_) (fun c_10 => ?_)
              · have hR := hR.1 c_10
                exact ih.2.2 t_9 li lj H locs ls hR (lv_sub hl [0, 1, 2] rfl) h
              · have hR := hR.2 c_10
                refine lv_aload_n hx hb dX11_areEnds_54 rfl (lv_at hl 0 rfl) ?_
                refine x_get (ci := 11) (C := RX11) (T := TX11) (N := 11) (v := .ref (ad 4)) B h hin11 0 3 rfl rfl (by decide) (by decide +kernel) rfl dX11_areEnds_55 ?_
                refine lv_iload_n hx hb dX11_areEnds_58 rfl (lv_at hl 2 rfl) ?_
                refine x_cVIF (n := 1) (As := [.int (li 2)]) (rest := []) B h (wkX6_isCritical l D cI cJ cB cZ ad k t_9 (li 2) _ hR) ⟨⟨_, rfl⟩, by decide +kernel, Nat.le_of_ble_eq_true rfl, Nat.le_of_ble_eq_true rfl⟩ gX11_areEnds_X6_isCritical (show ((wX cI cJ cB cZ ad t_9) : va_W)[4]? = some (_, .inr (6, _)) from rfl) rfl rfl hl.1 rfl (Nat.le_of_ble_eq_true rfl) dX11_areEnds_59 ⟨Nat.le_of_ble_eq_true rfl, Nat.le_of_ble_eq_true rfl⟩ (fun r_11 t_11 H locs hR h => ?_)
                refine lv_if_eq (tgt := 69) hx hb dX11_areEnds_62 (by decide) (fun c_12 => ?_) (fun c_12 => ?_)
                · have hR := hR.1 c_12
                  exact ih.2.2 t_11 li lj H locs ls hR (lv_sub hl [0, 1, 2] rfl) h
                · have hR := hR.2 c_12
                  refine lv_iconst (v := 1) hx hb dX11_areEnds_65 (by decide) ?_
                  refine lv_goto (tgt := 70) hx hb dX11_areEnds_66 (by decide) ?_
                  exact x_iret (w1 := (fun u : XT => (wX cI cJ cB cZ ad u))) t_11 B h hr rfl hR dX11_areEnds_70
            · have hR := hR.2 c_8
              refine lv_iconst (v := 0) hx hb dX11_areEnds_41 (by decide) ?_
              exact x_iret (w1 := (fun u : XT => (wX cI cJ cB cZ ad u))) t_3 B h hr rfl hR dX11_areEnds_42
          · have hR := hR.2 c_4
            exact ih.2.1 t_3 li lj H locs ls hR (lv_sub hl [0, 1, 2] rfl) h
      · intro t li lj H locs ls hR hl h
        have hR : wbX11_areEnds_1 (wpX11_areEnds k) k t li lj Q := hR
        unfold wbX11_areEnds_1 at hR
        refine lv_iconst (v := 0) hx hb dX11_areEnds_16 (by decide) ?_
        exact x_iret (w1 := (fun u : XT => (wX cI cJ cB cZ ad u))) t B h hr rfl hR dX11_areEnds_17
      · intro t li lj H locs ls hR hl h
        have hR : wbX11_areEnds_2 (wpX11_areEnds k) k t li lj Q := hR
        unfold wbX11_areEnds_2 at hR
        refine lv_iconst (v := 0) hx hb dX11_areEnds_69 (by decide) ?_
        exact x_iret (w1 := (fun u : XT => (wX cI cJ cB cZ ad u))) t B h hr rfl hR dX11_areEnds_70
  exact (main k).1 t _ _ s.heap [] ls hR hl h
