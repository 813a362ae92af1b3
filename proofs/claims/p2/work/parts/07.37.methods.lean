set_option maxRecDepth 20000 in
theorem ggX11_cancel_X11_areEnds : GoodIn wsX11_cancel wsX11_areEnds := goodIn_r _ [9, 10, 11, 3, 12, 13, 14, 8, 15, 16, 17, 18, 19, 20, 21, 22, 23, 24, 25, 26, 27, 28, 29, 30, 31, 32, 33, 34, 35, 36, 37, 38, 147, 148, 149, 150, 151, 152, 153, 154, 155, 156, 157, 165, 166, 167, 168, 169, 170, 171, 172, 173, 174, 175, 176, 177] (by decide +kernel) (by decide +kernel)
set_option maxRecDepth 20000 in
theorem gX11_cancel_X11_areEnds : GoodIn wsX11_cancel (wsV RX11 203 RX11 yX11_areEnds wsX11_areEnds) := goodIn_app (goodIn_of _ (by decide +kernel)) ggX11_cancel_X11_areEnds
set_option maxRecDepth 20000 in
theorem ggX11_cancel_X1_countWays : GoodIn wsX11_cancel wsX1_countWays := goodIn_r _ [43, 44, 45, 46, 47, 48, 49, 50, 51, 52, 53, 54, 55, 56, 57, 58, 59, 60, 61, 62, 63, 64, 65, 66, 67, 68, 69, 70, 71, 72, 73, 74, 24, 8, 25, 75, 76, 77, 29, 78, 79, 80, 81, 82, 83, 84, 85, 86, 87, 88, 89, 42, 90, 91, 92, 93, 94, 38, 95, 96, 97, 98, 99, 100, 101, 102, 103, 158, 159, 160, 161, 162, 163, 164, 178, 179, 180, 181, 182, 183, 165, 166, 167, 168, 169, 170, 171, 172, 173, 174, 175, 176, 177] (by decide +kernel) (by decide +kernel)
set_option maxRecDepth 20000 in
theorem gX11_cancel_X1_countWays : GoodIn wsX11_cancel (wsV RX11 206 RX1 yX1_countWays wsX1_countWays) := goodIn_app (goodIn_of _ (by decide +kernel)) ggX11_cancel_X1_countWays
set_option maxRecDepth 20000 in
theorem ggX11_cancel_X3_save : GoodIn wsX11_cancel wsX3_save := goodIn_r _ [108, 109, 110, 111, 112, 113, 114, 115, 116, 117, 118, 119, 120, 121, 122, 172, 173, 174, 175, 176, 177, 184, 185, 186, 187] (by decide +kernel) (by decide +kernel)
set_option maxRecDepth 20000 in
theorem gX11_cancel_X3_save : GoodIn wsX11_cancel (wsV RX11 179 RX3 yX3_save wsX3_save) := goodIn_app (goodIn_of _ (by decide +kernel)) ggX11_cancel_X3_save
set_option maxRecDepth 20000 in
theorem ggX11_cancel_X1_trace : GoodIn wsX11_cancel wsX1_trace := goodIn_r _ [126, 127, 128, 50, 51, 129, 130, 131, 42, 132, 45, 91, 92, 93, 29, 94, 79, 80, 81, 38, 95, 8, 96, 97, 98, 99, 100, 101, 102, 103, 158, 159, 160, 161, 162, 163, 164, 172, 173, 174, 175, 176, 177, 165, 166, 167, 168, 169, 170, 171] (by decide +kernel) (by decide +kernel)
set_option maxRecDepth 20000 in
theorem gX11_cancel_X1_trace : GoodIn wsX11_cancel (wsV RX11 210 RX1 yX1_trace wsX1_trace) := goodIn_app (goodIn_of _ (by decide +kernel)) ggX11_cancel_X1_trace
set_option maxRecDepth 20000 in
theorem ggX11_cancel_X6_divide : GoodIn wsX11_cancel wsX6_divide := goodIn_r _ [136, 79, 38, 36, 37, 137, 82, 8, 83, 172, 173, 174, 175, 176, 177] (by decide +kernel) (by decide +kernel)
set_option maxRecDepth 20000 in
theorem gX11_cancel_X6_divide : GoodIn wsX11_cancel (wsV RX11 191 RX6 yX6_divide wsX6_divide) := goodIn_app (goodIn_of _ (by decide +kernel)) ggX11_cancel_X6_divide
set_option maxRecDepth 20000 in
theorem ggX11_cancel_X6_unite : GoodIn wsX11_cancel wsX6_unite := goodIn_r _ [141, 79, 36, 37, 137, 82, 8, 83, 172, 173, 174, 175, 176, 177] (by decide +kernel) (by decide +kernel)
set_option maxRecDepth 20000 in
theorem gX11_cancel_X6_unite : GoodIn wsX11_cancel (wsV RX11 183 RX6 yX6_unite wsX6_unite) := goodIn_app (goodIn_of _ (by decide +kernel)) ggX11_cancel_X6_unite
set_option maxRecDepth 20000 in
theorem ggX11_cancel_X11_criticalOnes : GoodIn wsX11_cancel wsX11_criticalOnes := goodIn_r _ [145, 3, 146, 32, 33, 29, 34, 35, 36, 37, 38, 97, 98, 99, 100, 101, 102, 103, 147, 148, 149, 150, 151, 152, 153, 154, 155, 156, 157, 172, 173, 174, 175, 176, 177] (by decide +kernel) (by decide +kernel)
set_option maxRecDepth 20000 in
theorem gX11_cancel_X11_criticalOnes : GoodIn wsX11_cancel (wsV RX11 187 RX11 yX11_criticalOnes wsX11_criticalOnes) := goodIn_app (goodIn_of _ (by decide +kernel)) ggX11_cancel_X11_criticalOnes
def wbX11_cancel_0 (rec : Nat → XT → (Nat → Int32) → (Nat → Int64) → (Int32 → XT → Prop) → Prop) (k : Nat) (t : XT) (li : Nat → Int32) (lj : Nat → Int64) (Q : Int32 → XT → Prop) : Prop :=
  (wqX11_areEnds k t (li 1) (li 2) (fun r_1 t_1 => ((¬ r_1 = 0) → (wqX1_countWays k t_1 (li 1) (li 2) (fun r_3 t_3 => (∀ v_4 : Int32, v_4 = (lg_cmp r_3 1) → ((v_4 = 0) → (wqX3_save_c4 k t_3  (fun t_6 => (wqX1_trace k t_6 (li 1) (li 2) 0 (fun r_7 t_7 => rec 1 t_7 (uI (uI li 3 r_7) 4 1) lj Q))))) ∧ (¬ (v_4 = 0) → Q (-2) t_3))))) ∧ ((r_1 = 0) → Q (-1) t_1)))
def wbX11_cancel_1 (rec : Nat → XT → (Nat → Int32) → (Nat → Int64) → (Int32 → XT → Prop) → Prop) (k : Nat) (t : XT) (li : Nat → Int32) (lj : Nat → Int64) (Q : Int32 → XT → Prop) : Prop :=
  (∀ v_8 : Int32, v_8 = ((li 4) + 1) → ((((li 3) : Int32) ≤ v_8) → rec 2 t (uI li 4 1) lj Q) ∧ (¬ (((li 3) : Int32) ≤ v_8) → (vp_in (li 4) 64 ∧ (∀ v_10 : Int32, v_10 = (t.2.2.1 8) (li 4).toNatClampNeg → (wqX6_divide k t v_10 (fun t_11 => (∀ v_12 : Int32, v_12 = (li 4) + Int32.ofInt 2 → rec 1 t_11 (uI li 4 v_12) lj Q)))))))
def wbX11_cancel_2 (rec : Nat → XT → (Nat → Int32) → (Nat → Int64) → (Int32 → XT → Prop) → Prop) (k : Nat) (t : XT) (li : Nat → Int32) (lj : Nat → Int64) (Q : Int32 → XT → Prop) : Prop :=
  ((((li 3) : Int32) ≤ (li 4)) → (wqX11_criticalOnes k t  (fun r_14 t_14 => Q r_14 t_14))) ∧ (¬ (((li 3) : Int32) ≤ (li 4)) → (vp_in (li 4) 64 ∧ (∀ v_15 : Int32, v_15 = (t.2.2.1 8) (li 4).toNatClampNeg → (∀ v_16 : Int32, v_16 = ((li 4) - 1) → (vp_in v_16 64 ∧ (∀ v_17 : Int32, v_17 = (t.2.2.1 8) v_16.toNatClampNeg → (wqX6_unite k t v_15 v_17 (fun t_18 => (∀ v_19 : Int32, v_19 = (li 4) + Int32.ofInt 2 → rec 2 t_18 (uI li 4 v_19) lj Q)))))))))
def wpX11_cancel : Nat → Nat → XT → (Nat → Int32) → (Nat → Int64) → (Int32 → XT → Prop) → Prop
  | 0, _, _, _, _, _ => False
  | k + 1, 0, t, li, lj, Q => wbX11_cancel_0 (wpX11_cancel k) k t li lj Q
  | k + 1, 1, t, li, lj, Q => wbX11_cancel_1 (wpX11_cancel k) k t li lj Q
  | k + 1, 2, t, li, lj, Q => wbX11_cancel_2 (wpX11_cancel k) k t li lj Q
  | _ + 1, _, _, _, _, _ => False
def wqX11_cancel (k : Nat) (t : XT) (a1 : Int32) (a2 : Int32) (Q : Int32 → XT → Prop) : Prop := wpX11_cancel k 0 t (uI (uI (fun _ => 0) 1 a1) 2 a2) (fun _ => 0) Q
set_option maxHeartbeats 8000000 in
set_option maxRecDepth 100000 in
theorem wkX11_cancel (l : Launch) (D : va_G) (cI cJ cB cZ : ClassId) (ad : Nat → Nat) (k : Nat) (t : XT) (a1 : Int32) (a2 : Int32) (Q : Int32 → XT → Prop) (hR : wqX11_cancel k t a1 a2 Q) : MetI l yX11_cancel wsX11_cancel 4 95 0 0 D (TYS cI cJ cB cZ) (wX cI cJ cB cZ ad t) [.ref (ad 0), .int a1, .int a2] (fun r u => Q r u) (fun u : XT => (wX cI cJ cB cZ ad u)) := by
  refine x_startI (ty := .int) (cc := cX11_cancel) (by decide) rfl (Nat.le_of_ble_eq_true rfl) ?_
  intro p e s m args below meth c A ls B hr hnm h hl
  have hx := B.1.1
  have hb := B.1.2.1
  have hml := B.1.2.2.1
  have hts := B.1.2.2.2.2
  have hown : s.vm.findClass RX11 = some m.cls := B.1.2.2.2.1
  have hin1 : ∀ w ∈ u_ws RX1 TX1 7, w ∈ wsX11_cancel := by decide +kernel
  have hin11 : ∀ w ∈ u_ws RX11 TX11 11, w ∈ wsX11_cancel := by decide +kernel
  have main : ∀ k : Nat, (∀ (t : XT) (li : Nat → Int32) (lj : Nat → Int64) (H : Heap) (locs : List Loc) (ls : Array Slot), wpX11_cancel k 0 t li lj Q → lv_has ls 5 [(0, .ref (ad 0)), (1, .int (li 1)), (2, .int (li 2))] → Hp D A s.heap (wX cI cJ cB cZ ad t) H locs → W p l e { frames := 4, cells := 0, slots := 0, locals := 95 } s m args below meth c H locs 0 0 (MQ below (va_Qi (fun r u => Q r u) (fun u t => xEnd D ((fun u : XT => (wX cI cJ cB cZ ad u)) u) A t) A) args s 0 0 A) (F0 m 0 ls [])) ∧
      (∀ (t : XT) (li : Nat → Int32) (lj : Nat → Int64) (H : Heap) (locs : List Loc) (ls : Array Slot), wpX11_cancel k 1 t li lj Q → lv_has ls 5 [(0, .ref (ad 0)), (1, .int (li 1)), (2, .int (li 2)), (3, .int (li 3)), (4, .int (li 4))] → Hp D A s.heap (wX cI cJ cB cZ ad t) H locs → W p l e { frames := 4, cells := 0, slots := 0, locals := 95 } s m args below meth c H locs 0 0 (MQ below (va_Qi (fun r u => Q r u) (fun u t => xEnd D ((fun u : XT => (wX cI cJ cB cZ ad u)) u) A t) A) args s 0 0 A) (F0 m 53 ls [])) ∧
      (∀ (t : XT) (li : Nat → Int32) (lj : Nat → Int64) (H : Heap) (locs : List Loc) (ls : Array Slot), wpX11_cancel k 2 t li lj Q → lv_has ls 5 [(0, .ref (ad 0)), (1, .int (li 1)), (2, .int (li 2)), (3, .int (li 3)), (4, .int (li 4))] → Hp D A s.heap (wX cI cJ cB cZ ad t) H locs → W p l e { frames := 4, cells := 0, slots := 0, locals := 95 } s m args below meth c H locs 0 0 (MQ below (va_Qi (fun r u => Q r u) (fun u t => xEnd D ((fun u : XT => (wX cI cJ cB cZ ad u)) u) A t) A) args s 0 0 A) (F0 m 87 ls [])) := by
    intro k
    induction k with
    | zero => exact ⟨fun _ _ _ _ _ _ hR => False.elim hR, fun _ _ _ _ _ _ hR => False.elim hR, fun _ _ _ _ _ _ hR => False.elim hR⟩
    | succ k ih =>
      refine ⟨?_, ?_, ?_⟩
      · intro t li lj H locs ls hR hl h
        have hR : wbX11_cancel_0 (wpX11_cancel k) k t li lj Q := hR
        unfold wbX11_cancel_0 at hR
        refine lv_aload_n hx hb dX11_cancel_0 rfl (lv_at hl 0 rfl) ?_
        refine lv_iload_n hx hb dX11_cancel_1 rfl (lv_at hl 1 rfl) ?_
        refine lv_iload_n hx hb dX11_cancel_2 rfl (lv_at hl 2 rfl) ?_
        refine x_cVIF (n := 2) (As := [.int (li 1), .int (li 2)]) (rest := []) B h (wkX11_areEnds l D cI cJ cB cZ ad k t (li 1) (li 2) _ hR) ⟨⟨_, rfl⟩, by decide +kernel, Nat.le_of_ble_eq_true rfl, Nat.le_of_ble_eq_true rfl⟩ gX11_cancel_X11_areEnds (show ((wX cI cJ cB cZ ad t) : va_W)[0]? = some (_, .inr (11, _)) from rfl) rfl rfl hl.1 rfl (Nat.le_of_ble_eq_true rfl) dX11_cancel_3 ⟨Nat.le_of_ble_eq_true rfl, Nat.le_of_ble_eq_true rfl⟩ (fun r_1 t_1 H locs hR h => ?_)
        refine lv_if_ne (tgt := 11) hx hb dX11_cancel_6 (by decide) (fun c_2 => ?_) (fun c_2 => ?_)
        · have hR := hR.1 c_2
          refine lv_aload_n hx hb dX11_cancel_11 rfl (lv_at hl 0 rfl) ?_
          refine x_get (ci := 11) (C := RX11) (T := TX11) (N := 11) (v := .ref (ad 7)) B h hin11 0 6 rfl rfl (by decide) (by decide +kernel) rfl dX11_cancel_12 ?_
          refine lv_iload_n hx hb dX11_cancel_15 rfl (lv_at hl 1 rfl) ?_
          refine lv_iload_n hx hb dX11_cancel_16 rfl (lv_at hl 2 rfl) ?_
          refine x_cVLF (n := 2) (As := [.int (li 1), .int (li 2)]) (rest := []) B h (wkX1_countWays l D cI cJ cB cZ ad k t_1 (li 1) (li 2) _ hR) ⟨⟨_, rfl⟩, by decide +kernel, Nat.le_of_ble_eq_true rfl, Nat.le_of_ble_eq_true rfl⟩ gX11_cancel_X1_countWays (show ((wX cI cJ cB cZ ad t_1) : va_W)[7]? = some (_, .inr (1, _)) from rfl) rfl rfl hl.1 rfl (Nat.le_of_ble_eq_true rfl) dX11_cancel_17 ⟨Nat.le_of_ble_eq_true rfl, Nat.le_of_ble_eq_true rfl⟩ (fun r_3 t_3 H locs hR h => ?_)
          refine lv_lconst (v := 1) hx hb dX11_cancel_20 (by decide) ?_
          refine W.lcmp hx hb dX11_cancel_21 ?_
          refine lv_topi (fun v_4 ev_4 => ?_)
          have hR := hR v_4 ev_4
          refine lv_if_eq (tgt := 28) hx hb dX11_cancel_22 (by decide) (fun c_5 => ?_) (fun c_5 => ?_)
          · have hR := hR.1 c_5
            refine lv_aload_n hx hb dX11_cancel_28 rfl (lv_at hl 0 rfl) ?_
            refine x_get (ci := 11) (C := RX11) (T := TX11) (N := 11) (v := .ref (ad 9)) B h hin11 0 8 rfl rfl (by decide) (by decide +kernel) rfl dX11_cancel_29 ?_
            refine lv_aload_n hx hb dX11_cancel_32 rfl (lv_at hl 0 rfl) ?_
            refine x_get (ci := 11) (C := RX11) (T := TX11) (N := 11) (v := .ref (ad 4)) B h hin11 0 3 rfl rfl (by decide) (by decide +kernel) rfl dX11_cancel_33 ?_
            refine x_cVVF (n := 1) (As := [.ref (ad 4)]) (rest := []) B h (wkX3_save_c4 l D cI cJ cB cZ ad k t_3  _ hR) ⟨⟨_, rfl⟩, by decide +kernel, Nat.le_of_ble_eq_true rfl, Nat.le_of_ble_eq_true rfl⟩ gX11_cancel_X3_save (show ((wX cI cJ cB cZ ad t_3) : va_W)[9]? = some (_, .inr (3, _)) from rfl) rfl rfl hl.1 rfl (Nat.le_of_ble_eq_true rfl) dX11_cancel_36 ⟨Nat.le_of_ble_eq_true rfl, Nat.le_of_ble_eq_true rfl⟩ (fun t_6 H locs hR h => ?_)
            refine lv_aload_n hx hb dX11_cancel_39 rfl (lv_at hl 0 rfl) ?_
            refine x_get (ci := 11) (C := RX11) (T := TX11) (N := 11) (v := .ref (ad 7)) B h hin11 0 6 rfl rfl (by decide) (by decide +kernel) rfl dX11_cancel_40 ?_
            refine lv_iload_n hx hb dX11_cancel_43 rfl (lv_at hl 1 rfl) ?_
            refine lv_iload_n hx hb dX11_cancel_44 rfl (lv_at hl 2 rfl) ?_
            refine lv_lconst (v := 0) hx hb dX11_cancel_45 (by decide) ?_
            refine x_cVIF (n := 3) (As := [.int (li 1), .int (li 2), .long 0]) (rest := []) B h (wkX1_trace l D cI cJ cB cZ ad k t_6 (li 1) (li 2) 0 _ hR) ⟨⟨_, rfl⟩, by decide +kernel, Nat.le_of_ble_eq_true rfl, Nat.le_of_ble_eq_true rfl⟩ gX11_cancel_X1_trace (show ((wX cI cJ cB cZ ad t_6) : va_W)[7]? = some (_, .inr (1, _)) from rfl) rfl rfl hl.1 rfl (Nat.le_of_ble_eq_true rfl) dX11_cancel_46 ⟨Nat.le_of_ble_eq_true rfl, Nat.le_of_ble_eq_true rfl⟩ (fun r_7 t_7 H locs hR h => ?_)
            refine lv_istore_n (lv' := [(3, .int r_7), (0, .ref (ad 0)), (1, .int (li 1)), (2, .int (li 2))]) hx hb dX11_cancel_49 rfl hl (by decide) rfl (fun ls hl => ?_)
            refine lv_iconst (v := 1) hx hb dX11_cancel_50 (by decide) ?_
            refine lv_istore (lv' := [(4, .int 1), (3, .int r_7), (0, .ref (ad 0)), (1, .int (li 1)), (2, .int (li 2))]) hx hb dX11_cancel_51 hl (by decide) rfl (fun ls hl => ?_)
            exact ih.2.1 t_7 (uI (uI li 3 r_7) 4 1) lj H locs ls hR (lv_sub hl [2, 3, 4, 1, 0] rfl) h
          · have hR := hR.2 c_5
            refine lv_bipush (v := (-2)) hx hb dX11_cancel_25 (by decide) ?_
            exact x_iret (w1 := (fun u : XT => (wX cI cJ cB cZ ad u))) t_3 B h hr rfl hR dX11_cancel_27
        · have hR := hR.2 c_2
          refine lv_iconst (v := (-1)) hx hb dX11_cancel_9 (by decide) ?_
          exact x_iret (w1 := (fun u : XT => (wX cI cJ cB cZ ad u))) t_1 B h hr rfl hR dX11_cancel_10
      · intro t li lj H locs ls hR hl h
        have hR : wbX11_cancel_1 (wpX11_cancel k) k t li lj Q := hR
        unfold wbX11_cancel_1 at hR
        refine lv_iload hx hb dX11_cancel_53 (lv_at hl 4 rfl) ?_
        refine lv_iconst (v := 1) hx hb dX11_cancel_55 (by decide) ?_
        refine lv_iadd hx hb dX11_cancel_56 ?_
        refine lv_topi (fun v_8 ev_8 => ?_)
        have hR := hR v_8 ev_8
        refine lv_iload_n hx hb dX11_cancel_57 rfl (lv_at hl 3 rfl) ?_
        refine lv_icmp_ge (tgt := 84) hx hb dX11_cancel_58 (by decide) (fun c_9 => ?_) (fun c_9 => ?_)
        · have hR := hR.1 c_9
          refine lv_iconst (v := 1) hx hb dX11_cancel_84 (by decide) ?_
          refine lv_istore (lv' := [(4, .int 1), (0, .ref (ad 0)), (1, .int (li 1)), (2, .int (li 2)), (3, .int (li 3))]) hx hb dX11_cancel_85 hl (by decide) rfl (fun ls hl => ?_)
          exact ih.2.2 t (uI li 4 1) lj H locs ls hR (lv_sub hl [1, 2, 3, 4, 0] rfl) h
        · have hR := hR.2 c_9
          refine lv_aload_n hx hb dX11_cancel_61 rfl (lv_at hl 0 rfl) ?_
          refine x_get (ci := 11) (C := RX11) (T := TX11) (N := 11) (v := .ref (ad 4)) B h hin11 0 3 rfl rfl (by decide) (by decide +kernel) rfl dX11_cancel_62 ?_
          refine lv_aload_n hx hb dX11_cancel_65 rfl (lv_at hl 0 rfl) ?_
          refine x_get (ci := 11) (C := RX11) (T := TX11) (N := 11) (v := .ref (ad 7)) B h hin11 0 6 rfl rfl (by decide) (by decide +kernel) rfl dX11_cancel_66 ?_
          refine x_get (ci := 1) (C := RX1) (T := TX1) (N := 7) (v := .ref (ad 25)) B h hin1 7 5 rfl rfl (by decide) (by decide +kernel) rfl dX11_cancel_69 ?_
          refine lv_iload hx hb dX11_cancel_72 (lv_at hl 4 rfl) ?_
          obtain ⟨hb_10, hR⟩ := hR
          refine va_iald (f := (t.2.2.1 8)) hx hb B.2.1 h.1 25 0 rfl rfl hb_10 dX11_cancel_74 ?_
          refine lv_topi (fun v_10 ev_10 => ?_)
          have hR := hR v_10 ev_10
          refine x_cVVF (n := 1) (As := [.int v_10]) (rest := []) B h (wkX6_divide l D cI cJ cB cZ ad k t v_10 _ hR) ⟨⟨_, rfl⟩, by decide +kernel, Nat.le_of_ble_eq_true rfl, Nat.le_of_ble_eq_true rfl⟩ gX11_cancel_X6_divide (show ((wX cI cJ cB cZ ad t) : va_W)[4]? = some (_, .inr (6, _)) from rfl) rfl rfl hl.1 rfl (Nat.le_of_ble_eq_true rfl) dX11_cancel_75 ⟨Nat.le_of_ble_eq_true rfl, Nat.le_of_ble_eq_true rfl⟩ (fun t_11 H locs hR h => ?_)
          obtain ⟨v_12, ev_12⟩ : ∃ v : Int32, v = (li 4) + Int32.ofInt 2 := ⟨_, rfl⟩
          have hR := hR v_12 ev_12
          refine lv_iinc (v := v_12) (lv' := [(4, .int v_12), (0, .ref (ad 0)), (1, .int (li 1)), (2, .int (li 2)), (3, .int (li 3))]) hx hb dX11_cancel_78 hl (k := 4) rfl ev_12.symm (by decide) rfl (fun ls hl => ?_)
          refine lv_goto (tgt := 53) hx hb dX11_cancel_81 (by decide) ?_
          exact ih.2.1 t_11 (uI li 4 v_12) lj H locs ls hR (lv_sub hl [1, 2, 3, 4, 0] rfl) h
      · intro t li lj H locs ls hR hl h
        have hR : wbX11_cancel_2 (wpX11_cancel k) k t li lj Q := hR
        unfold wbX11_cancel_2 at hR
        refine lv_iload hx hb dX11_cancel_87 (lv_at hl 4 rfl) ?_
        refine lv_iload_n hx hb dX11_cancel_89 rfl (lv_at hl 3 rfl) ?_
        refine lv_icmp_ge (tgt := 128) hx hb dX11_cancel_90 (by decide) (fun c_13 => ?_) (fun c_13 => ?_)
        · have hR := hR.1 c_13
          refine lv_aload_n hx hb dX11_cancel_128 rfl (lv_at hl 0 rfl) ?_
          refine x_cVIF (n := 0) (As := []) (rest := []) B h (wkX11_criticalOnes l D cI cJ cB cZ ad k t  _ hR) ⟨⟨_, rfl⟩, by decide +kernel, Nat.le_of_ble_eq_true rfl, Nat.le_of_ble_eq_true rfl⟩ gX11_cancel_X11_criticalOnes (show ((wX cI cJ cB cZ ad t) : va_W)[0]? = some (_, .inr (11, _)) from rfl) rfl rfl hl.1 rfl (Nat.le_of_ble_eq_true rfl) dX11_cancel_129 ⟨Nat.le_of_ble_eq_true rfl, Nat.le_of_ble_eq_true rfl⟩ (fun r_14 t_14 H locs hR h => ?_)
          exact x_iret (w1 := (fun u : XT => (wX cI cJ cB cZ ad u))) t_14 B h hr rfl hR dX11_cancel_132
        · have hR := hR.2 c_13
          refine lv_aload_n hx hb dX11_cancel_93 rfl (lv_at hl 0 rfl) ?_
          refine x_get (ci := 11) (C := RX11) (T := TX11) (N := 11) (v := .ref (ad 4)) B h hin11 0 3 rfl rfl (by decide) (by decide +kernel) rfl dX11_cancel_94 ?_
          refine lv_aload_n hx hb dX11_cancel_97 rfl (lv_at hl 0 rfl) ?_
          refine x_get (ci := 11) (C := RX11) (T := TX11) (N := 11) (v := .ref (ad 7)) B h hin11 0 6 rfl rfl (by decide) (by decide +kernel) rfl dX11_cancel_98 ?_
          refine x_get (ci := 1) (C := RX1) (T := TX1) (N := 7) (v := .ref (ad 25)) B h hin1 7 5 rfl rfl (by decide) (by decide +kernel) rfl dX11_cancel_101 ?_
          refine lv_iload hx hb dX11_cancel_104 (lv_at hl 4 rfl) ?_
          obtain ⟨hb_15, hR⟩ := hR
          refine va_iald (f := (t.2.2.1 8)) hx hb B.2.1 h.1 25 0 rfl rfl hb_15 dX11_cancel_106 ?_
          refine lv_topi (fun v_15 ev_15 => ?_)
          have hR := hR v_15 ev_15
          refine lv_aload_n hx hb dX11_cancel_107 rfl (lv_at hl 0 rfl) ?_
          refine x_get (ci := 11) (C := RX11) (T := TX11) (N := 11) (v := .ref (ad 7)) B h hin11 0 6 rfl rfl (by decide) (by decide +kernel) rfl dX11_cancel_108 ?_
          refine x_get (ci := 1) (C := RX1) (T := TX1) (N := 7) (v := .ref (ad 25)) B h hin1 7 5 rfl rfl (by decide) (by decide +kernel) rfl dX11_cancel_111 ?_
          refine lv_iload hx hb dX11_cancel_114 (lv_at hl 4 rfl) ?_
          refine lv_iconst (v := 1) hx hb dX11_cancel_116 (by decide) ?_
          refine lv_isub hx hb dX11_cancel_117 ?_
          refine lv_topi (fun v_16 ev_16 => ?_)
          have hR := hR v_16 ev_16
          obtain ⟨hb_17, hR⟩ := hR
          refine va_iald (f := (t.2.2.1 8)) hx hb B.2.1 h.1 25 0 rfl rfl hb_17 dX11_cancel_118 ?_
          refine lv_topi (fun v_17 ev_17 => ?_)
          have hR := hR v_17 ev_17
          refine x_cVVF (n := 2) (As := [.int v_15, .int v_17]) (rest := []) B h (wkX6_unite l D cI cJ cB cZ ad k t v_15 v_17 _ hR) ⟨⟨_, rfl⟩, by decide +kernel, Nat.le_of_ble_eq_true rfl, Nat.le_of_ble_eq_true rfl⟩ gX11_cancel_X6_unite (show ((wX cI cJ cB cZ ad t) : va_W)[4]? = some (_, .inr (6, _)) from rfl) rfl rfl hl.1 rfl (Nat.le_of_ble_eq_true rfl) dX11_cancel_119 ⟨Nat.le_of_ble_eq_true rfl, Nat.le_of_ble_eq_true rfl⟩ (fun t_18 H locs hR h => ?_)
          obtain ⟨v_19, ev_19⟩ : ∃ v : Int32, v = (li 4) + Int32.ofInt 2 := ⟨_, rfl⟩
          have hR := hR v_19 ev_19
          refine lv_iinc (v := v_19) (lv' := [(4, .int v_19), (0, .ref (ad 0)), (1, .int (li 1)), (2, .int (li 2)), (3, .int (li 3))]) hx hb dX11_cancel_122 hl (k := 4) rfl ev_19.symm (by decide) rfl (fun ls hl => ?_)
          refine lv_goto (tgt := 87) hx hb dX11_cancel_125 (by decide) ?_
          exact ih.2.2 t_18 (uI li 4 v_19) lj H locs ls hR (lv_sub hl [1, 2, 3, 4, 0] rfl) h
  exact (main k).1 t _ _ s.heap [] ls hR hl h
set_option maxRecDepth 20000 in
theorem ggX11_isFree_J13_bitCount_95d88 : GoodIn wsX11_isFree wsJ13_bitCount_95d88 := goodIn_r _ [8, 9, 10, 11] (by decide +kernel) (by decide +kernel)
set_option maxRecDepth 20000 in
theorem gX11_isFree_J13_bitCount_95d88 : GoodIn wsX11_isFree (va_wsS RX11 151 yJ13_bitCount_95d88 wsJ13_bitCount_95d88) := goodIn_app (goodIn_of _ (by decide +kernel)) ggX11_isFree_J13_bitCount_95d88
set_option maxRecDepth 20000 in
theorem ggX11_isFree_X11_lowest : GoodIn wsX11_isFree wsX11_lowest := goodIn_r _ [15, 5, 6, 7, 8, 9, 10, 11] (by decide +kernel) (by decide +kernel)
set_option maxRecDepth 20000 in
theorem gX11_isFree_X11_lowest : GoodIn wsX11_isFree (va_wsS RX11 220 yX11_lowest wsX11_lowest) := goodIn_app (goodIn_of _ (by decide +kernel)) ggX11_isFree_X11_lowest
def wbX11_isFree_0 (rec : Nat → XT → (Nat → Int32) → (Nat → Int64) → (Int32 → XT → Prop) → Prop) (k : Nat) (t : XT) (li : Nat → Int32) (lj : Nat → Int64) (Q : Int32 → XT → Prop) : Prop :=
  (vp_in (li 1) 64 ∧ (∀ v_1 : Int64, v_1 = (t.2.2.2 1) (li 1).toNatClampNeg → (∀ v_2 : Int64, v_2 = (v_1 &&& (t.2.1 0)) → (wqJ13_bitCount_95d88 k v_2 (fun r_3 => ((r_3 = 1) → (wqX11_lowest k v_2 (fun r_5 => (vp_in r_5 64 ∧ (∀ v_6 : Int64, v_6 = (t.2.2.2 1) r_5.toNatClampNeg → (∀ v_7 : Int64, v_7 = (v_6 &&& (t.2.1 0)) → (∀ v_8 : Int32, v_8 = (lg_cmp v_7 0) → ((¬ v_8 = 0) → Q 0 t) ∧ ((v_8 = 0) → Q 1 t)))))))) ∧ (¬ (r_3 = 1) → Q 0 t))))))
def wpX11_isFree : Nat → Nat → XT → (Nat → Int32) → (Nat → Int64) → (Int32 → XT → Prop) → Prop
  | 0, _, _, _, _, _ => False
  | k + 1, 0, t, li, lj, Q => wbX11_isFree_0 (wpX11_isFree k) k t li lj Q
  | _ + 1, _, _, _, _, _ => False
def wqX11_isFree (k : Nat) (t : XT) (a1 : Int32) (Q : Int32 → XT → Prop) : Prop := wpX11_isFree k 0 t (uI (fun _ => 0) 1 a1) (fun _ => 0) Q
set_option maxHeartbeats 8000000 in
set_option maxRecDepth 100000 in
theorem wkX11_isFree (l : Launch) (D : va_G) (cI cJ cB cZ : ClassId) (ad : Nat → Nat) (k : Nat) (t : XT) (a1 : Int32) (Q : Int32 → XT → Prop) (hR : wqX11_isFree k t a1 Q) : MetI l yX11_isFree wsX11_isFree 2 42 0 0 D (TYS cI cJ cB cZ) (wX cI cJ cB cZ ad t) [.ref (ad 0), .int a1] (fun r u => Q r u) (fun u : XT => (wX cI cJ cB cZ ad u)) := by
  refine x_startI (ty := .boolean) (cc := cX11_isFree) (by decide) rfl (Nat.le_of_ble_eq_true rfl) ?_
  intro p e s m args below meth c A ls B hr hnm h hl
  have hx := B.1.1
  have hb := B.1.2.1
  have hml := B.1.2.2.1
  have hts := B.1.2.2.2.2
  have hown : s.vm.findClass RX11 = some m.cls := B.1.2.2.2.1
  have hin6 : ∀ w ∈ u_ws RX6 TX6 6, w ∈ wsX11_isFree := by decide +kernel
  have hin9 : ∀ w ∈ u_ws RX9 TX9 7, w ∈ wsX11_isFree := by decide +kernel
  have hin11 : ∀ w ∈ u_ws RX11 TX11 11, w ∈ wsX11_isFree := by decide +kernel
  have main : ∀ k : Nat, (∀ (t : XT) (li : Nat → Int32) (lj : Nat → Int64) (H : Heap) (locs : List Loc) (ls : Array Slot), wpX11_isFree k 0 t li lj Q → lv_has ls 4 [(0, .ref (ad 0)), (1, .int (li 1))] → Hp D A s.heap (wX cI cJ cB cZ ad t) H locs → W p l e { frames := 2, cells := 0, slots := 0, locals := 42 } s m args below meth c H locs 0 0 (MQ below (va_Qi (fun r u => Q r u) (fun u t => xEnd D ((fun u : XT => (wX cI cJ cB cZ ad u)) u) A t) A) args s 0 0 A) (F0 m 0 ls [])) := by
    intro k
    induction k with
    | zero => exact fun _ _ _ _ _ _ hR => False.elim hR
    | succ k ih =>
      intro t li lj H locs ls hR hl h
      have hR : wbX11_isFree_0 (wpX11_isFree k) k t li lj Q := hR
      unfold wbX11_isFree_0 at hR
      refine lv_aload_n hx hb dX11_isFree_0 rfl (lv_at hl 0 rfl) ?_
      refine x_get (ci := 11) (C := RX11) (T := TX11) (N := 11) (v := .ref (ad 3)) B h hin11 0 2 rfl rfl (by decide) (by decide +kernel) rfl dX11_isFree_1 ?_
      refine x_get (ci := 9) (C := RX9) (T := TX9) (N := 7) (v := .ref (ad 18)) B h hin9 3 5 rfl rfl (by decide) (by decide +kernel) rfl dX11_isFree_4 ?_
      refine lv_iload_n hx hb dX11_isFree_7 rfl (lv_at hl 1 rfl) ?_
      obtain ⟨hb_1, hR⟩ := hR
      refine va_lald (f := (t.2.2.2 1)) hx hb B.2.1 h.1 18 1 rfl rfl hb_1 dX11_isFree_8 ?_
      refine lv_topl (fun v_1 ev_1 => ?_)
      have hR := hR v_1 ev_1
      refine lv_aload_n hx hb dX11_isFree_9 rfl (lv_at hl 0 rfl) ?_
      refine x_get (ci := 11) (C := RX11) (T := TX11) (N := 11) (v := .ref (ad 4)) B h hin11 0 3 rfl rfl (by decide) (by decide +kernel) rfl dX11_isFree_10 ?_
      refine x_get (ci := 6) (C := RX6) (T := TX6) (N := 6) (v := .long (t.2.1 0)) B h hin6 4 2 rfl rfl (by decide) (by decide +kernel) rfl dX11_isFree_13 ?_
      refine lv_land hx hb dX11_isFree_16 ?_
      refine lv_topl (fun v_2 ev_2 => ?_)
      have hR := hR v_2 ev_2
      refine lv_lstore_n (lv' := [(2, .long v_2), (0, .ref (ad 0)), (1, .int (li 1))]) hx hb dX11_isFree_17 rfl hl (by decide) rfl (fun ls hl => ?_)
      refine lv_lload_n hx hb dX11_isFree_18 rfl (lv_at hl 0 rfl) ?_
      refine x_cSIE (n := 1) (As := [.long v_2]) (rest := []) B h (wkJ13_bitCount_95d88 l D cI cJ cB cZ ad k v_2 _ hR) ⟨⟨_, rfl⟩, by decide +kernel, Nat.le_of_ble_eq_true rfl, Nat.le_of_ble_eq_true rfl⟩ gX11_isFree_J13_bitCount_95d88 rfl hl.1 rfl (Nat.le_of_ble_eq_true rfl) dX11_isFree_19 ⟨Nat.le_of_ble_eq_true rfl, Nat.le_of_ble_eq_true rfl⟩ (fun r_3 _ H locs hR h => ?_)
      refine lv_iconst (v := 1) hx hb dX11_isFree_22 (by decide) ?_
      refine lv_icmp_eq (tgt := 28) hx hb dX11_isFree_23 (by decide) (fun c_4 => ?_) (fun c_4 => ?_)
      · have hR := hR.1 c_4
        refine lv_aload_n hx hb dX11_isFree_28 rfl (lv_at hl 1 rfl) ?_
        refine x_get (ci := 11) (C := RX11) (T := TX11) (N := 11) (v := .ref (ad 3)) B h hin11 0 2 rfl rfl (by decide) (by decide +kernel) rfl dX11_isFree_29 ?_
        refine x_get (ci := 9) (C := RX9) (T := TX9) (N := 7) (v := .ref (ad 18)) B h hin9 3 5 rfl rfl (by decide) (by decide +kernel) rfl dX11_isFree_32 ?_
        refine lv_lload_n hx hb dX11_isFree_35 rfl (lv_at hl 0 rfl) ?_
        refine x_cSIE (n := 1) (As := [.long v_2]) (rest := [.ref (ad 18)]) B h (wkX11_lowest l D cI cJ cB cZ ad k v_2 _ hR) ⟨⟨_, rfl⟩, by decide +kernel, Nat.le_of_ble_eq_true rfl, Nat.le_of_ble_eq_true rfl⟩ gX11_isFree_X11_lowest rfl hl.1 rfl (Nat.le_of_ble_eq_true rfl) dX11_isFree_36 ⟨Nat.le_of_ble_eq_true rfl, Nat.le_of_ble_eq_true rfl⟩ (fun r_5 _ H locs hR h => ?_)
        obtain ⟨hb_6, hR⟩ := hR
        refine va_lald (f := (t.2.2.2 1)) hx hb B.2.1 h.1 18 1 rfl rfl hb_6 dX11_isFree_39 ?_
        refine lv_topl (fun v_6 ev_6 => ?_)
        have hR := hR v_6 ev_6
        refine lv_aload_n hx hb dX11_isFree_40 rfl (lv_at hl 1 rfl) ?_
        refine x_get (ci := 11) (C := RX11) (T := TX11) (N := 11) (v := .ref (ad 4)) B h hin11 0 3 rfl rfl (by decide) (by decide +kernel) rfl dX11_isFree_41 ?_
        refine x_get (ci := 6) (C := RX6) (T := TX6) (N := 6) (v := .long (t.2.1 0)) B h hin6 4 2 rfl rfl (by decide) (by decide +kernel) rfl dX11_isFree_44 ?_
        refine lv_land hx hb dX11_isFree_47 ?_
        refine lv_topl (fun v_7 ev_7 => ?_)
        have hR := hR v_7 ev_7
        refine lv_lconst (v := 0) hx hb dX11_isFree_48 (by decide) ?_
        refine W.lcmp hx hb dX11_isFree_49 ?_
        refine lv_topi (fun v_8 ev_8 => ?_)
        have hR := hR v_8 ev_8
        refine lv_if_ne (tgt := 57) hx hb dX11_isFree_50 (by decide) (fun c_9 => ?_) (fun c_9 => ?_)
        · have hR := hR.1 c_9
          refine lv_iconst (v := 0) hx hb dX11_isFree_57 (by decide) ?_
          exact x_iret (w1 := (fun u : XT => (wX cI cJ cB cZ ad u))) t B h hr rfl hR dX11_isFree_58
        · have hR := hR.2 c_9
          refine lv_iconst (v := 1) hx hb dX11_isFree_53 (by decide) ?_
          refine lv_goto (tgt := 58) hx hb dX11_isFree_54 (by decide) ?_
          exact x_iret (w1 := (fun u : XT => (wX cI cJ cB cZ ad u))) t B h hr rfl hR dX11_isFree_58
      · have hR := hR.2 c_4
        refine lv_iconst (v := 0) hx hb dX11_isFree_26 (by decide) ?_
        exact x_iret (w1 := (fun u : XT => (wX cI cJ cB cZ ad u))) t B h hr rfl hR dX11_isFree_27
  exact (main k) t _ _ s.heap [] ls hR hl h
set_option maxRecDepth 20000 in
theorem ggX6_drop_X6_divide : GoodIn wsX6_drop wsX6_divide := goodIn_r _ [8, 9, 2, 10, 11, 3, 12, 13, 14, 15, 16, 17, 18, 19, 20] (by decide +kernel) (by decide +kernel)
set_option maxRecDepth 20000 in
theorem gX6_drop_X6_divide : GoodIn wsX6_drop (wsV RX6 45 RX6 yX6_divide wsX6_divide) := goodIn_app (goodIn_of _ (by decide +kernel)) ggX6_drop_X6_divide
set_option maxRecDepth 20000 in
theorem ggX6_drop_X11_bit : GoodIn wsX6_drop wsX11_bit := goodIn_r _ [14] (by decide +kernel) (by decide +kernel)
set_option maxRecDepth 20000 in
theorem gX6_drop_X11_bit_n39 : GoodIn wsX6_drop (wsX11_bit) := ggX6_drop_X11_bit
def wbX6_drop_0 (rec : Nat → XT → (Nat → Int32) → (Nat → Int64) → (XT → Prop) → Prop) (k : Nat) (t : XT) (li : Nat → Int32) (lj : Nat → Int64) (Q : XT → Prop) : Prop :=
  (wqX6_divide k t (li 1) (fun t_1 => (wqX11_bit k (li 1) (fun r_2 => (∀ v_3 : Int64, v_3 = (r_2 ^^^ (-1)) → (∀ v_4 : Int64, v_4 = ((t_1.2.1 0) &&& v_3) → (∀ t_5 : XT, t_5 = sJ t_1 0 v_4 → (∀ v_6 : Int32, v_6 = ((t_5.1 5) + 1) → (∀ t_7 : XT, t_7 = sI t_5 5 v_6 → Q t_7)))))))))
def wpX6_drop : Nat → Nat → XT → (Nat → Int32) → (Nat → Int64) → (XT → Prop) → Prop
  | 0, _, _, _, _, _ => False
  | k + 1, 0, t, li, lj, Q => wbX6_drop_0 (wpX6_drop k) k t li lj Q
  | _ + 1, _, _, _, _, _ => False
def wqX6_drop (k : Nat) (t : XT) (a1 : Int32) (Q : XT → Prop) : Prop := wpX6_drop k 0 t (uI (fun _ => 0) 1 a1) (fun _ => 0) Q
set_option maxHeartbeats 8000000 in
set_option maxRecDepth 100000 in
theorem wkX6_drop (l : Launch) (D : va_G) (cI cJ cB cZ : ClassId) (ad : Nat → Nat) (k : Nat) (t : XT) (a1 : Int32) (Q : XT → Prop) (hR : wqX6_drop k t a1 Q) : MetV l yX6_drop wsX6_drop 2 44 0 0 D (TYS cI cJ cB cZ) (wX cI cJ cB cZ ad t) [.ref (ad 4), .int a1] (fun u => Q u) (fun u : XT => (wX cI cJ cB cZ ad u)) := by
  refine x_startV (ty := .int) (cc := cX6_drop) (by decide) rfl (Nat.le_of_ble_eq_true rfl) ?_
  intro p e s m args below meth c A ls B hr hnm h hl
  have hx := B.1.1
  have hb := B.1.2.1
  have hml := B.1.2.2.1
  have hts := B.1.2.2.2.2
  have hown : s.vm.findClass RX6 = some m.cls := B.1.2.2.2.1
  have hin6 : ∀ w ∈ u_ws RX6 TX6 6, w ∈ wsX6_drop := by decide +kernel
  have main : ∀ k : Nat, (∀ (t : XT) (li : Nat → Int32) (lj : Nat → Int64) (H : Heap) (locs : List Loc) (ls : Array Slot), wpX6_drop k 0 t li lj Q → lv_has ls 2 [(0, .ref (ad 4)), (1, .int (li 1))] → Hp D A s.heap (wX cI cJ cB cZ ad t) H locs → W p l e { frames := 2, cells := 0, slots := 0, locals := 44 } s m args below meth c H locs 0 0 (MQ below (va_Qv (fun u => Q u) (fun u t => xEnd D ((fun u : XT => (wX cI cJ cB cZ ad u)) u) A t) A) args s 0 0 A) (F0 m 0 ls [])) := by
    intro k
    induction k with
    | zero => exact fun _ _ _ _ _ _ hR => False.elim hR
    | succ k ih =>
      intro t li lj H locs ls hR hl h
      have hR : wbX6_drop_0 (wpX6_drop k) k t li lj Q := hR
      unfold wbX6_drop_0 at hR
      refine lv_aload_n hx hb dX6_drop_0 rfl (lv_at hl 0 rfl) ?_
      refine lv_iload_n hx hb dX6_drop_1 rfl (lv_at hl 1 rfl) ?_
      refine x_cVVF (n := 1) (As := [.int (li 1)]) (rest := []) B h (wkX6_divide l D cI cJ cB cZ ad k t (li 1) _ hR) ⟨⟨_, rfl⟩, by decide +kernel, Nat.le_of_ble_eq_true rfl, Nat.le_of_ble_eq_true rfl⟩ gX6_drop_X6_divide (show ((wX cI cJ cB cZ ad t) : va_W)[4]? = some (_, .inr (6, _)) from rfl) rfl rfl hl.1 rfl (Nat.le_of_ble_eq_true rfl) dX6_drop_2 ⟨Nat.le_of_ble_eq_true rfl, Nat.le_of_ble_eq_true rfl⟩ (fun t_1 H locs hR h => ?_)
      refine lv_aload_n hx hb dX6_drop_5 rfl (lv_at hl 0 rfl) ?_
      refine lv_dup hx hb dX6_drop_6 rfl ?_
      refine x_get (ci := 6) (C := RX6) (T := TX6) (N := 6) (v := .long (t_1.2.1 0)) B h hin6 4 2 rfl rfl (by decide) (by decide +kernel) rfl dX6_drop_7 ?_
      refine lv_iload_n hx hb dX6_drop_10 rfl (lv_at hl 1 rfl) ?_
      refine x_cNLE (n := 1) (As := [.int (li 1)]) (rest := [.long (t_1.2.1 0), .ref (ad 4)]) B h (wkX11_bit l D cI cJ cB cZ ad k (li 1) _ hR) ⟨⟨_, rfl⟩, by decide +kernel, Nat.le_of_ble_eq_true rfl, Nat.le_of_ble_eq_true rfl⟩ gX6_drop_X11_bit_n39 (by decide +kernel) (by decide +kernel) (host := "MorseDesk") (by decide +kernel) rfl hl.1 rfl (Nat.le_of_ble_eq_true rfl) dX6_drop_11 ⟨Nat.le_of_ble_eq_true rfl, Nat.le_of_ble_eq_true rfl⟩ (fun r_2 _ H locs hR h => ?_)
      refine lv_ldc2 (v := (-1)) hx hb hown (hts (.constantLong RX6 43 (-1)) (by decide +kernel)) dX6_drop_14 ?_
      refine lv_lxor hx hb dX6_drop_17 ?_
      refine lv_topl (fun v_3 ev_3 => ?_)
      have hR := hR v_3 ev_3
      refine lv_land hx hb dX6_drop_18 ?_
      refine lv_topl (fun v_4 ev_4 => ?_)
      have hR := hR v_4 ev_4
      refine x_put (ci := 6) (C := RX6) (T := TX6) (N := 6) (v := .long v_4) (ty := .long) B h hin6 tyX6 tyX6_ok nmX6 4 2 rfl rfl (by decide) (by decide +kernel) rfl rfl rfl rfl (Nat.le_of_ble_eq_true rfl) dX6_drop_19 (fun H locs h => ?_)
      obtain ⟨t_5, et_5⟩ : ∃ v : XT, v = sJ t_1 0 v_4 := ⟨_, rfl⟩
      have hR := hR t_5 et_5
      have h : Hp D A s.heap (wX cI cJ cB cZ ad t_5) H locs := by rw [et_5]; exact h
      refine lv_aload_n hx hb dX6_drop_22 rfl (lv_at hl 0 rfl) ?_
      refine lv_dup hx hb dX6_drop_23 rfl ?_
      refine x_get (ci := 6) (C := RX6) (T := TX6) (N := 6) (v := .int (t_5.1 5)) B h hin6 4 5 rfl rfl (by decide) (by decide +kernel) rfl dX6_drop_24 ?_
      refine lv_iconst (v := 1) hx hb dX6_drop_27 (by decide) ?_
      refine lv_iadd hx hb dX6_drop_28 ?_
      refine lv_topi (fun v_6 ev_6 => ?_)
      have hR := hR v_6 ev_6
      refine x_put (ci := 6) (C := RX6) (T := TX6) (N := 6) (v := .int v_6) (ty := .int) B h hin6 tyX6 tyX6_ok nmX6 4 5 rfl rfl (by decide) (by decide +kernel) rfl rfl rfl rfl (Nat.le_of_ble_eq_true rfl) dX6_drop_29 (fun H locs h => ?_)
      obtain ⟨t_7, et_7⟩ : ∃ v : XT, v = sI t_5 5 v_6 := ⟨_, rfl⟩
      have hR := hR t_7 et_7
      have h : Hp D A s.heap (wX cI cJ cB cZ ad t_7) H locs := by rw [et_7]; exact h
      exact x_vret (w1 := (fun u : XT => (wX cI cJ cB cZ ad u))) t_7 B h hr hR dX6_drop_32
  exact (main k) t _ _ s.heap [] ls hR hl h
set_option maxRecDepth 20000 in
theorem ggX11_collapse_X11_isThere : GoodIn wsX11_collapse wsX11_isThere := goodIn_r _ [10, 3, 2, 5, 11, 12, 13, 14, 15, 16, 17, 18, 9, 19, 70, 71, 72, 73, 74, 75, 76, 77, 78, 79, 80, 88, 89, 90, 91, 92, 93, 81, 82, 83, 84, 85, 86, 87] (by decide +kernel) (by decide +kernel)
set_option maxRecDepth 20000 in
theorem gX11_collapse_X11_isThere : GoodIn wsX11_collapse (wsV RX11 130 RX11 yX11_isThere wsX11_isThere) := goodIn_app (goodIn_of _ (by decide +kernel)) ggX11_collapse_X11_isThere
set_option maxRecDepth 20000 in
theorem ggX11_collapse_X11_isFree : GoodIn wsX11_collapse wsX11_isFree := goodIn_r _ [23, 3, 4, 2, 5, 24, 25, 26, 27, 28, 29, 30, 31, 32, 9, 33, 70, 71, 72, 73, 74, 75, 76, 77, 78, 79, 80, 81, 82, 83, 84, 85, 86, 87, 88, 89, 90, 91, 92, 93] (by decide +kernel) (by decide +kernel)
set_option maxRecDepth 20000 in
theorem gX11_collapse_X11_isFree : GoodIn wsX11_collapse (wsV RX11 217 RX11 yX11_isFree wsX11_isFree) := goodIn_app (goodIn_of _ (by decide +kernel)) ggX11_collapse_X11_isFree
set_option maxRecDepth 20000 in
theorem ggX11_collapse_X3_save : GoodIn wsX11_collapse wsX3_save := goodIn_r _ [38, 39, 40, 41, 42, 43, 44, 45, 46, 47, 48, 49, 50, 51, 52, 88, 89, 90, 91, 92, 93, 94, 95, 96, 97] (by decide +kernel) (by decide +kernel)
set_option maxRecDepth 20000 in
theorem gX11_collapse_X3_save : GoodIn wsX11_collapse (wsV RX11 179 RX3 yX3_save wsX3_save) := goodIn_app (goodIn_of _ (by decide +kernel)) ggX11_collapse_X3_save
set_option maxRecDepth 20000 in
theorem ggX11_collapse_X11_lowest : GoodIn wsX11_collapse wsX11_lowest := goodIn_r _ [33, 24, 25, 26, 27, 28, 29, 30] (by decide +kernel) (by decide +kernel)
set_option maxRecDepth 20000 in
theorem gX11_collapse_X11_lowest : GoodIn wsX11_collapse (va_wsS RX11 220 yX11_lowest wsX11_lowest) := goodIn_app (goodIn_of _ (by decide +kernel)) ggX11_collapse_X11_lowest
set_option maxRecDepth 20000 in
theorem ggX11_collapse_X6_drop : GoodIn wsX11_collapse wsX6_drop := goodIn_r _ [57, 58, 59, 60, 61, 62, 63, 56, 64, 65, 66, 67, 68, 9, 69, 88, 89, 90, 91, 92, 93] (by decide +kernel) (by decide +kernel)
set_option maxRecDepth 20000 in
theorem gX11_collapse_X6_drop : GoodIn wsX11_collapse (wsV RX11 223 RX6 yX6_drop wsX6_drop) := goodIn_app (goodIn_of _ (by decide +kernel)) ggX11_collapse_X6_drop
set_option maxRecDepth 20000 in
theorem ggX11_collapse_J13_bitCount_95d88 : GoodIn wsX11_collapse wsJ13_bitCount_95d88 := goodIn_r _ [27, 28, 29, 30] (by decide +kernel) (by decide +kernel)
set_option maxRecDepth 20000 in
theorem gX11_collapse_J13_bitCount_95d88 : GoodIn wsX11_collapse (va_wsS RX11 151 yJ13_bitCount_95d88 wsJ13_bitCount_95d88) := goodIn_app (goodIn_of _ (by decide +kernel)) ggX11_collapse_J13_bitCount_95d88
def wbX11_collapse_0 (rec : Nat → XT → (Nat → Int32) → (Nat → Int64) → (Int32 → XT → Prop) → Prop) (k : Nat) (t : XT) (li : Nat → Int32) (lj : Nat → Int64) (Q : Int32 → XT → Prop) : Prop :=
  (wqX11_isThere k t (li 1) (fun r_1 t_1 => ((¬ r_1 = 0) → (wqX11_isFree k t_1 (li 1) (fun r_3 t_3 => ((¬ r_3 = 0) → (wqX3_save_c4 k t_3  (fun t_5 => (vp_in (li 1) 64 ∧ (∀ v_6 : Int64, v_6 = (t_5.2.2.2 1) (li 1).toNatClampNeg → (∀ v_7 : Int64, v_7 = (v_6 &&& (t_5.2.1 0)) → (wqX11_lowest k v_7 (fun r_8 => (wqX6_drop k t_5 (li 1) (fun t_9 => (wqX6_drop k t_9 r_8 (fun t_10 => (wqJ13_bitCount_95d88 k (t_10.2.1 0) (fun r_11 => Q r_11 t_10)))))))))))))) ∧ ((r_3 = 0) → Q (-2) t_3)))) ∧ ((r_1 = 0) → Q (-1) t_1)))
def wpX11_collapse : Nat → Nat → XT → (Nat → Int32) → (Nat → Int64) → (Int32 → XT → Prop) → Prop
  | 0, _, _, _, _, _ => False
  | k + 1, 0, t, li, lj, Q => wbX11_collapse_0 (wpX11_collapse k) k t li lj Q
  | _ + 1, _, _, _, _, _ => False
def wqX11_collapse (k : Nat) (t : XT) (a1 : Int32) (Q : Int32 → XT → Prop) : Prop := wpX11_collapse k 0 t (uI (fun _ => 0) 1 a1) (fun _ => 0) Q
set_option maxHeartbeats 8000000 in
set_option maxRecDepth 100000 in
theorem wkX11_collapse (l : Launch) (D : va_G) (cI cJ cB cZ : ClassId) (ad : Nat → Nat) (k : Nat) (t : XT) (a1 : Int32) (Q : Int32 → XT → Prop) (hR : wqX11_collapse k t a1 Q) : MetI l yX11_collapse wsX11_collapse 3 85 0 0 D (TYS cI cJ cB cZ) (wX cI cJ cB cZ ad t) [.ref (ad 0), .int a1] (fun r u => Q r u) (fun u : XT => (wX cI cJ cB cZ ad u)) := by
  refine x_startI (ty := .int) (cc := cX11_collapse) (by decide) rfl (Nat.le_of_ble_eq_true rfl) ?_
  intro p e s m args below meth c A ls B hr hnm h hl
  have hx := B.1.1
  have hb := B.1.2.1
  have hml := B.1.2.2.1
  have hts := B.1.2.2.2.2
  have hown : s.vm.findClass RX11 = some m.cls := B.1.2.2.2.1
  have hin6 : ∀ w ∈ u_ws RX6 TX6 6, w ∈ wsX11_collapse := by decide +kernel
  have hin9 : ∀ w ∈ u_ws RX9 TX9 7, w ∈ wsX11_collapse := by decide +kernel
  have hin11 : ∀ w ∈ u_ws RX11 TX11 11, w ∈ wsX11_collapse := by decide +kernel
  have main : ∀ k : Nat, (∀ (t : XT) (li : Nat → Int32) (lj : Nat → Int64) (H : Heap) (locs : List Loc) (ls : Array Slot), wpX11_collapse k 0 t li lj Q → lv_has ls 3 [(0, .ref (ad 0)), (1, .int (li 1))] → Hp D A s.heap (wX cI cJ cB cZ ad t) H locs → W p l e { frames := 3, cells := 0, slots := 0, locals := 85 } s m args below meth c H locs 0 0 (MQ below (va_Qi (fun r u => Q r u) (fun u t => xEnd D ((fun u : XT => (wX cI cJ cB cZ ad u)) u) A t) A) args s 0 0 A) (F0 m 0 ls [])) := by
    intro k
    induction k with
    | zero => exact fun _ _ _ _ _ _ hR => False.elim hR
    | succ k ih =>
      intro t li lj H locs ls hR hl h
      have hR : wbX11_collapse_0 (wpX11_collapse k) k t li lj Q := hR
      unfold wbX11_collapse_0 at hR
      refine lv_aload_n hx hb dX11_collapse_0 rfl (lv_at hl 0 rfl) ?_
      refine lv_iload_n hx hb dX11_collapse_1 rfl (lv_at hl 1 rfl) ?_
      refine x_cVIF (n := 1) (As := [.int (li 1)]) (rest := []) B h (wkX11_isThere l D cI cJ cB cZ ad k t (li 1) _ hR) ⟨⟨_, rfl⟩, by decide +kernel, Nat.le_of_ble_eq_true rfl, Nat.le_of_ble_eq_true rfl⟩ gX11_collapse_X11_isThere (show ((wX cI cJ cB cZ ad t) : va_W)[0]? = some (_, .inr (11, _)) from rfl) rfl rfl hl.1 rfl (Nat.le_of_ble_eq_true rfl) dX11_collapse_2 ⟨Nat.le_of_ble_eq_true rfl, Nat.le_of_ble_eq_true rfl⟩ (fun r_1 t_1 H locs hR h => ?_)
      refine lv_if_ne (tgt := 10) hx hb dX11_collapse_5 (by decide) (fun c_2 => ?_) (fun c_2 => ?_)
      · have hR := hR.1 c_2
        refine lv_aload_n hx hb dX11_collapse_10 rfl (lv_at hl 0 rfl) ?_
        refine lv_iload_n hx hb dX11_collapse_11 rfl (lv_at hl 1 rfl) ?_
        refine x_cVIF (n := 1) (As := [.int (li 1)]) (rest := []) B h (wkX11_isFree l D cI cJ cB cZ ad k t_1 (li 1) _ hR) ⟨⟨_, rfl⟩, by decide +kernel, Nat.le_of_ble_eq_true rfl, Nat.le_of_ble_eq_true rfl⟩ gX11_collapse_X11_isFree (show ((wX cI cJ cB cZ ad t_1) : va_W)[0]? = some (_, .inr (11, _)) from rfl) rfl rfl hl.1 rfl (Nat.le_of_ble_eq_true rfl) dX11_collapse_12 ⟨Nat.le_of_ble_eq_true rfl, Nat.le_of_ble_eq_true rfl⟩ (fun r_3 t_3 H locs hR h => ?_)
        refine lv_if_ne (tgt := 21) hx hb dX11_collapse_15 (by decide) (fun c_4 => ?_) (fun c_4 => ?_)
        · have hR := hR.1 c_4
          refine lv_aload_n hx hb dX11_collapse_21 rfl (lv_at hl 0 rfl) ?_
          refine x_get (ci := 11) (C := RX11) (T := TX11) (N := 11) (v := .ref (ad 9)) B h hin11 0 8 rfl rfl (by decide) (by decide +kernel) rfl dX11_collapse_22 ?_
          refine lv_aload_n hx hb dX11_collapse_25 rfl (lv_at hl 0 rfl) ?_
          refine x_get (ci := 11) (C := RX11) (T := TX11) (N := 11) (v := .ref (ad 4)) B h hin11 0 3 rfl rfl (by decide) (by decide +kernel) rfl dX11_collapse_26 ?_
          refine x_cVVF (n := 1) (As := [.ref (ad 4)]) (rest := []) B h (wkX3_save_c4 l D cI cJ cB cZ ad k t_3  _ hR) ⟨⟨_, rfl⟩, by decide +kernel, Nat.le_of_ble_eq_true rfl, Nat.le_of_ble_eq_true rfl⟩ gX11_collapse_X3_save (show ((wX cI cJ cB cZ ad t_3) : va_W)[9]? = some (_, .inr (3, _)) from rfl) rfl rfl hl.1 rfl (Nat.le_of_ble_eq_true rfl) dX11_collapse_29 ⟨Nat.le_of_ble_eq_true rfl, Nat.le_of_ble_eq_true rfl⟩ (fun t_5 H locs hR h => ?_)
          refine lv_aload_n hx hb dX11_collapse_32 rfl (lv_at hl 0 rfl) ?_
          refine x_get (ci := 11) (C := RX11) (T := TX11) (N := 11) (v := .ref (ad 3)) B h hin11 0 2 rfl rfl (by decide) (by decide +kernel) rfl dX11_collapse_33 ?_
          refine x_get (ci := 9) (C := RX9) (T := TX9) (N := 7) (v := .ref (ad 18)) B h hin9 3 5 rfl rfl (by decide) (by decide +kernel) rfl dX11_collapse_36 ?_
          refine lv_iload_n hx hb dX11_collapse_39 rfl (lv_at hl 1 rfl) ?_
          obtain ⟨hb_6, hR⟩ := hR
          refine va_lald (f := (t_5.2.2.2 1)) hx hb B.2.1 h.1 18 1 rfl rfl hb_6 dX11_collapse_40 ?_
          refine lv_topl (fun v_6 ev_6 => ?_)
          have hR := hR v_6 ev_6
          refine lv_aload_n hx hb dX11_collapse_41 rfl (lv_at hl 0 rfl) ?_
          refine x_get (ci := 11) (C := RX11) (T := TX11) (N := 11) (v := .ref (ad 4)) B h hin11 0 3 rfl rfl (by decide) (by decide +kernel) rfl dX11_collapse_42 ?_
          refine x_get (ci := 6) (C := RX6) (T := TX6) (N := 6) (v := .long (t_5.2.1 0)) B h hin6 4 2 rfl rfl (by decide) (by decide +kernel) rfl dX11_collapse_45 ?_
          refine lv_land hx hb dX11_collapse_48 ?_
          refine lv_topl (fun v_7 ev_7 => ?_)
          have hR := hR v_7 ev_7
          refine x_cSIE (n := 1) (As := [.long v_7]) (rest := []) B h (wkX11_lowest l D cI cJ cB cZ ad k v_7 _ hR) ⟨⟨_, rfl⟩, by decide +kernel, Nat.le_of_ble_eq_true rfl, Nat.le_of_ble_eq_true rfl⟩ gX11_collapse_X11_lowest rfl hl.1 rfl (Nat.le_of_ble_eq_true rfl) dX11_collapse_49 ⟨Nat.le_of_ble_eq_true rfl, Nat.le_of_ble_eq_true rfl⟩ (fun r_8 _ H locs hR h => ?_)
          refine lv_istore_n (lv' := [(2, .int r_8), (0, .ref (ad 0)), (1, .int (li 1))]) hx hb dX11_collapse_52 rfl hl (by decide) rfl (fun ls hl => ?_)
          refine lv_aload_n hx hb dX11_collapse_53 rfl (lv_at hl 1 rfl) ?_
          refine x_get (ci := 11) (C := RX11) (T := TX11) (N := 11) (v := .ref (ad 4)) B h hin11 0 3 rfl rfl (by decide) (by decide +kernel) rfl dX11_collapse_54 ?_
          refine lv_iload_n hx hb dX11_collapse_57 rfl (lv_at hl 2 rfl) ?_
          refine x_cVVF (n := 1) (As := [.int (li 1)]) (rest := []) B h (wkX6_drop l D cI cJ cB cZ ad k t_5 (li 1) _ hR) ⟨⟨_, rfl⟩, by decide +kernel, Nat.le_of_ble_eq_true rfl, Nat.le_of_ble_eq_true rfl⟩ gX11_collapse_X6_drop (show ((wX cI cJ cB cZ ad t_5) : va_W)[4]? = some (_, .inr (6, _)) from rfl) rfl rfl hl.1 rfl (Nat.le_of_ble_eq_true rfl) dX11_collapse_58 ⟨Nat.le_of_ble_eq_true rfl, Nat.le_of_ble_eq_true rfl⟩ (fun t_9 H locs hR h => ?_)
          refine lv_aload_n hx hb dX11_collapse_61 rfl (lv_at hl 1 rfl) ?_
          refine x_get (ci := 11) (C := RX11) (T := TX11) (N := 11) (v := .ref (ad 4)) B h hin11 0 3 rfl rfl (by decide) (by decide +kernel) rfl dX11_collapse_62 ?_
          refine lv_iload_n hx hb dX11_collapse_65 rfl (lv_at hl 0 rfl) ?_
          refine x_cVVF (n := 1) (As := [.int r_8]) (rest := []) B h (wkX6_drop l D cI cJ cB cZ ad k t_9 r_8 _ hR) ⟨⟨_, rfl⟩, by decide +kernel, Nat.le_of_ble_eq_true rfl, Nat.le_of_ble_eq_true rfl⟩ gX11_collapse_X6_drop (show ((wX cI cJ cB cZ ad t_9) : va_W)[4]? = some (_, .inr (6, _)) from rfl) rfl rfl hl.1 rfl (Nat.le_of_ble_eq_true rfl) dX11_collapse_66 ⟨Nat.le_of_ble_eq_true rfl, Nat.le_of_ble_eq_true rfl⟩ (fun t_10 H locs hR h => ?_)
          refine lv_aload_n hx hb dX11_collapse_69 rfl (lv_at hl 1 rfl) ?_
          refine x_get (ci := 11) (C := RX11) (T := TX11) (N := 11) (v := .ref (ad 4)) B h hin11 0 3 rfl rfl (by decide) (by decide +kernel) rfl dX11_collapse_70 ?_
          refine x_get (ci := 6) (C := RX6) (T := TX6) (N := 6) (v := .long (t_10.2.1 0)) B h hin6 4 2 rfl rfl (by decide) (by decide +kernel) rfl dX11_collapse_73 ?_
          refine x_cSIE (n := 1) (As := [.long (t_10.2.1 0)]) (rest := []) B h (wkJ13_bitCount_95d88 l D cI cJ cB cZ ad k (t_10.2.1 0) _ hR) ⟨⟨_, rfl⟩, by decide +kernel, Nat.le_of_ble_eq_true rfl, Nat.le_of_ble_eq_true rfl⟩ gX11_collapse_J13_bitCount_95d88 rfl hl.1 rfl (Nat.le_of_ble_eq_true rfl) dX11_collapse_76 ⟨Nat.le_of_ble_eq_true rfl, Nat.le_of_ble_eq_true rfl⟩ (fun r_11 _ H locs hR h => ?_)
          exact x_iret (w1 := (fun u : XT => (wX cI cJ cB cZ ad u))) t_10 B h hr rfl hR dX11_collapse_79
        · have hR := hR.2 c_4
          refine lv_bipush (v := (-2)) hx hb dX11_collapse_18 (by decide) ?_
          exact x_iret (w1 := (fun u : XT => (wX cI cJ cB cZ ad u))) t_3 B h hr rfl hR dX11_collapse_20
      · have hR := hR.2 c_2
        refine lv_iconst (v := (-1)) hx hb dX11_collapse_8 (by decide) ?_
        exact x_iret (w1 := (fun u : XT => (wX cI cJ cB cZ ad u))) t_1 B h hr rfl hR dX11_collapse_9
  exact (main k) t _ _ s.heap [] ls hR hl h
set_option maxRecDepth 20000 in
theorem ggX6_takeBack_X6_restart : GoodIn wsX6_takeBack wsX6_restart := goodIn_r _ [5, 6, 7, 8, 9, 10, 11, 12, 13, 14, 22, 23, 24, 25, 26, 27] (by decide +kernel) (by decide +kernel)
set_option maxRecDepth 20000 in
theorem gX6_takeBack_X6_restart : GoodIn wsX6_takeBack (wsV RX6 49 RX6 yX6_restart wsX6_restart) := goodIn_app (goodIn_of _ (by decide +kernel)) ggX6_takeBack_X6_restart
set_option maxRecDepth 20000 in
theorem ggX6_takeBack_X6_unite : GoodIn wsX6_takeBack wsX6_unite := goodIn_r _ [18, 6, 8, 9, 10, 19, 20, 21, 22, 23, 24, 25, 26, 27] (by decide +kernel) (by decide +kernel)
set_option maxRecDepth 20000 in
theorem gX6_takeBack_X6_unite : GoodIn wsX6_takeBack (wsV RX6 53 RX6 yX6_unite wsX6_unite) := goodIn_app (goodIn_of _ (by decide +kernel)) ggX6_takeBack_X6_unite
def wbX6_takeBack_c27_0 (rec : Nat → XT → (Nat → Int32) → (Nat → Int64) → (XT → Prop) → Prop) (k : Nat) (t : XT) (li : Nat → Int32) (lj : Nat → Int64) (Q : XT → Prop) : Prop :=
  (wqX6_restart k t (lj 3) (fun t_1 => rec 1 t_1 (uI li 5 0) lj Q))
def wbX6_takeBack_c27_1 (rec : Nat → XT → (Nat → Int32) → (Nat → Int64) → (XT → Prop) → Prop) (k : Nat) (t : XT) (li : Nat → Int32) (lj : Nat → Int64) (Q : XT → Prop) : Prop :=
  (((64 : Int32) ≤ (li 5)) → Q t) ∧ (¬ ((64 : Int32) ≤ (li 5)) → (∀ v_3 : Int32, v_3 = ((li 2) + (li 5)) → (((1024 : Int32) ≤ v_3) → Q t) ∧ (¬ ((1024 : Int32) ≤ v_3) → (∀ v_5 : Int32, v_5 = ((li 2) + (li 5)) → (vp_in v_5 1024 ∧ (∀ v_6 : Int32, v_6 = (t.2.2.1 9) v_5.toNatClampNeg → ((v_6 ≤ (li 5)) → rec 2 t (uI li 6 v_6) lj Q) ∧ (¬ (v_6 ≤ (li 5)) → (wqX6_unite k t (li 5) v_6 (fun t_8 => rec 2 t_8 (uI li 6 v_6) lj Q)))))))))
def wbX6_takeBack_c27_2 (rec : Nat → XT → (Nat → Int32) → (Nat → Int64) → (XT → Prop) → Prop) (k : Nat) (t : XT) (li : Nat → Int32) (lj : Nat → Int64) (Q : XT → Prop) : Prop :=
  (∀ v_9 : Int32, v_9 = (li 5) + Int32.ofInt 1 → rec 1 t (uI li 5 v_9) lj Q)
def wpX6_takeBack_c27 : Nat → Nat → XT → (Nat → Int32) → (Nat → Int64) → (XT → Prop) → Prop
  | 0, _, _, _, _, _ => False
  | k + 1, 0, t, li, lj, Q => wbX6_takeBack_c27_0 (wpX6_takeBack_c27 k) k t li lj Q
  | k + 1, 1, t, li, lj, Q => wbX6_takeBack_c27_1 (wpX6_takeBack_c27 k) k t li lj Q
  | k + 1, 2, t, li, lj, Q => wbX6_takeBack_c27_2 (wpX6_takeBack_c27 k) k t li lj Q
  | _ + 1, _, _, _, _, _ => False
def wqX6_takeBack_c27 (k : Nat) (t : XT) (a2 : Int32) (a3 : Int64) (Q : XT → Prop) : Prop := wpX6_takeBack_c27 k 0 t (uI (fun _ => 0) 2 a2) (uI (fun _ => 0) 3 a3) Q
set_option maxHeartbeats 8000000 in
set_option maxRecDepth 100000 in
theorem wkX6_takeBack_c27 (l : Launch) (D : va_G) (cI cJ cB cZ : ClassId) (ad : Nat → Nat) (k : Nat) (t : XT) (a2 : Int32) (a3 : Int64) (Q : XT → Prop) (hR : wqX6_takeBack_c27 k t a2 a3 Q) : MetV l yX6_takeBack wsX6_takeBack 2 45 0 0 D (TYS cI cJ cB cZ) (wX cI cJ cB cZ ad t) [.ref (ad 4), .ref (ad 27), .int a2, .long a3] (fun u => Q u) (fun u : XT => (wX cI cJ cB cZ ad u)) := by
  refine x_startV (ty := .int) (cc := cX6_takeBack) (by decide) rfl (Nat.le_of_ble_eq_true rfl) ?_
  intro p e s m args below meth c A ls B hr hnm h hl
  have hx := B.1.1
  have hb := B.1.2.1
  have hml := B.1.2.2.1
  have hts := B.1.2.2.2.2
  have hown : s.vm.findClass RX6 = some m.cls := B.1.2.2.2.1
  have main : ∀ k : Nat, (∀ (t : XT) (li : Nat → Int32) (lj : Nat → Int64) (H : Heap) (locs : List Loc) (ls : Array Slot), wpX6_takeBack_c27 k 0 t li lj Q → lv_has ls 7 [(0, .ref (ad 4)), (1, .ref (ad 27)), (2, .int (li 2)), (3, .long (lj 3))] → Hp D A s.heap (wX cI cJ cB cZ ad t) H locs → W p l e { frames := 2, cells := 0, slots := 0, locals := 45 } s m args below meth c H locs 0 0 (MQ below (va_Qv (fun u => Q u) (fun u t => xEnd D ((fun u : XT => (wX cI cJ cB cZ ad u)) u) A t) A) args s 0 0 A) (F0 m 0 ls [])) ∧
      (∀ (t : XT) (li : Nat → Int32) (lj : Nat → Int64) (H : Heap) (locs : List Loc) (ls : Array Slot), wpX6_takeBack_c27 k 1 t li lj Q → lv_has ls 7 [(0, .ref (ad 4)), (1, .ref (ad 27)), (2, .int (li 2)), (3, .long (lj 3)), (5, .int (li 5))] → Hp D A s.heap (wX cI cJ cB cZ ad t) H locs → W p l e { frames := 2, cells := 0, slots := 0, locals := 45 } s m args below meth c H locs 0 0 (MQ below (va_Qv (fun u => Q u) (fun u t => xEnd D ((fun u : XT => (wX cI cJ cB cZ ad u)) u) A t) A) args s 0 0 A) (F0 m 8 ls [])) ∧
      (∀ (t : XT) (li : Nat → Int32) (lj : Nat → Int64) (H : Heap) (locs : List Loc) (ls : Array Slot), wpX6_takeBack_c27 k 2 t li lj Q → lv_has ls 7 [(0, .ref (ad 4)), (1, .ref (ad 27)), (2, .int (li 2)), (3, .long (lj 3)), (5, .int (li 5)), (6, .int (li 6))] → Hp D A s.heap (wX cI cJ cB cZ ad t) H locs → W p l e { frames := 2, cells := 0, slots := 0, locals := 45 } s m args below meth c H locs 0 0 (MQ below (va_Qv (fun u => Q u) (fun u t => xEnd D ((fun u : XT => (wX cI cJ cB cZ ad u)) u) A t) A) args s 0 0 A) (F0 m 47 ls [])) := by
    intro k
    induction k with
    | zero => exact ⟨fun _ _ _ _ _ _ hR => False.elim hR, fun _ _ _ _ _ _ hR => False.elim hR, fun _ _ _ _ _ _ hR => False.elim hR⟩
    | succ k ih =>
      refine ⟨?_, ?_, ?_⟩
      · intro t li lj H locs ls hR hl h
        have hR : wbX6_takeBack_c27_0 (wpX6_takeBack_c27 k) k t li lj Q := hR
        unfold wbX6_takeBack_c27_0 at hR
        refine lv_aload_n hx hb dX6_takeBack_0 rfl (lv_at hl 0 rfl) ?_
        refine lv_lload_n hx hb dX6_takeBack_1 rfl (lv_at hl 3 rfl) ?_
        refine x_cVVF (n := 1) (As := [.long (lj 3)]) (rest := []) B h (wkX6_restart l D cI cJ cB cZ ad k t (lj 3) _ hR) ⟨⟨_, rfl⟩, by decide +kernel, Nat.le_of_ble_eq_true rfl, Nat.le_of_ble_eq_true rfl⟩ gX6_takeBack_X6_restart (show ((wX cI cJ cB cZ ad t) : va_W)[4]? = some (_, .inr (6, _)) from rfl) rfl rfl hl.1 rfl (Nat.le_of_ble_eq_true rfl) dX6_takeBack_2 ⟨Nat.le_of_ble_eq_true rfl, Nat.le_of_ble_eq_true rfl⟩ (fun t_1 H locs hR h => ?_)
        refine lv_iconst (v := 0) hx hb dX6_takeBack_5 (by decide) ?_
        refine lv_istore (lv' := [(5, .int 0), (0, .ref (ad 4)), (1, .ref (ad 27)), (2, .int (li 2)), (3, .long (lj 3))]) hx hb dX6_takeBack_6 hl (by decide) rfl (fun ls hl => ?_)
        exact ih.2.1 t_1 (uI li 5 0) lj H locs ls hR (lv_sub hl [1, 2, 3, 4, 0] rfl) h
      · intro t li lj H locs ls hR hl h
        have hR : wbX6_takeBack_c27_1 (wpX6_takeBack_c27 k) k t li lj Q := hR
        unfold wbX6_takeBack_c27_1 at hR
        refine lv_iload hx hb dX6_takeBack_8 (lv_at hl 4 rfl) ?_
        refine lv_bipush (v := 64) hx hb dX6_takeBack_10 (by decide) ?_
        refine lv_icmp_ge (tgt := 53) hx hb dX6_takeBack_12 (by decide) (fun c_2 => ?_) (fun c_2 => ?_)
        · have hR := hR.1 c_2
          exact x_vret (w1 := (fun u : XT => (wX cI cJ cB cZ ad u))) t B h hr hR dX6_takeBack_53
        · have hR := hR.2 c_2
          refine lv_iload_n hx hb dX6_takeBack_15 rfl (lv_at hl 2 rfl) ?_
          refine lv_iload hx hb dX6_takeBack_16 (lv_at hl 4 rfl) ?_
          refine lv_iadd hx hb dX6_takeBack_18 ?_
          refine lv_topi (fun v_3 ev_3 => ?_)
          have hR := hR v_3 ev_3
          refine lv_aload_n hx hb dX6_takeBack_19 rfl (lv_at hl 1 rfl) ?_
          refine va_alen (v := 1024) hx hb B.2.1 h.1 27 0 rfl rfl (show Int32.ofNat 1024 = 1024 from by decide) dX6_takeBack_20 ?_
          refine lv_icmp_ge (tgt := 53) hx hb dX6_takeBack_21 (by decide) (fun c_4 => ?_) (fun c_4 => ?_)
          · have hR := hR.1 c_4
            exact x_vret (w1 := (fun u : XT => (wX cI cJ cB cZ ad u))) t B h hr hR dX6_takeBack_53
          · have hR := hR.2 c_4
            refine lv_aload_n hx hb dX6_takeBack_24 rfl (lv_at hl 1 rfl) ?_
            refine lv_iload_n hx hb dX6_takeBack_25 rfl (lv_at hl 2 rfl) ?_
            refine lv_iload hx hb dX6_takeBack_26 (lv_at hl 4 rfl) ?_
            refine lv_iadd hx hb dX6_takeBack_28 ?_
            refine lv_topi (fun v_5 ev_5 => ?_)
            have hR := hR v_5 ev_5
            obtain ⟨hb_6, hR⟩ := hR
            refine va_iald (f := (t.2.2.1 9)) hx hb B.2.1 h.1 27 0 rfl rfl hb_6 dX6_takeBack_29 ?_
            refine lv_topi (fun v_6 ev_6 => ?_)
            have hR := hR v_6 ev_6
            refine lv_istore (lv' := [(6, .int v_6), (0, .ref (ad 4)), (1, .ref (ad 27)), (2, .int (li 2)), (3, .long (lj 3)), (5, .int (li 5))]) hx hb dX6_takeBack_30 hl (by decide) rfl (fun ls hl => ?_)
            refine lv_iload hx hb dX6_takeBack_32 (lv_at hl 0 rfl) ?_
            refine lv_iload hx hb dX6_takeBack_34 (lv_at hl 5 rfl) ?_
            refine lv_icmp_le (tgt := 47) hx hb dX6_takeBack_36 (by decide) (fun c_7 => ?_) (fun c_7 => ?_)
            · have hR := hR.1 c_7
              exact ih.2.2 t (uI li 6 v_6) lj H locs ls hR (lv_sub hl [1, 2, 3, 4, 5, 0] rfl) h
            · have hR := hR.2 c_7
              refine lv_aload_n hx hb dX6_takeBack_39 rfl (lv_at hl 1 rfl) ?_
              refine lv_iload hx hb dX6_takeBack_40 (lv_at hl 5 rfl) ?_
              refine lv_iload hx hb dX6_takeBack_42 (lv_at hl 0 rfl) ?_
              refine x_cVVF (n := 2) (As := [.int (li 5), .int v_6]) (rest := []) B h (wkX6_unite l D cI cJ cB cZ ad k t (li 5) v_6 _ hR) ⟨⟨_, rfl⟩, by decide +kernel, Nat.le_of_ble_eq_true rfl, Nat.le_of_ble_eq_true rfl⟩ gX6_takeBack_X6_unite (show ((wX cI cJ cB cZ ad t) : va_W)[4]? = some (_, .inr (6, _)) from rfl) rfl rfl hl.1 rfl (Nat.le_of_ble_eq_true rfl) dX6_takeBack_44 ⟨Nat.le_of_ble_eq_true rfl, Nat.le_of_ble_eq_true rfl⟩ (fun t_8 H locs hR h => ?_)
              exact ih.2.2 t_8 (uI li 6 v_6) lj H locs ls hR (lv_sub hl [1, 2, 3, 4, 5, 0] rfl) h
      · intro t li lj H locs ls hR hl h
        have hR : wbX6_takeBack_c27_2 (wpX6_takeBack_c27 k) k t li lj Q := hR
        unfold wbX6_takeBack_c27_2 at hR
        obtain ⟨v_9, ev_9⟩ : ∃ v : Int32, v = (li 5) + Int32.ofInt 1 := ⟨_, rfl⟩
        have hR := hR v_9 ev_9
        refine lv_iinc (v := v_9) (lv' := [(5, .int v_9), (0, .ref (ad 4)), (1, .ref (ad 27)), (2, .int (li 2)), (3, .long (lj 3)), (6, .int (li 6))]) hx hb dX6_takeBack_47 hl (k := 4) rfl ev_9.symm (by decide) rfl (fun ls hl => ?_)
        refine lv_goto (tgt := 8) hx hb dX6_takeBack_50 (by decide) ?_
        exact ih.2.1 t (uI li 5 v_9) lj H locs ls hR (lv_sub hl [1, 2, 3, 4, 0] rfl) h
  exact (main k).1 t _ _ s.heap [] ls hR hl h
set_option maxRecDepth 20000 in
theorem ggX3_restore_X6_takeBack : GoodIn wsX3_restore wsX6_takeBack := goodIn_r _ [9, 10, 11, 12, 8, 13, 14, 15, 16, 17, 18, 19, 20, 21, 22, 23, 24, 25, 26, 27, 28, 29, 34, 35, 36, 37, 38, 39] (by decide +kernel) (by decide +kernel)
set_option maxRecDepth 20000 in
theorem gX3_restore_X6_takeBack : GoodIn wsX3_restore (wsV RX3 47 RX6 yX6_takeBack wsX6_takeBack) := goodIn_app (goodIn_of _ (by decide +kernel)) ggX3_restore_X6_takeBack
def wbX3_restore_c4_0 (rec : Nat → XT → (Nat → Int32) → (Nat → Int64) → (XT → Prop) → Prop) (k : Nat) (t : XT) (li : Nat → Int32) (lj : Nat → Int64) (Q : XT → Prop) : Prop :=
  ((¬ (t.1 8) = 0) → (∀ v_2 : Int32, v_2 = ((t.1 9) + 16) → (∀ v_3 : Int32, v_3 = (v_2 - 1) → ((¬ (16 : Int32) = 0) ∧ (∀ v_4 : Int32, v_4 = (v_3 - v_3 / 16 * 16) → (∀ t_5 : XT, t_5 = sI t 9 v_4 → (∀ v_6 : Int32, v_6 = ((t_5.1 8) - 1) → (∀ t_7 : XT, t_7 = sI t_5 8 v_6 → (∀ v_8 : Int32, v_8 = ((t_7.1 9) * 64) → (vp_in (t_7.1 9) 16 ∧ (∀ v_9 : Int64, v_9 = (t_7.2.2.2 6) (t_7.1 9).toNatClampNeg → (wqX6_takeBack_c27 k t_7 v_8 v_9 (fun t_10 => Q t_10))))))))))))) ∧ (((t.1 8) = 0) → Q t)
def wpX3_restore_c4 : Nat → Nat → XT → (Nat → Int32) → (Nat → Int64) → (XT → Prop) → Prop
  | 0, _, _, _, _, _ => False
  | k + 1, 0, t, li, lj, Q => wbX3_restore_c4_0 (wpX3_restore_c4 k) k t li lj Q
  | _ + 1, _, _, _, _, _ => False
def wqX3_restore_c4 (k : Nat) (t : XT)  (Q : XT → Prop) : Prop := wpX3_restore_c4 k 0 t (fun _ => 0) (fun _ => 0) Q
set_option maxHeartbeats 8000000 in
set_option maxRecDepth 100000 in
theorem wkX3_restore_c4 (l : Launch) (D : va_G) (cI cJ cB cZ : ClassId) (ad : Nat → Nat) (k : Nat) (t : XT)  (Q : XT → Prop) (hR : wqX3_restore_c4 k t  Q) : MetV l yX3_restore wsX3_restore 3 71 0 0 D (TYS cI cJ cB cZ) (wX cI cJ cB cZ ad t) [.ref (ad 9), .ref (ad 4)] (fun u => Q u) (fun u : XT => (wX cI cJ cB cZ ad u)) := by
  refine x_startV (ty := .int) (cc := cX3_restore) (by decide) rfl (Nat.le_of_ble_eq_true rfl) ?_
  intro p e s m args below meth c A ls B hr hnm h hl
  have hx := B.1.1
  have hb := B.1.2.1
  have hml := B.1.2.2.1
  have hts := B.1.2.2.2.2
  have hown : s.vm.findClass RX3 = some m.cls := B.1.2.2.2.1
  have hin3 : ∀ w ∈ u_ws RX3 TX3 4, w ∈ wsX3_restore := by decide +kernel
  have main : ∀ k : Nat, (∀ (t : XT) (li : Nat → Int32) (lj : Nat → Int64) (H : Heap) (locs : List Loc) (ls : Array Slot), wpX3_restore_c4 k 0 t li lj Q → lv_has ls 2 [(0, .ref (ad 9)), (1, .ref (ad 4))] → Hp D A s.heap (wX cI cJ cB cZ ad t) H locs → W p l e { frames := 3, cells := 0, slots := 0, locals := 71 } s m args below meth c H locs 0 0 (MQ below (va_Qv (fun u => Q u) (fun u t => xEnd D ((fun u : XT => (wX cI cJ cB cZ ad u)) u) A t) A) args s 0 0 A) (F0 m 0 ls [])) := by
    intro k
    induction k with
    | zero => exact fun _ _ _ _ _ _ hR => False.elim hR
    | succ k ih =>
      intro t li lj H locs ls hR hl h
      have hR : wbX3_restore_c4_0 (wpX3_restore_c4 k) k t li lj Q := hR
      unfold wbX3_restore_c4_0 at hR
      refine lv_aload_n hx hb dX3_restore_0 rfl (lv_at hl 0 rfl) ?_
      refine x_get (ci := 3) (C := RX3) (T := TX3) (N := 4) (v := .int (t.1 8)) B h hin3 9 2 rfl rfl (by decide) (by decide +kernel) rfl dX3_restore_1 ?_
      refine lv_if_ne (tgt := 8) hx hb dX3_restore_4 (by decide) (fun c_1 => ?_) (fun c_1 => ?_)
      · have hR := hR.1 c_1
        refine lv_aload_n hx hb dX3_restore_8 rfl (lv_at hl 0 rfl) ?_
        refine lv_aload_n hx hb dX3_restore_9 rfl (lv_at hl 0 rfl) ?_
        refine x_get (ci := 3) (C := RX3) (T := TX3) (N := 4) (v := .int (t.1 9)) B h hin3 9 3 rfl rfl (by decide) (by decide +kernel) rfl dX3_restore_10 ?_
        refine lv_bipush (v := 16) hx hb dX3_restore_13 (by decide) ?_
        refine lv_iadd hx hb dX3_restore_15 ?_
        refine lv_topi (fun v_2 ev_2 => ?_)
        have hR := hR v_2 ev_2
        refine lv_iconst (v := 1) hx hb dX3_restore_16 (by decide) ?_
        refine lv_isub hx hb dX3_restore_17 ?_
        refine lv_topi (fun v_3 ev_3 => ?_)
        have hR := hR v_3 ev_3
        refine lv_bipush (v := 16) hx hb dX3_restore_18 (by decide) ?_
        obtain ⟨hd_4, hR⟩ := hR
        refine lv_irem hx hb dX3_restore_20 hd_4 ?_
        refine lv_topi (fun v_4 ev_4 => ?_)
        have hR := hR v_4 ev_4
        refine x_put (ci := 3) (C := RX3) (T := TX3) (N := 4) (v := .int v_4) (ty := .int) B h hin3 tyX3 tyX3_ok nmX3 9 3 rfl rfl (by decide) (by decide +kernel) rfl rfl rfl rfl (Nat.le_of_ble_eq_true rfl) dX3_restore_21 (fun H locs h => ?_)
        obtain ⟨t_5, et_5⟩ : ∃ v : XT, v = sI t 9 v_4 := ⟨_, rfl⟩
        have hR := hR t_5 et_5
        have h : Hp D A s.heap (wX cI cJ cB cZ ad t_5) H locs := by rw [et_5]; exact h
        refine lv_aload_n hx hb dX3_restore_24 rfl (lv_at hl 0 rfl) ?_
        refine lv_dup hx hb dX3_restore_25 rfl ?_
        refine x_get (ci := 3) (C := RX3) (T := TX3) (N := 4) (v := .int (t_5.1 8)) B h hin3 9 2 rfl rfl (by decide) (by decide +kernel) rfl dX3_restore_26 ?_
        refine lv_iconst (v := 1) hx hb dX3_restore_29 (by decide) ?_
        refine lv_isub hx hb dX3_restore_30 ?_
        refine lv_topi (fun v_6 ev_6 => ?_)
        have hR := hR v_6 ev_6
        refine x_put (ci := 3) (C := RX3) (T := TX3) (N := 4) (v := .int v_6) (ty := .int) B h hin3 tyX3 tyX3_ok nmX3 9 2 rfl rfl (by decide) (by decide +kernel) rfl rfl rfl rfl (Nat.le_of_ble_eq_true rfl) dX3_restore_31 (fun H locs h => ?_)
        obtain ⟨t_7, et_7⟩ : ∃ v : XT, v = sI t_5 8 v_6 := ⟨_, rfl⟩
        have hR := hR t_7 et_7
        have h : Hp D A s.heap (wX cI cJ cB cZ ad t_7) H locs := by rw [et_7]; exact h
        refine lv_aload_n hx hb dX3_restore_34 rfl (lv_at hl 1 rfl) ?_
        refine lv_aload_n hx hb dX3_restore_35 rfl (lv_at hl 0 rfl) ?_
        refine x_get (ci := 3) (C := RX3) (T := TX3) (N := 4) (v := .ref (ad 27)) B h hin3 9 0 rfl rfl (by decide) (by decide +kernel) rfl dX3_restore_36 ?_
        refine lv_aload_n hx hb dX3_restore_39 rfl (lv_at hl 0 rfl) ?_
        refine x_get (ci := 3) (C := RX3) (T := TX3) (N := 4) (v := .int (t_7.1 9)) B h hin3 9 3 rfl rfl (by decide) (by decide +kernel) rfl dX3_restore_40 ?_
        refine lv_bipush (v := 64) hx hb dX3_restore_43 (by decide) ?_
        refine lv_imul hx hb dX3_restore_45 ?_
        refine lv_topi (fun v_8 ev_8 => ?_)
        have hR := hR v_8 ev_8
        refine lv_aload_n hx hb dX3_restore_46 rfl (lv_at hl 0 rfl) ?_
        refine x_get (ci := 3) (C := RX3) (T := TX3) (N := 4) (v := .ref (ad 28)) B h hin3 9 1 rfl rfl (by decide) (by decide +kernel) rfl dX3_restore_47 ?_
        refine lv_aload_n hx hb dX3_restore_50 rfl (lv_at hl 0 rfl) ?_
        refine x_get (ci := 3) (C := RX3) (T := TX3) (N := 4) (v := .int (t_7.1 9)) B h hin3 9 3 rfl rfl (by decide) (by decide +kernel) rfl dX3_restore_51 ?_
        obtain ⟨hb_9, hR⟩ := hR
        refine va_lald (f := (t_7.2.2.2 6)) hx hb B.2.1 h.1 28 1 rfl rfl hb_9 dX3_restore_54 ?_
        refine lv_topl (fun v_9 ev_9 => ?_)
        have hR := hR v_9 ev_9
        refine x_cVVF (n := 3) (As := [.ref (ad 27), .int v_8, .long v_9]) (rest := []) B h (wkX6_takeBack_c27 l D cI cJ cB cZ ad k t_7 v_8 v_9 _ hR) ⟨⟨_, rfl⟩, by decide +kernel, Nat.le_of_ble_eq_true rfl, Nat.le_of_ble_eq_true rfl⟩ gX3_restore_X6_takeBack (show ((wX cI cJ cB cZ ad t_7) : va_W)[4]? = some (_, .inr (6, _)) from rfl) rfl rfl hl.1 rfl (Nat.le_of_ble_eq_true rfl) dX3_restore_55 ⟨Nat.le_of_ble_eq_true rfl, Nat.le_of_ble_eq_true rfl⟩ (fun t_10 H locs hR h => ?_)
        exact x_vret (w1 := (fun u : XT => (wX cI cJ cB cZ ad u))) t_10 B h hr hR dX3_restore_58
      · have hR := hR.2 c_1
        exact x_vret (w1 := (fun u : XT => (wX cI cJ cB cZ ad u))) t B h hr hR dX3_restore_7
  exact (main k) t _ _ s.heap [] ls hR hl h
