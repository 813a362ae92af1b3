set_option maxRecDepth 20000 in
theorem ggX11_through_X11_areEnds : GoodIn wsX11_through wsX11_areEnds := goodIn_r _ [11, 3, 4, 12, 13, 14, 15, 10, 16, 17, 18, 19, 20, 21, 22, 23, 24, 25, 26, 27, 28, 29, 30, 31, 32, 33, 34, 35, 36, 37, 38, 39, 135, 136, 137, 138, 139, 140, 141, 142, 143, 144, 145, 146, 147, 148, 149, 150, 151, 152, 160, 161, 162, 163, 164, 165] (by decide +kernel) (by decide +kernel)
set_option maxRecDepth 20000 in
theorem gX11_through_X11_areEnds : GoodIn wsX11_through (wsV RX11 203 RX11 yX11_areEnds wsX11_areEnds) := goodIn_app (goodIn_of _ (by decide +kernel)) ggX11_through_X11_areEnds
set_option maxRecDepth 20000 in
theorem ggX11_through_X11_isThere : GoodIn wsX11_through wsX11_isThere := goodIn_r _ [16, 3, 12, 17, 18, 19, 20, 21, 22, 23, 24, 25, 10, 26, 135, 136, 137, 138, 139, 140, 141, 142, 143, 144, 145, 160, 161, 162, 163, 164, 165, 146, 147, 148, 149, 150, 151, 152] (by decide +kernel) (by decide +kernel)
set_option maxRecDepth 20000 in
theorem gX11_through_X11_isThere : GoodIn wsX11_through (wsV RX11 130 RX11 yX11_isThere wsX11_isThere) := goodIn_app (goodIn_of _ (by decide +kernel)) ggX11_through_X11_isThere
set_option maxRecDepth 20000 in
theorem ggX11_through_X1_start : GoodIn wsX11_through wsX1_start := goodIn_r _ [44, 45, 46, 47, 48, 49, 50, 51, 52, 53, 54, 55, 56, 57, 58, 59, 60, 61, 62, 63, 64, 65, 66, 67, 68, 69, 25, 10, 26, 70, 71, 72, 30, 73, 74, 75, 76, 77, 78, 79, 80, 81, 153, 154, 155, 156, 157, 158, 159, 166, 167, 168, 169, 170, 171, 160, 161, 162, 163, 164, 165, 146, 147, 148, 149, 150, 151, 152] (by decide +kernel) (by decide +kernel)
set_option maxRecDepth 20000 in
theorem gX11_through_X1_start : GoodIn wsX11_through (wsV RX11 246 RX1 yX1_start wsX1_start) := goodIn_app (goodIn_of _ (by decide +kernel)) ggX11_through_X1_start
set_option maxRecDepth 20000 in
theorem ggX11_through_X1_pour : GoodIn wsX11_through wsX1_pour := goodIn_r _ [85, 45, 86, 87, 46, 88, 89, 90, 91, 92, 43, 93, 94, 95, 96, 97, 30, 98, 74, 75, 76, 39, 99, 10, 100, 101, 102, 103, 104, 105, 106, 107, 108, 109, 110, 21, 111, 112, 113, 25, 26, 114, 115, 116, 117, 118, 119, 120, 121, 122, 123, 124, 125, 153, 154, 155, 156, 157, 158, 159, 166, 167, 168, 169, 170, 171, 146, 147, 148, 149, 150, 151, 152, 160, 161, 162, 163, 164, 165] (by decide +kernel) (by decide +kernel)
set_option maxRecDepth 20000 in
theorem gX11_through_X1_pour : GoodIn wsX11_through (wsV RX11 249 RX1 yX1_pour wsX1_pour) := goodIn_app (goodIn_of _ (by decide +kernel)) ggX11_through_X1_pour
set_option maxRecDepth 20000 in
theorem ggX11_through_X1_countWays : GoodIn wsX11_through wsX1_countWays := goodIn_r _ [129, 45, 130, 86, 87, 88, 89, 94, 125, 47, 48, 49, 50, 51, 52, 53, 54, 55, 56, 57, 58, 59, 60, 61, 62, 63, 64, 65, 66, 67, 68, 69, 25, 10, 26, 70, 71, 72, 30, 73, 74, 75, 76, 77, 78, 79, 80, 81, 131, 132, 133, 43, 134, 95, 96, 97, 98, 39, 99, 100, 101, 102, 103, 104, 105, 106, 107, 153, 154, 155, 156, 157, 158, 159, 166, 167, 168, 169, 170, 171, 146, 147, 148, 149, 150, 151, 152, 160, 161, 162, 163, 164, 165] (by decide +kernel) (by decide +kernel)
set_option maxRecDepth 20000 in
theorem gX11_through_X1_countWays : GoodIn wsX11_through (wsV RX11 206 RX1 yX1_countWays wsX1_countWays) := goodIn_app (goodIn_of _ (by decide +kernel)) ggX11_through_X1_countWays
def wbX11_through_0 (rec : Nat → XT → (Nat → Int32) → (Nat → Int64) → (Int64 → XT → Prop) → Prop) (k : Nat) (t : XT) (li : Nat → Int32) (lj : Nat → Int64) (Q : Int64 → XT → Prop) : Prop :=
  (wqX11_areEnds k t (li 1) (li 2) (fun r_1 t_1 => ((r_1 = 0) → rec 1 t_1 li lj Q) ∧ (¬ (r_1 = 0) → (wqX11_isThere k t_1 (li 3) (fun r_3 t_3 => ((¬ r_3 = 0) → (wqX1_start k t_3 (li 1) (fun t_5 => (vp_in (li 1) 64 ∧ (∀ v_6 : Int32, v_6 = (t_5.2.2.1 3) (li 1).toNatClampNeg → (wqX1_pour k t_5 v_6 0 (fun t_7 => (wqX1_countWays k t_7 (li 1) (li 2) (fun r_8 t_8 => (vp_in (li 3) 64 ∧ (∀ v_9 : Int64, v_9 = (t_8.2.2.2 3) (li 3).toNatClampNeg → (vp_in (li 3) 64 ∧ (∀ v_10 : Int64, v_10 = (t_8.2.2.2 4) (li 3).toNatClampNeg → (∀ v_11 : Int64, v_11 = (v_9 * v_10) → Q v_11 t_8)))))))))))))) ∧ ((r_3 = 0) → rec 1 t_3 li lj Q))))))
def wbX11_through_1 (rec : Nat → XT → (Nat → Int32) → (Nat → Int64) → (Int64 → XT → Prop) → Prop) (k : Nat) (t : XT) (li : Nat → Int32) (lj : Nat → Int64) (Q : Int64 → XT → Prop) : Prop :=
  Q (-1) t
def wpX11_through : Nat → Nat → XT → (Nat → Int32) → (Nat → Int64) → (Int64 → XT → Prop) → Prop
  | 0, _, _, _, _, _ => False
  | k + 1, 0, t, li, lj, Q => wbX11_through_0 (wpX11_through k) k t li lj Q
  | k + 1, 1, t, li, lj, Q => wbX11_through_1 (wpX11_through k) k t li lj Q
  | _ + 1, _, _, _, _, _ => False
def wqX11_through (k : Nat) (t : XT) (a1 : Int32) (a2 : Int32) (a3 : Int32) (Q : Int64 → XT → Prop) : Prop := wpX11_through k 0 t (uI (uI (uI (fun _ => 0) 1 a1) 2 a2) 3 a3) (fun _ => 0) Q
set_option maxHeartbeats 8000000 in
set_option maxRecDepth 100000 in
theorem wkX11_through (l : Launch) (D : va_G) (cI cJ cB cZ : ClassId) (ad : Nat → Nat) (k : Nat) (t : XT) (a1 : Int32) (a2 : Int32) (a3 : Int32) (Q : Int64 → XT → Prop) (hR : wqX11_through k t a1 a2 a3 Q) : MetL l yX11_through wsX11_through 4 96 0 0 D (TYS cI cJ cB cZ) (wX cI cJ cB cZ ad t) [.ref (ad 0), .int a1, .int a2, .int a3] (fun r u => Q r u) (fun u : XT => (wX cI cJ cB cZ ad u)) := by
  refine x_startL (ty := .long) (cc := cX11_through) (by decide) rfl (Nat.le_of_ble_eq_true rfl) ?_
  intro p e s m args below meth c A ls B hr hnm h hl
  have hx := B.1.1
  have hb := B.1.2.1
  have hml := B.1.2.2.1
  have hts := B.1.2.2.2.2
  have hown : s.vm.findClass RX11 = some m.cls := B.1.2.2.2.1
  have hin1 : ∀ w ∈ u_ws RX1 TX1 7, w ∈ wsX11_through := by decide +kernel
  have hin9 : ∀ w ∈ u_ws RX9 TX9 7, w ∈ wsX11_through := by decide +kernel
  have hin11 : ∀ w ∈ u_ws RX11 TX11 11, w ∈ wsX11_through := by decide +kernel
  have main : ∀ k : Nat, (∀ (t : XT) (li : Nat → Int32) (lj : Nat → Int64) (H : Heap) (locs : List Loc) (ls : Array Slot), wpX11_through k 0 t li lj Q → lv_has ls 4 [(0, .ref (ad 0)), (1, .int (li 1)), (2, .int (li 2)), (3, .int (li 3))] → Hp D A s.heap (wX cI cJ cB cZ ad t) H locs → W p l e { frames := 4, cells := 0, slots := 0, locals := 96 } s m args below meth c H locs 0 0 (MQ below (va_Ql (fun r u => Q r u) (fun u t => xEnd D ((fun u : XT => (wX cI cJ cB cZ ad u)) u) A t) A) args s 0 0 A) (F0 m 0 ls [])) ∧
      (∀ (t : XT) (li : Nat → Int32) (lj : Nat → Int64) (H : Heap) (locs : List Loc) (ls : Array Slot), wpX11_through k 1 t li lj Q → lv_has ls 4 [(0, .ref (ad 0)), (1, .int (li 1)), (2, .int (li 2)), (3, .int (li 3))] → Hp D A s.heap (wX cI cJ cB cZ ad t) H locs → W p l e { frames := 4, cells := 0, slots := 0, locals := 96 } s m args below meth c H locs 0 0 (MQ below (va_Ql (fun r u => Q r u) (fun u t => xEnd D ((fun u : XT => (wX cI cJ cB cZ ad u)) u) A t) A) args s 0 0 A) (F0 m 17 ls [])) := by
    intro k
    induction k with
    | zero => exact ⟨fun _ _ _ _ _ _ hR => False.elim hR, fun _ _ _ _ _ _ hR => False.elim hR⟩
    | succ k ih =>
      refine ⟨?_, ?_⟩
      · intro t li lj H locs ls hR hl h
        have hR : wbX11_through_0 (wpX11_through k) k t li lj Q := hR
        unfold wbX11_through_0 at hR
        refine lv_aload_n hx hb dX11_through_0 rfl (lv_at hl 0 rfl) ?_
        refine lv_iload_n hx hb dX11_through_1 rfl (lv_at hl 1 rfl) ?_
        refine lv_iload_n hx hb dX11_through_2 rfl (lv_at hl 2 rfl) ?_
        refine x_cVIF (n := 2) (As := [.int (li 1), .int (li 2)]) (rest := []) B h (wkX11_areEnds l D cI cJ cB cZ ad k t (li 1) (li 2) _ hR) ⟨⟨_, rfl⟩, by decide +kernel, Nat.le_of_ble_eq_true rfl, Nat.le_of_ble_eq_true rfl⟩ gX11_through_X11_areEnds (show ((wX cI cJ cB cZ ad t) : va_W)[0]? = some (_, .inr (11, _)) from rfl) rfl rfl hl.1 rfl (Nat.le_of_ble_eq_true rfl) dX11_through_3 ⟨Nat.le_of_ble_eq_true rfl, Nat.le_of_ble_eq_true rfl⟩ (fun r_1 t_1 H locs hR h => ?_)
        refine lv_if_eq (tgt := 17) hx hb dX11_through_6 (by decide) (fun c_2 => ?_) (fun c_2 => ?_)
        · have hR := hR.1 c_2
          exact ih.2 t_1 li lj H locs ls hR (lv_sub hl [0, 1, 2, 3] rfl) h
        · have hR := hR.2 c_2
          refine lv_aload_n hx hb dX11_through_9 rfl (lv_at hl 0 rfl) ?_
          refine lv_iload_n hx hb dX11_through_10 rfl (lv_at hl 3 rfl) ?_
          refine x_cVIF (n := 1) (As := [.int (li 3)]) (rest := []) B h (wkX11_isThere l D cI cJ cB cZ ad k t_1 (li 3) _ hR) ⟨⟨_, rfl⟩, by decide +kernel, Nat.le_of_ble_eq_true rfl, Nat.le_of_ble_eq_true rfl⟩ gX11_through_X11_isThere (show ((wX cI cJ cB cZ ad t_1) : va_W)[0]? = some (_, .inr (11, _)) from rfl) rfl rfl hl.1 rfl (Nat.le_of_ble_eq_true rfl) dX11_through_11 ⟨Nat.le_of_ble_eq_true rfl, Nat.le_of_ble_eq_true rfl⟩ (fun r_3 t_3 H locs hR h => ?_)
          refine lv_if_ne (tgt := 21) hx hb dX11_through_14 (by decide) (fun c_4 => ?_) (fun c_4 => ?_)
          · have hR := hR.1 c_4
            refine lv_aload_n hx hb dX11_through_21 rfl (lv_at hl 0 rfl) ?_
            refine x_get (ci := 11) (C := RX11) (T := TX11) (N := 11) (v := .ref (ad 7)) B h hin11 0 6 rfl rfl (by decide) (by decide +kernel) rfl dX11_through_22 ?_
            refine lv_iload_n hx hb dX11_through_25 rfl (lv_at hl 1 rfl) ?_
            refine x_cVVF (n := 1) (As := [.int (li 1)]) (rest := []) B h (wkX1_start l D cI cJ cB cZ ad k t_3 (li 1) _ hR) ⟨⟨_, rfl⟩, by decide +kernel, Nat.le_of_ble_eq_true rfl, Nat.le_of_ble_eq_true rfl⟩ gX11_through_X1_start (show ((wX cI cJ cB cZ ad t_3) : va_W)[7]? = some (_, .inr (1, _)) from rfl) rfl rfl hl.1 rfl (Nat.le_of_ble_eq_true rfl) dX11_through_26 ⟨Nat.le_of_ble_eq_true rfl, Nat.le_of_ble_eq_true rfl⟩ (fun t_5 H locs hR h => ?_)
            refine lv_aload_n hx hb dX11_through_29 rfl (lv_at hl 0 rfl) ?_
            refine x_get (ci := 11) (C := RX11) (T := TX11) (N := 11) (v := .ref (ad 7)) B h hin11 0 6 rfl rfl (by decide) (by decide +kernel) rfl dX11_through_30 ?_
            refine lv_aload_n hx hb dX11_through_33 rfl (lv_at hl 0 rfl) ?_
            refine x_get (ci := 11) (C := RX11) (T := TX11) (N := 11) (v := .ref (ad 3)) B h hin11 0 2 rfl rfl (by decide) (by decide +kernel) rfl dX11_through_34 ?_
            refine x_get (ci := 9) (C := RX9) (T := TX9) (N := 7) (v := .ref (ad 15)) B h hin9 3 2 rfl rfl (by decide) (by decide +kernel) rfl dX11_through_37 ?_
            refine lv_iload_n hx hb dX11_through_40 rfl (lv_at hl 1 rfl) ?_
            obtain ⟨hb_6, hR⟩ := hR
            refine va_iald (f := (t_5.2.2.1 3)) hx hb B.2.1 h.1 15 0 rfl rfl hb_6 dX11_through_41 ?_
            refine lv_topi (fun v_6 ev_6 => ?_)
            have hR := hR v_6 ev_6
            refine lv_iconst (v := 0) hx hb dX11_through_42 (by decide) ?_
            refine x_cVVF (n := 2) (As := [.int v_6, .int 0]) (rest := []) B h (wkX1_pour l D cI cJ cB cZ ad k t_5 v_6 0 _ hR) ⟨⟨_, rfl⟩, by decide +kernel, Nat.le_of_ble_eq_true rfl, Nat.le_of_ble_eq_true rfl⟩ gX11_through_X1_pour (show ((wX cI cJ cB cZ ad t_5) : va_W)[7]? = some (_, .inr (1, _)) from rfl) rfl rfl hl.1 rfl (Nat.le_of_ble_eq_true rfl) dX11_through_43 ⟨Nat.le_of_ble_eq_true rfl, Nat.le_of_ble_eq_true rfl⟩ (fun t_7 H locs hR h => ?_)
            refine lv_aload_n hx hb dX11_through_46 rfl (lv_at hl 0 rfl) ?_
            refine x_get (ci := 11) (C := RX11) (T := TX11) (N := 11) (v := .ref (ad 7)) B h hin11 0 6 rfl rfl (by decide) (by decide +kernel) rfl dX11_through_47 ?_
            refine lv_iload_n hx hb dX11_through_50 rfl (lv_at hl 1 rfl) ?_
            refine lv_iload_n hx hb dX11_through_51 rfl (lv_at hl 2 rfl) ?_
            refine x_cVLF (n := 2) (As := [.int (li 1), .int (li 2)]) (rest := []) B h (wkX1_countWays l D cI cJ cB cZ ad k t_7 (li 1) (li 2) _ hR) ⟨⟨_, rfl⟩, by decide +kernel, Nat.le_of_ble_eq_true rfl, Nat.le_of_ble_eq_true rfl⟩ gX11_through_X1_countWays (show ((wX cI cJ cB cZ ad t_7) : va_W)[7]? = some (_, .inr (1, _)) from rfl) rfl rfl hl.1 rfl (Nat.le_of_ble_eq_true rfl) dX11_through_52 ⟨Nat.le_of_ble_eq_true rfl, Nat.le_of_ble_eq_true rfl⟩ (fun r_8 t_8 H locs hR h => ?_)
            refine lv_pop2_2 hx hb dX11_through_55 rfl ?_
            refine lv_aload_n hx hb dX11_through_56 rfl (lv_at hl 0 rfl) ?_
            refine x_get (ci := 11) (C := RX11) (T := TX11) (N := 11) (v := .ref (ad 7)) B h hin11 0 6 rfl rfl (by decide) (by decide +kernel) rfl dX11_through_57 ?_
            refine x_get (ci := 1) (C := RX1) (T := TX1) (N := 7) (v := .ref (ad 23)) B h hin1 7 3 rfl rfl (by decide) (by decide +kernel) rfl dX11_through_60 ?_
            refine lv_iload_n hx hb dX11_through_63 rfl (lv_at hl 3 rfl) ?_
            obtain ⟨hb_9, hR⟩ := hR
            refine va_lald (f := (t_8.2.2.2 3)) hx hb B.2.1 h.1 23 1 rfl rfl hb_9 dX11_through_64 ?_
            refine lv_topl (fun v_9 ev_9 => ?_)
            have hR := hR v_9 ev_9
            refine lv_aload_n hx hb dX11_through_65 rfl (lv_at hl 0 rfl) ?_
            refine x_get (ci := 11) (C := RX11) (T := TX11) (N := 11) (v := .ref (ad 7)) B h hin11 0 6 rfl rfl (by decide) (by decide +kernel) rfl dX11_through_66 ?_
            refine x_get (ci := 1) (C := RX1) (T := TX1) (N := 7) (v := .ref (ad 24)) B h hin1 7 4 rfl rfl (by decide) (by decide +kernel) rfl dX11_through_69 ?_
            refine lv_iload_n hx hb dX11_through_72 rfl (lv_at hl 3 rfl) ?_
            obtain ⟨hb_10, hR⟩ := hR
            refine va_lald (f := (t_8.2.2.2 4)) hx hb B.2.1 h.1 24 1 rfl rfl hb_10 dX11_through_73 ?_
            refine lv_topl (fun v_10 ev_10 => ?_)
            have hR := hR v_10 ev_10
            refine lv_lmul hx hb dX11_through_74 ?_
            refine lv_topl (fun v_11 ev_11 => ?_)
            have hR := hR v_11 ev_11
            exact x_lret (w1 := (fun u : XT => (wX cI cJ cB cZ ad u))) t_8 B h hr hR dX11_through_75
          · have hR := hR.2 c_4
            exact ih.2 t_3 li lj H locs ls hR (lv_sub hl [0, 1, 2, 3] rfl) h
      · intro t li lj H locs ls hR hl h
        have hR : wbX11_through_1 (wpX11_through k) k t li lj Q := hR
        unfold wbX11_through_1 at hR
        refine lv_ldc2 (v := (-1)) hx hb hown (hts (.constantLong RX11 242 (-1)) (by decide +kernel)) dX11_through_17 ?_
        exact x_lret (w1 := (fun u : XT => (wX cI cJ cB cZ ad u))) t B h hr hR dX11_through_20
  exact (main k).1 t _ _ s.heap [] ls hR hl h
set_option maxRecDepth 20000 in
theorem ggX1_holdOnly_X11_isIn : GoodIn wsX1_holdOnly wsX11_isIn := goodIn_r _ [4] (by decide +kernel) (by decide +kernel)
set_option maxRecDepth 20000 in
theorem gX1_holdOnly_X11_isIn_n45 : GoodIn wsX1_holdOnly (wsX11_isIn) := ggX1_holdOnly_X11_isIn
def wbX1_holdOnly_0 (rec : Nat → XT → (Nat → Int32) → (Nat → Int64) → (XT → Prop) → Prop) (k : Nat) (t : XT) (li : Nat → Int32) (lj : Nat → Int64) (Q : XT → Prop) : Prop :=
  rec 1 t (uI li 3 0) lj Q
def wbX1_holdOnly_1 (rec : Nat → XT → (Nat → Int32) → (Nat → Int64) → (XT → Prop) → Prop) (k : Nat) (t : XT) (li : Nat → Int32) (lj : Nat → Int64) (Q : XT → Prop) : Prop :=
  (((64 : Int32) ≤ (li 3)) → Q t) ∧ (¬ ((64 : Int32) ≤ (li 3)) → (wqX11_isIn k (lj 1) (li 3) (fun r_2 => ((¬ r_2 = 0) → rec 2 t li lj Q) ∧ ((r_2 = 0) → (vp_in (li 3) 64 ∧ (∀ t_4 : XT, t_4 = sB t 3 (vp_updL (t.2.2.2 3) (li 3).toNatClampNeg 0) → rec 2 t_4 li lj Q))))))
def wbX1_holdOnly_2 (rec : Nat → XT → (Nat → Int32) → (Nat → Int64) → (XT → Prop) → Prop) (k : Nat) (t : XT) (li : Nat → Int32) (lj : Nat → Int64) (Q : XT → Prop) : Prop :=
  (∀ v_5 : Int32, v_5 = (li 3) + Int32.ofInt 1 → rec 1 t (uI li 3 v_5) lj Q)
def wpX1_holdOnly : Nat → Nat → XT → (Nat → Int32) → (Nat → Int64) → (XT → Prop) → Prop
  | 0, _, _, _, _, _ => False
  | k + 1, 0, t, li, lj, Q => wbX1_holdOnly_0 (wpX1_holdOnly k) k t li lj Q
  | k + 1, 1, t, li, lj, Q => wbX1_holdOnly_1 (wpX1_holdOnly k) k t li lj Q
  | k + 1, 2, t, li, lj, Q => wbX1_holdOnly_2 (wpX1_holdOnly k) k t li lj Q
  | _ + 1, _, _, _, _, _ => False
def wqX1_holdOnly (k : Nat) (t : XT) (a1 : Int64) (Q : XT → Prop) : Prop := wpX1_holdOnly k 0 t (fun _ => 0) (uI (fun _ => 0) 1 a1) Q
set_option maxHeartbeats 8000000 in
set_option maxRecDepth 100000 in
theorem wkX1_holdOnly (l : Launch) (D : va_G) (cI cJ cB cZ : ClassId) (ad : Nat → Nat) (k : Nat) (t : XT) (a1 : Int64) (Q : XT → Prop) (hR : wqX1_holdOnly k t a1 Q) : MetV l yX1_holdOnly wsX1_holdOnly 1 22 0 0 D (TYS cI cJ cB cZ) (wX cI cJ cB cZ ad t) [.ref (ad 7), .long a1] (fun u => Q u) (fun u : XT => (wX cI cJ cB cZ ad u)) := by
  refine x_startV (ty := .int) (cc := cX1_holdOnly) (by decide) rfl (Nat.le_of_ble_eq_true rfl) ?_
  intro p e s m args below meth c A ls B hr hnm h hl
  have hx := B.1.1
  have hb := B.1.2.1
  have hml := B.1.2.2.1
  have hts := B.1.2.2.2.2
  have hown : s.vm.findClass RX1 = some m.cls := B.1.2.2.2.1
  have hin1 : ∀ w ∈ u_ws RX1 TX1 7, w ∈ wsX1_holdOnly := by decide +kernel
  have main : ∀ k : Nat, (∀ (t : XT) (li : Nat → Int32) (lj : Nat → Int64) (H : Heap) (locs : List Loc) (ls : Array Slot), wpX1_holdOnly k 0 t li lj Q → lv_has ls 4 [(0, .ref (ad 7)), (1, .long (lj 1))] → Hp D A s.heap (wX cI cJ cB cZ ad t) H locs → W p l e { frames := 1, cells := 0, slots := 0, locals := 22 } s m args below meth c H locs 0 0 (MQ below (va_Qv (fun u => Q u) (fun u t => xEnd D ((fun u : XT => (wX cI cJ cB cZ ad u)) u) A t) A) args s 0 0 A) (F0 m 0 ls [])) ∧
      (∀ (t : XT) (li : Nat → Int32) (lj : Nat → Int64) (H : Heap) (locs : List Loc) (ls : Array Slot), wpX1_holdOnly k 1 t li lj Q → lv_has ls 4 [(0, .ref (ad 7)), (1, .long (lj 1)), (3, .int (li 3))] → Hp D A s.heap (wX cI cJ cB cZ ad t) H locs → W p l e { frames := 1, cells := 0, slots := 0, locals := 22 } s m args below meth c H locs 0 0 (MQ below (va_Qv (fun u => Q u) (fun u t => xEnd D ((fun u : XT => (wX cI cJ cB cZ ad u)) u) A t) A) args s 0 0 A) (F0 m 2 ls [])) ∧
      (∀ (t : XT) (li : Nat → Int32) (lj : Nat → Int64) (H : Heap) (locs : List Loc) (ls : Array Slot), wpX1_holdOnly k 2 t li lj Q → lv_has ls 4 [(0, .ref (ad 7)), (1, .long (lj 1)), (3, .int (li 3))] → Hp D A s.heap (wX cI cJ cB cZ ad t) H locs → W p l e { frames := 1, cells := 0, slots := 0, locals := 22 } s m args below meth c H locs 0 0 (MQ below (va_Qv (fun u => Q u) (fun u t => xEnd D ((fun u : XT => (wX cI cJ cB cZ ad u)) u) A t) A) args s 0 0 A) (F0 m 23 ls [])) := by
    intro k
    induction k with
    | zero => exact ⟨fun _ _ _ _ _ _ hR => False.elim hR, fun _ _ _ _ _ _ hR => False.elim hR, fun _ _ _ _ _ _ hR => False.elim hR⟩
    | succ k ih =>
      refine ⟨?_, ?_, ?_⟩
      · intro t li lj H locs ls hR hl h
        have hR : wbX1_holdOnly_0 (wpX1_holdOnly k) k t li lj Q := hR
        unfold wbX1_holdOnly_0 at hR
        refine lv_iconst (v := 0) hx hb dX1_holdOnly_0 (by decide) ?_
        refine lv_istore_n (lv' := [(3, .int 0), (0, .ref (ad 7)), (1, .long (lj 1))]) hx hb dX1_holdOnly_1 rfl hl (by decide) rfl (fun ls hl => ?_)
        exact ih.2.1 t (uI li 3 0) lj H locs ls hR (lv_sub hl [1, 2, 0] rfl) h
      · intro t li lj H locs ls hR hl h
        have hR : wbX1_holdOnly_1 (wpX1_holdOnly k) k t li lj Q := hR
        unfold wbX1_holdOnly_1 at hR
        refine lv_iload_n hx hb dX1_holdOnly_2 rfl (lv_at hl 2 rfl) ?_
        refine lv_bipush (v := 64) hx hb dX1_holdOnly_3 (by decide) ?_
        refine lv_icmp_ge (tgt := 29) hx hb dX1_holdOnly_5 (by decide) (fun c_1 => ?_) (fun c_1 => ?_)
        · have hR := hR.1 c_1
          exact x_vret (w1 := (fun u : XT => (wX cI cJ cB cZ ad u))) t B h hr hR dX1_holdOnly_29
        · have hR := hR.2 c_1
          refine lv_lload_n hx hb dX1_holdOnly_8 rfl (lv_at hl 1 rfl) ?_
          refine lv_iload_n hx hb dX1_holdOnly_9 rfl (lv_at hl 2 rfl) ?_
          refine x_cNIE (n := 2) (As := [.long (lj 1), .int (li 3)]) (rest := []) B h (wkX11_isIn l D cI cJ cB cZ ad k (lj 1) (li 3) _ hR) ⟨⟨_, rfl⟩, by decide +kernel, Nat.le_of_ble_eq_true rfl, Nat.le_of_ble_eq_true rfl⟩ gX1_holdOnly_X11_isIn_n45 (by decide +kernel) (by decide +kernel) (host := "MorseDesk") (by decide +kernel) rfl hl.1 rfl (Nat.le_of_ble_eq_true rfl) dX1_holdOnly_10 ⟨Nat.le_of_ble_eq_true rfl, Nat.le_of_ble_eq_true rfl⟩ (fun r_2 _ H locs hR h => ?_)
          refine lv_if_ne (tgt := 23) hx hb dX1_holdOnly_13 (by decide) (fun c_3 => ?_) (fun c_3 => ?_)
          · have hR := hR.1 c_3
            exact ih.2.2 t li lj H locs ls hR (lv_sub hl [0, 1, 2] rfl) h
          · have hR := hR.2 c_3
            refine lv_aload_n hx hb dX1_holdOnly_16 rfl (lv_at hl 0 rfl) ?_
            refine x_get (ci := 1) (C := RX1) (T := TX1) (N := 7) (v := .ref (ad 23)) B h hin1 7 3 rfl rfl (by decide) (by decide +kernel) rfl dX1_holdOnly_17 ?_
            refine lv_iload_n hx hb dX1_holdOnly_20 rfl (lv_at hl 2 rfl) ?_
            refine lv_lconst (v := 0) hx hb dX1_holdOnly_21 (by decide) ?_
            obtain ⟨hb_4, hR⟩ := hR
            refine z_last (f := (t.2.2.2 3)) B h 23 1 rfl rfl hb_4 dX1_holdOnly_22 (fun H locs h => ?_)
            obtain ⟨t_4, et_4⟩ : ∃ v : XT, v = sB t 3 (vp_updL (t.2.2.2 3) (li 3).toNatClampNeg 0) := ⟨_, rfl⟩
            have hR := hR t_4 et_4
            have h : Hp D A s.heap (wX cI cJ cB cZ ad t_4) H locs := by rw [et_4]; exact h
            exact ih.2.2 t_4 li lj H locs ls hR (lv_sub hl [0, 1, 2] rfl) h
      · intro t li lj H locs ls hR hl h
        have hR : wbX1_holdOnly_2 (wpX1_holdOnly k) k t li lj Q := hR
        unfold wbX1_holdOnly_2 at hR
        obtain ⟨v_5, ev_5⟩ : ∃ v : Int32, v = (li 3) + Int32.ofInt 1 := ⟨_, rfl⟩
        have hR := hR v_5 ev_5
        refine lv_iinc (v := v_5) (lv' := [(3, .int v_5), (0, .ref (ad 7)), (1, .long (lj 1))]) hx hb dX1_holdOnly_23 hl (k := 2) rfl ev_5.symm (by decide) rfl (fun ls hl => ?_)
        refine lv_goto (tgt := 2) hx hb dX1_holdOnly_26 (by decide) ?_
        exact ih.2.1 t (uI li 3 v_5) lj H locs ls hR (lv_sub hl [1, 2, 0] rfl) h
  exact (main k).1 t _ _ s.heap [] ls hR hl h
set_option maxRecDepth 20000 in
theorem ggX11_squaresFrom_X6_unpaired : GoodIn wsX11_squaresFrom wsX6_unpaired := goodIn_r _ [12, 13, 14, 15, 16, 137, 138, 139, 140, 141, 142] (by decide +kernel) (by decide +kernel)
set_option maxRecDepth 20000 in
theorem gX11_squaresFrom_X6_unpaired : GoodIn wsX11_squaresFrom (wsV RX11 232 RX6 yX6_unpaired wsX6_unpaired) := goodIn_app (goodIn_of _ (by decide +kernel)) ggX11_squaresFrom_X6_unpaired
set_option maxRecDepth 20000 in
theorem ggX11_squaresFrom_X1_start : GoodIn wsX11_squaresFrom wsX1_start := goodIn_r _ [21, 22, 23, 24, 25, 26, 27, 28, 29, 30, 31, 32, 33, 34, 35, 36, 37, 38, 39, 40, 41, 42, 43, 44, 45, 46, 47, 48, 49, 50, 51, 52, 11, 53, 54, 55, 56, 57, 58, 59, 60, 61, 130, 131, 132, 133, 134, 135, 136, 143, 144, 145, 146, 147, 148, 137, 138, 139, 140, 141, 142, 123, 124, 125, 126, 127, 128, 129] (by decide +kernel) (by decide +kernel)
set_option maxRecDepth 20000 in
theorem gX11_squaresFrom_X1_start : GoodIn wsX11_squaresFrom (wsV RX11 246 RX1 yX1_start wsX1_start) := goodIn_app (goodIn_of _ (by decide +kernel)) ggX11_squaresFrom_X1_start
set_option maxRecDepth 20000 in
theorem ggX11_squaresFrom_X1_pour : GoodIn wsX11_squaresFrom wsX1_pour := goodIn_r _ [65, 22, 66, 67, 23, 68, 69, 70, 71, 72, 20, 73, 74, 75, 76, 77, 11, 78, 54, 55, 56, 16, 79, 48, 80, 81, 82, 83, 84, 85, 86, 87, 88, 89, 90, 91, 92, 93, 94, 47, 49, 95, 96, 97, 98, 99, 100, 101, 102, 103, 104, 105, 106, 130, 131, 132, 133, 134, 135, 136, 143, 144, 145, 146, 147, 148, 123, 124, 125, 126, 127, 128, 129, 137, 138, 139, 140, 141, 142] (by decide +kernel) (by decide +kernel)
set_option maxRecDepth 20000 in
theorem gX11_squaresFrom_X1_pour : GoodIn wsX11_squaresFrom (wsV RX11 249 RX1 yX1_pour wsX1_pour) := goodIn_app (goodIn_of _ (by decide +kernel)) ggX11_squaresFrom_X1_pour
set_option maxRecDepth 20000 in
theorem ggX11_squaresFrom_X1_holdOnly : GoodIn wsX11_squaresFrom wsX1_holdOnly := goodIn_r _ [110, 23, 47, 48, 49, 130, 131, 132, 133, 134, 135, 136] (by decide +kernel) (by decide +kernel)
set_option maxRecDepth 20000 in
theorem gX11_squaresFrom_X1_holdOnly : GoodIn wsX11_squaresFrom (wsV RX11 360 RX1 yX1_holdOnly wsX1_holdOnly) := goodIn_app (goodIn_of _ (by decide +kernel)) ggX11_squaresFrom_X1_holdOnly
set_option maxRecDepth 20000 in
theorem ggX11_squaresFrom_X11_isIn : GoodIn wsX11_squaresFrom wsX11_isIn := goodIn_r _ [49] (by decide +kernel) (by decide +kernel)
set_option maxRecDepth 20000 in
theorem gX11_squaresFrom_X11_isIn : GoodIn wsX11_squaresFrom (va_wsS RX11 168 yX11_isIn wsX11_isIn) := goodIn_app (goodIn_of _ (by decide +kernel)) ggX11_squaresFrom_X11_isIn
def wbX11_squaresFrom_0 (rec : Nat → XT → (Nat → Int32) → (Nat → Int64) → (Int32 → XT → Prop) → Prop) (k : Nat) (t : XT) (li : Nat → Int32) (lj : Nat → Int64) (Q : Int32 → XT → Prop) : Prop :=
  (vp_in (li 1) 64 ∧ (∀ v_1 : Int32, v_1 = (t.2.2.1 3) (li 1).toNatClampNeg → (((2 : Int32) ≤ v_1) → (wqX6_unpaired k t  (fun r_3 t_3 => (∀ v_4 : Int32, v_4 = (v_1 - 1) → (vp_in v_4 5 ∧ (∀ v_5 : Int64, v_5 = (t_3.2.2.2 2) v_4.toNatClampNeg → (∀ v_6 : Int64, v_6 = (r_3 &&& v_5) → (wqX6_unpaired k t_3  (fun r_7 t_7 => (∀ v_8 : Int32, v_8 = (v_1 - 2) → (vp_in v_8 5 ∧ (∀ v_9 : Int64, v_9 = (t_7.2.2.2 2) v_8.toNatClampNeg → (∀ v_10 : Int64, v_10 = (r_7 &&& v_9) → (wqX1_start k t_7 (li 1) (fun t_11 => (wqX1_pour k t_11 v_1 1 (fun t_12 => (wqX1_holdOnly k t_12 v_6 (fun t_13 => (∀ v_14 : Int32, v_14 = (v_1 - 1) → (wqX1_pour k t_13 v_14 1 (fun t_15 => rec 1 t_15 (uI (uI (uI li 2 v_1) 7 0) 8 0) (uI (uI lj 3 v_6) 5 v_10) Q)))))))))))))))))))))) ∧ (¬ ((2 : Int32) ≤ v_1) → Q 0 t)))
def wbX11_squaresFrom_1 (rec : Nat → XT → (Nat → Int32) → (Nat → Int64) → (Int32 → XT → Prop) → Prop) (k : Nat) (t : XT) (li : Nat → Int32) (lj : Nat → Int64) (Q : Int32 → XT → Prop) : Prop :=
  ((((t.1 4) : Int32) ≤ (li 8)) → Q (li 7) t) ∧ (¬ (((t.1 4) : Int32) ≤ (li 8)) → (wqX11_isIn k (lj 5) (li 8) (fun r_17 => ((r_17 = 0) → rec 2 t li lj Q) ∧ (¬ (r_17 = 0) → (vp_in (li 8) 64 ∧ (∀ v_19 : Int64, v_19 = (t.2.2.2 3) (li 8).toNatClampNeg → (∀ v_20 : Int32, v_20 = (lg_cmp v_19 0) → ((v_20 = 0) → rec 2 t li lj Q) ∧ (¬ (v_20 = 0) → (∀ v_22 : Int32, v_22 = (li 7) + Int32.ofInt 1 → rec 2 t (uI li 7 v_22) lj Q)))))))))
def wbX11_squaresFrom_2 (rec : Nat → XT → (Nat → Int32) → (Nat → Int64) → (Int32 → XT → Prop) → Prop) (k : Nat) (t : XT) (li : Nat → Int32) (lj : Nat → Int64) (Q : Int32 → XT → Prop) : Prop :=
  (∀ v_23 : Int32, v_23 = (li 8) + Int32.ofInt 1 → rec 1 t (uI li 8 v_23) lj Q)
def wpX11_squaresFrom : Nat → Nat → XT → (Nat → Int32) → (Nat → Int64) → (Int32 → XT → Prop) → Prop
  | 0, _, _, _, _, _ => False
  | k + 1, 0, t, li, lj, Q => wbX11_squaresFrom_0 (wpX11_squaresFrom k) k t li lj Q
  | k + 1, 1, t, li, lj, Q => wbX11_squaresFrom_1 (wpX11_squaresFrom k) k t li lj Q
  | k + 1, 2, t, li, lj, Q => wbX11_squaresFrom_2 (wpX11_squaresFrom k) k t li lj Q
  | _ + 1, _, _, _, _, _ => False
def wqX11_squaresFrom (k : Nat) (t : XT) (a1 : Int32) (Q : Int32 → XT → Prop) : Prop := wpX11_squaresFrom k 0 t (uI (fun _ => 0) 1 a1) (fun _ => 0) Q
set_option maxHeartbeats 8000000 in
set_option maxRecDepth 100000 in
theorem wkX11_squaresFrom (l : Launch) (D : va_G) (cI cJ cB cZ : ClassId) (ad : Nat → Nat) (k : Nat) (t : XT) (a1 : Int32) (Q : Int32 → XT → Prop) (hR : wqX11_squaresFrom k t a1 Q) : MetI l yX11_squaresFrom wsX11_squaresFrom 4 96 0 0 D (TYS cI cJ cB cZ) (wX cI cJ cB cZ ad t) [.ref (ad 0), .int a1] (fun r u => Q r u) (fun u : XT => (wX cI cJ cB cZ ad u)) := by
  refine x_startI (ty := .int) (cc := cX11_squaresFrom) (by decide) rfl (Nat.le_of_ble_eq_true rfl) ?_
  intro p e s m args below meth c A ls B hr hnm h hl
  have hx := B.1.1
  have hb := B.1.2.1
  have hml := B.1.2.2.1
  have hts := B.1.2.2.2.2
  have hown : s.vm.findClass RX11 = some m.cls := B.1.2.2.2.1
  have hin1 : ∀ w ∈ u_ws RX1 TX1 7, w ∈ wsX11_squaresFrom := by decide +kernel
  have hin9 : ∀ w ∈ u_ws RX9 TX9 7, w ∈ wsX11_squaresFrom := by decide +kernel
  have hin11 : ∀ w ∈ u_ws RX11 TX11 11, w ∈ wsX11_squaresFrom := by decide +kernel
  have main : ∀ k : Nat, (∀ (t : XT) (li : Nat → Int32) (lj : Nat → Int64) (H : Heap) (locs : List Loc) (ls : Array Slot), wpX11_squaresFrom k 0 t li lj Q → lv_has ls 9 [(0, .ref (ad 0)), (1, .int (li 1))] → Hp D A s.heap (wX cI cJ cB cZ ad t) H locs → W p l e { frames := 4, cells := 0, slots := 0, locals := 96 } s m args below meth c H locs 0 0 (MQ below (va_Qi (fun r u => Q r u) (fun u t => xEnd D ((fun u : XT => (wX cI cJ cB cZ ad u)) u) A t) A) args s 0 0 A) (F0 m 0 ls [])) ∧
      (∀ (t : XT) (li : Nat → Int32) (lj : Nat → Int64) (H : Heap) (locs : List Loc) (ls : Array Slot), wpX11_squaresFrom k 1 t li lj Q → lv_has ls 9 [(0, .ref (ad 0)), (1, .int (li 1)), (2, .int (li 2)), (3, .long (lj 3)), (5, .long (lj 5)), (7, .int (li 7)), (8, .int (li 8))] → Hp D A s.heap (wX cI cJ cB cZ ad t) H locs → W p l e { frames := 4, cells := 0, slots := 0, locals := 96 } s m args below meth c H locs 0 0 (MQ below (va_Qi (fun r u => Q r u) (fun u t => xEnd D ((fun u : XT => (wX cI cJ cB cZ ad u)) u) A t) A) args s 0 0 A) (F0 m 100 ls [])) ∧
      (∀ (t : XT) (li : Nat → Int32) (lj : Nat → Int64) (H : Heap) (locs : List Loc) (ls : Array Slot), wpX11_squaresFrom k 2 t li lj Q → lv_has ls 9 [(0, .ref (ad 0)), (1, .int (li 1)), (2, .int (li 2)), (3, .long (lj 3)), (5, .long (lj 5)), (7, .int (li 7)), (8, .int (li 8))] → Hp D A s.heap (wX cI cJ cB cZ ad t) H locs → W p l e { frames := 4, cells := 0, slots := 0, locals := 96 } s m args below meth c H locs 0 0 (MQ below (va_Qi (fun r u => Q r u) (fun u t => xEnd D ((fun u : XT => (wX cI cJ cB cZ ad u)) u) A t) A) args s 0 0 A) (F0 m 140 ls [])) := by
    intro k
    induction k with
    | zero => exact ⟨fun _ _ _ _ _ _ hR => False.elim hR, fun _ _ _ _ _ _ hR => False.elim hR, fun _ _ _ _ _ _ hR => False.elim hR⟩
    | succ k ih =>
      refine ⟨?_, ?_, ?_⟩
      · intro t li lj H locs ls hR hl h
        have hR : wbX11_squaresFrom_0 (wpX11_squaresFrom k) k t li lj Q := hR
        unfold wbX11_squaresFrom_0 at hR
        refine lv_aload_n hx hb dX11_squaresFrom_0 rfl (lv_at hl 0 rfl) ?_
        refine x_get (ci := 11) (C := RX11) (T := TX11) (N := 11) (v := .ref (ad 3)) B h hin11 0 2 rfl rfl (by decide) (by decide +kernel) rfl dX11_squaresFrom_1 ?_
        refine x_get (ci := 9) (C := RX9) (T := TX9) (N := 7) (v := .ref (ad 15)) B h hin9 3 2 rfl rfl (by decide) (by decide +kernel) rfl dX11_squaresFrom_4 ?_
        refine lv_iload_n hx hb dX11_squaresFrom_7 rfl (lv_at hl 1 rfl) ?_
        obtain ⟨hb_1, hR⟩ := hR
        refine va_iald (f := (t.2.2.1 3)) hx hb B.2.1 h.1 15 0 rfl rfl hb_1 dX11_squaresFrom_8 ?_
        refine lv_topi (fun v_1 ev_1 => ?_)
        have hR := hR v_1 ev_1
        refine lv_istore_n (lv' := [(2, .int v_1), (0, .ref (ad 0)), (1, .int (li 1))]) hx hb dX11_squaresFrom_9 rfl hl (by decide) rfl (fun ls hl => ?_)
        refine lv_iload_n hx hb dX11_squaresFrom_10 rfl (lv_at hl 0 rfl) ?_
        refine lv_iconst (v := 2) hx hb dX11_squaresFrom_11 (by decide) ?_
        refine lv_icmp_ge (tgt := 17) hx hb dX11_squaresFrom_12 (by decide) (fun c_2 => ?_) (fun c_2 => ?_)
        · have hR := hR.1 c_2
          refine lv_aload_n hx hb dX11_squaresFrom_17 rfl (lv_at hl 1 rfl) ?_
          refine x_get (ci := 11) (C := RX11) (T := TX11) (N := 11) (v := .ref (ad 4)) B h hin11 0 3 rfl rfl (by decide) (by decide +kernel) rfl dX11_squaresFrom_18 ?_
          refine x_cVLF (n := 0) (As := []) (rest := []) B h (wkX6_unpaired l D cI cJ cB cZ ad k t  _ hR) ⟨⟨_, rfl⟩, by decide +kernel, Nat.le_of_ble_eq_true rfl, Nat.le_of_ble_eq_true rfl⟩ gX11_squaresFrom_X6_unpaired (show ((wX cI cJ cB cZ ad t) : va_W)[4]? = some (_, .inr (6, _)) from rfl) rfl rfl hl.1 rfl (Nat.le_of_ble_eq_true rfl) dX11_squaresFrom_21 ⟨Nat.le_of_ble_eq_true rfl, Nat.le_of_ble_eq_true rfl⟩ (fun r_3 t_3 H locs hR h => ?_)
          refine lv_aload_n hx hb dX11_squaresFrom_24 rfl (lv_at hl 1 rfl) ?_
          refine x_get (ci := 11) (C := RX11) (T := TX11) (N := 11) (v := .ref (ad 3)) B h hin11 0 2 rfl rfl (by decide) (by decide +kernel) rfl dX11_squaresFrom_25 ?_
          refine x_get (ci := 9) (C := RX9) (T := TX9) (N := 7) (v := .ref (ad 19)) B h hin9 3 6 rfl rfl (by decide) (by decide +kernel) rfl dX11_squaresFrom_28 ?_
          refine lv_iload_n hx hb dX11_squaresFrom_31 rfl (lv_at hl 0 rfl) ?_
          refine lv_iconst (v := 1) hx hb dX11_squaresFrom_32 (by decide) ?_
          refine lv_isub hx hb dX11_squaresFrom_33 ?_
          refine lv_topi (fun v_4 ev_4 => ?_)
          have hR := hR v_4 ev_4
          obtain ⟨hb_5, hR⟩ := hR
          refine va_lald (f := (t_3.2.2.2 2)) hx hb B.2.1 h.1 19 1 rfl rfl hb_5 dX11_squaresFrom_34 ?_
          refine lv_topl (fun v_5 ev_5 => ?_)
          have hR := hR v_5 ev_5
          refine lv_land hx hb dX11_squaresFrom_35 ?_
          refine lv_topl (fun v_6 ev_6 => ?_)
          have hR := hR v_6 ev_6
          refine lv_lstore_n (lv' := [(3, .long v_6), (2, .int v_1), (0, .ref (ad 0)), (1, .int (li 1))]) hx hb dX11_squaresFrom_36 rfl hl (by decide) rfl (fun ls hl => ?_)
          refine lv_aload_n hx hb dX11_squaresFrom_37 rfl (lv_at hl 2 rfl) ?_
          refine x_get (ci := 11) (C := RX11) (T := TX11) (N := 11) (v := .ref (ad 4)) B h hin11 0 3 rfl rfl (by decide) (by decide +kernel) rfl dX11_squaresFrom_38 ?_
          refine x_cVLF (n := 0) (As := []) (rest := []) B h (wkX6_unpaired l D cI cJ cB cZ ad k t_3  _ hR) ⟨⟨_, rfl⟩, by decide +kernel, Nat.le_of_ble_eq_true rfl, Nat.le_of_ble_eq_true rfl⟩ gX11_squaresFrom_X6_unpaired (show ((wX cI cJ cB cZ ad t_3) : va_W)[4]? = some (_, .inr (6, _)) from rfl) rfl rfl hl.1 rfl (Nat.le_of_ble_eq_true rfl) dX11_squaresFrom_41 ⟨Nat.le_of_ble_eq_true rfl, Nat.le_of_ble_eq_true rfl⟩ (fun r_7 t_7 H locs hR h => ?_)
          refine lv_aload_n hx hb dX11_squaresFrom_44 rfl (lv_at hl 2 rfl) ?_
          refine x_get (ci := 11) (C := RX11) (T := TX11) (N := 11) (v := .ref (ad 3)) B h hin11 0 2 rfl rfl (by decide) (by decide +kernel) rfl dX11_squaresFrom_45 ?_
          refine x_get (ci := 9) (C := RX9) (T := TX9) (N := 7) (v := .ref (ad 19)) B h hin9 3 6 rfl rfl (by decide) (by decide +kernel) rfl dX11_squaresFrom_48 ?_
          refine lv_iload_n hx hb dX11_squaresFrom_51 rfl (lv_at hl 1 rfl) ?_
          refine lv_iconst (v := 2) hx hb dX11_squaresFrom_52 (by decide) ?_
          refine lv_isub hx hb dX11_squaresFrom_53 ?_
          refine lv_topi (fun v_8 ev_8 => ?_)
          have hR := hR v_8 ev_8
          obtain ⟨hb_9, hR⟩ := hR
          refine va_lald (f := (t_7.2.2.2 2)) hx hb B.2.1 h.1 19 1 rfl rfl hb_9 dX11_squaresFrom_54 ?_
          refine lv_topl (fun v_9 ev_9 => ?_)
          have hR := hR v_9 ev_9
          refine lv_land hx hb dX11_squaresFrom_55 ?_
          refine lv_topl (fun v_10 ev_10 => ?_)
          have hR := hR v_10 ev_10
          refine lv_lstore (lv' := [(5, .long v_10), (3, .long v_6), (2, .int v_1), (0, .ref (ad 0)), (1, .int (li 1))]) hx hb dX11_squaresFrom_56 hl (by decide) rfl (fun ls hl => ?_)
          refine lv_aload_n hx hb dX11_squaresFrom_58 rfl (lv_at hl 3 rfl) ?_
          refine x_get (ci := 11) (C := RX11) (T := TX11) (N := 11) (v := .ref (ad 7)) B h hin11 0 6 rfl rfl (by decide) (by decide +kernel) rfl dX11_squaresFrom_59 ?_
          refine lv_iload_n hx hb dX11_squaresFrom_62 rfl (lv_at hl 4 rfl) ?_
          refine x_cVVF (n := 1) (As := [.int (li 1)]) (rest := []) B h (wkX1_start l D cI cJ cB cZ ad k t_7 (li 1) _ hR) ⟨⟨_, rfl⟩, by decide +kernel, Nat.le_of_ble_eq_true rfl, Nat.le_of_ble_eq_true rfl⟩ gX11_squaresFrom_X1_start (show ((wX cI cJ cB cZ ad t_7) : va_W)[7]? = some (_, .inr (1, _)) from rfl) rfl rfl hl.1 rfl (Nat.le_of_ble_eq_true rfl) dX11_squaresFrom_63 ⟨Nat.le_of_ble_eq_true rfl, Nat.le_of_ble_eq_true rfl⟩ (fun t_11 H locs hR h => ?_)
          refine lv_aload_n hx hb dX11_squaresFrom_66 rfl (lv_at hl 3 rfl) ?_
          refine x_get (ci := 11) (C := RX11) (T := TX11) (N := 11) (v := .ref (ad 7)) B h hin11 0 6 rfl rfl (by decide) (by decide +kernel) rfl dX11_squaresFrom_67 ?_
          refine lv_iload_n hx hb dX11_squaresFrom_70 rfl (lv_at hl 2 rfl) ?_
          refine lv_iconst (v := 1) hx hb dX11_squaresFrom_71 (by decide) ?_
          refine x_cVVF (n := 2) (As := [.int v_1, .int 1]) (rest := []) B h (wkX1_pour l D cI cJ cB cZ ad k t_11 v_1 1 _ hR) ⟨⟨_, rfl⟩, by decide +kernel, Nat.le_of_ble_eq_true rfl, Nat.le_of_ble_eq_true rfl⟩ gX11_squaresFrom_X1_pour (show ((wX cI cJ cB cZ ad t_11) : va_W)[7]? = some (_, .inr (1, _)) from rfl) rfl rfl hl.1 rfl (Nat.le_of_ble_eq_true rfl) dX11_squaresFrom_72 ⟨Nat.le_of_ble_eq_true rfl, Nat.le_of_ble_eq_true rfl⟩ (fun t_12 H locs hR h => ?_)
          refine lv_aload_n hx hb dX11_squaresFrom_75 rfl (lv_at hl 3 rfl) ?_
          refine x_get (ci := 11) (C := RX11) (T := TX11) (N := 11) (v := .ref (ad 7)) B h hin11 0 6 rfl rfl (by decide) (by decide +kernel) rfl dX11_squaresFrom_76 ?_
          refine lv_lload_n hx hb dX11_squaresFrom_79 rfl (lv_at hl 1 rfl) ?_
          refine x_cVVF (n := 1) (As := [.long v_6]) (rest := []) B h (wkX1_holdOnly l D cI cJ cB cZ ad k t_12 v_6 _ hR) ⟨⟨_, rfl⟩, by decide +kernel, Nat.le_of_ble_eq_true rfl, Nat.le_of_ble_eq_true rfl⟩ gX11_squaresFrom_X1_holdOnly (show ((wX cI cJ cB cZ ad t_12) : va_W)[7]? = some (_, .inr (1, _)) from rfl) rfl rfl hl.1 rfl (Nat.le_of_ble_eq_true rfl) dX11_squaresFrom_80 ⟨Nat.le_of_ble_eq_true rfl, Nat.le_of_ble_eq_true rfl⟩ (fun t_13 H locs hR h => ?_)
          refine lv_aload_n hx hb dX11_squaresFrom_83 rfl (lv_at hl 3 rfl) ?_
          refine x_get (ci := 11) (C := RX11) (T := TX11) (N := 11) (v := .ref (ad 7)) B h hin11 0 6 rfl rfl (by decide) (by decide +kernel) rfl dX11_squaresFrom_84 ?_
          refine lv_iload_n hx hb dX11_squaresFrom_87 rfl (lv_at hl 2 rfl) ?_
          refine lv_iconst (v := 1) hx hb dX11_squaresFrom_88 (by decide) ?_
          refine lv_isub hx hb dX11_squaresFrom_89 ?_
          refine lv_topi (fun v_14 ev_14 => ?_)
          have hR := hR v_14 ev_14
          refine lv_iconst (v := 1) hx hb dX11_squaresFrom_90 (by decide) ?_
          refine x_cVVF (n := 2) (As := [.int v_14, .int 1]) (rest := []) B h (wkX1_pour l D cI cJ cB cZ ad k t_13 v_14 1 _ hR) ⟨⟨_, rfl⟩, by decide +kernel, Nat.le_of_ble_eq_true rfl, Nat.le_of_ble_eq_true rfl⟩ gX11_squaresFrom_X1_pour (show ((wX cI cJ cB cZ ad t_13) : va_W)[7]? = some (_, .inr (1, _)) from rfl) rfl rfl hl.1 rfl (Nat.le_of_ble_eq_true rfl) dX11_squaresFrom_91 ⟨Nat.le_of_ble_eq_true rfl, Nat.le_of_ble_eq_true rfl⟩ (fun t_15 H locs hR h => ?_)
          refine lv_iconst (v := 0) hx hb dX11_squaresFrom_94 (by decide) ?_
          refine lv_istore (lv' := [(7, .int 0), (5, .long v_10), (3, .long v_6), (2, .int v_1), (0, .ref (ad 0)), (1, .int (li 1))]) hx hb dX11_squaresFrom_95 hl (by decide) rfl (fun ls hl => ?_)
          refine lv_iconst (v := 0) hx hb dX11_squaresFrom_97 (by decide) ?_
          refine lv_istore (lv' := [(8, .int 0), (7, .int 0), (5, .long v_10), (3, .long v_6), (2, .int v_1), (0, .ref (ad 0)), (1, .int (li 1))]) hx hb dX11_squaresFrom_98 hl (by decide) rfl (fun ls hl => ?_)
          exact ih.2.1 t_15 (uI (uI (uI li 2 v_1) 7 0) 8 0) (uI (uI lj 3 v_6) 5 v_10) H locs ls hR (lv_sub hl [5, 6, 4, 3, 2, 1, 0] rfl) h
        · have hR := hR.2 c_2
          refine lv_iconst (v := 0) hx hb dX11_squaresFrom_15 (by decide) ?_
          exact x_iret (w1 := (fun u : XT => (wX cI cJ cB cZ ad u))) t B h hr rfl hR dX11_squaresFrom_16
      · intro t li lj H locs ls hR hl h
        have hR : wbX11_squaresFrom_1 (wpX11_squaresFrom k) k t li lj Q := hR
        unfold wbX11_squaresFrom_1 at hR
        refine lv_iload hx hb dX11_squaresFrom_100 (lv_at hl 6 rfl) ?_
        refine lv_aload_n hx hb dX11_squaresFrom_102 rfl (lv_at hl 0 rfl) ?_
        refine x_get (ci := 11) (C := RX11) (T := TX11) (N := 11) (v := .ref (ad 3)) B h hin11 0 2 rfl rfl (by decide) (by decide +kernel) rfl dX11_squaresFrom_103 ?_
        refine x_get (ci := 9) (C := RX9) (T := TX9) (N := 7) (v := .int (t.1 4)) B h hin9 3 0 rfl rfl (by decide) (by decide +kernel) rfl dX11_squaresFrom_106 ?_
        refine lv_icmp_ge (tgt := 146) hx hb dX11_squaresFrom_109 (by decide) (fun c_16 => ?_) (fun c_16 => ?_)
        · have hR := hR.1 c_16
          refine lv_iload hx hb dX11_squaresFrom_146 (lv_at hl 5 rfl) ?_
          exact x_iret (w1 := (fun u : XT => (wX cI cJ cB cZ ad u))) t B h hr rfl hR dX11_squaresFrom_148
        · have hR := hR.2 c_16
          refine lv_lload hx hb dX11_squaresFrom_112 (lv_at hl 4 rfl) ?_
          refine lv_iload hx hb dX11_squaresFrom_114 (lv_at hl 6 rfl) ?_
          refine x_cSIE (n := 2) (As := [.long (lj 5), .int (li 8)]) (rest := []) B h (wkX11_isIn l D cI cJ cB cZ ad k (lj 5) (li 8) _ hR) ⟨⟨_, rfl⟩, by decide +kernel, Nat.le_of_ble_eq_true rfl, Nat.le_of_ble_eq_true rfl⟩ gX11_squaresFrom_X11_isIn rfl hl.1 rfl (Nat.le_of_ble_eq_true rfl) dX11_squaresFrom_116 ⟨Nat.le_of_ble_eq_true rfl, Nat.le_of_ble_eq_true rfl⟩ (fun r_17 _ H locs hR h => ?_)
          refine lv_if_eq (tgt := 140) hx hb dX11_squaresFrom_119 (by decide) (fun c_18 => ?_) (fun c_18 => ?_)
          · have hR := hR.1 c_18
            exact ih.2.2 t li lj H locs ls hR (lv_sub hl [0, 1, 2, 3, 4, 5, 6] rfl) h
          · have hR := hR.2 c_18
            refine lv_aload_n hx hb dX11_squaresFrom_122 rfl (lv_at hl 0 rfl) ?_
            refine x_get (ci := 11) (C := RX11) (T := TX11) (N := 11) (v := .ref (ad 7)) B h hin11 0 6 rfl rfl (by decide) (by decide +kernel) rfl dX11_squaresFrom_123 ?_
            refine x_get (ci := 1) (C := RX1) (T := TX1) (N := 7) (v := .ref (ad 23)) B h hin1 7 3 rfl rfl (by decide) (by decide +kernel) rfl dX11_squaresFrom_126 ?_
            refine lv_iload hx hb dX11_squaresFrom_129 (lv_at hl 6 rfl) ?_
            obtain ⟨hb_19, hR⟩ := hR
            refine va_lald (f := (t.2.2.2 3)) hx hb B.2.1 h.1 23 1 rfl rfl hb_19 dX11_squaresFrom_131 ?_
            refine lv_topl (fun v_19 ev_19 => ?_)
            have hR := hR v_19 ev_19
            refine lv_lconst (v := 0) hx hb dX11_squaresFrom_132 (by decide) ?_
            refine W.lcmp hx hb dX11_squaresFrom_133 ?_
            refine lv_topi (fun v_20 ev_20 => ?_)
            have hR := hR v_20 ev_20
            refine lv_if_eq (tgt := 140) hx hb dX11_squaresFrom_134 (by decide) (fun c_21 => ?_) (fun c_21 => ?_)
            · have hR := hR.1 c_21
              exact ih.2.2 t li lj H locs ls hR (lv_sub hl [0, 1, 2, 3, 4, 5, 6] rfl) h
            · have hR := hR.2 c_21
              obtain ⟨v_22, ev_22⟩ : ∃ v : Int32, v = (li 7) + Int32.ofInt 1 := ⟨_, rfl⟩
              have hR := hR v_22 ev_22
              refine lv_iinc (v := v_22) (lv' := [(7, .int v_22), (0, .ref (ad 0)), (1, .int (li 1)), (2, .int (li 2)), (3, .long (lj 3)), (5, .long (lj 5)), (8, .int (li 8))]) hx hb dX11_squaresFrom_137 hl (k := 5) rfl ev_22.symm (by decide) rfl (fun ls hl => ?_)
              exact ih.2.2 t (uI li 7 v_22) lj H locs ls hR (lv_sub hl [1, 2, 3, 4, 5, 0, 6] rfl) h
      · intro t li lj H locs ls hR hl h
        have hR : wbX11_squaresFrom_2 (wpX11_squaresFrom k) k t li lj Q := hR
        unfold wbX11_squaresFrom_2 at hR
        obtain ⟨v_23, ev_23⟩ : ∃ v : Int32, v = (li 8) + Int32.ofInt 1 := ⟨_, rfl⟩
        have hR := hR v_23 ev_23
        refine lv_iinc (v := v_23) (lv' := [(8, .int v_23), (0, .ref (ad 0)), (1, .int (li 1)), (2, .int (li 2)), (3, .long (lj 3)), (5, .long (lj 5)), (7, .int (li 7))]) hx hb dX11_squaresFrom_140 hl (k := 6) rfl ev_23.symm (by decide) rfl (fun ls hl => ?_)
        refine lv_goto (tgt := 100) hx hb dX11_squaresFrom_143 (by decide) ?_
        exact ih.2.1 t (uI li 8 v_23) lj H locs ls hR (lv_sub hl [1, 2, 3, 4, 5, 6, 0] rfl) h
  exact (main k).1 t _ _ s.heap [] ls hR hl h
set_option maxRecDepth 20000 in
theorem ggX11_squares_X6_unpaired : GoodIn wsX11_squares wsX6_unpaired := goodIn_r _ [9, 10, 11, 12, 13, 134, 135, 136, 137, 138, 139] (by decide +kernel) (by decide +kernel)
set_option maxRecDepth 20000 in
theorem gX11_squares_X6_unpaired : GoodIn wsX11_squares (wsV RX11 232 RX6 yX6_unpaired wsX6_unpaired) := goodIn_app (goodIn_of _ (by decide +kernel)) ggX11_squares_X6_unpaired
set_option maxRecDepth 20000 in
theorem ggX11_squares_X11_isIn : GoodIn wsX11_squares wsX11_isIn := goodIn_r _ [17] (by decide +kernel) (by decide +kernel)
set_option maxRecDepth 20000 in
theorem gX11_squares_X11_isIn : GoodIn wsX11_squares (va_wsS RX11 168 yX11_isIn wsX11_isIn) := goodIn_app (goodIn_of _ (by decide +kernel)) ggX11_squares_X11_isIn
set_option maxRecDepth 20000 in
theorem ggX11_squares_X11_squaresFrom : GoodIn wsX11_squares wsX11_squaresFrom := goodIn_r _ [21, 2, 4, 1, 22, 23, 3, 24, 5, 6, 7, 8, 9, 10, 11, 12, 13, 25, 26, 27, 28, 29, 30, 31, 32, 33, 34, 35, 36, 37, 38, 39, 40, 41, 42, 43, 44, 45, 46, 47, 48, 49, 50, 51, 52, 53, 54, 15, 16, 17, 55, 56, 57, 58, 59, 60, 61, 62, 63, 64, 65, 66, 67, 68, 69, 70, 71, 72, 73, 74, 75, 76, 77, 78, 79, 80, 81, 82, 83, 84, 85, 86, 87, 88, 89, 90, 91, 92, 93, 94, 95, 96, 97, 98, 99, 100, 101, 102, 103, 104, 105, 106, 107, 108, 109, 110, 111, 112, 113, 114, 115, 14, 116, 117, 118, 119, 120, 121, 122, 123, 124, 125, 126, 127, 128, 129, 130, 131, 132, 133, 140, 141, 142, 143, 144, 145, 146, 134, 135, 136, 137, 138, 139, 147, 148, 149, 150, 151, 152] (by decide +kernel) (by decide +kernel)
set_option maxRecDepth 20000 in
theorem gX11_squares_X11_squaresFrom : GoodIn wsX11_squares (wsV RX11 263 RX11 yX11_squaresFrom wsX11_squaresFrom) := goodIn_app (goodIn_of _ (by decide +kernel)) ggX11_squares_X11_squaresFrom
def wbX11_squares_0 (rec : Nat → XT → (Nat → Int32) → (Nat → Int64) → (Int32 → XT → Prop) → Prop) (k : Nat) (t : XT) (li : Nat → Int32) (lj : Nat → Int64) (Q : Int32 → XT → Prop) : Prop :=
  (wqX6_unpaired k t  (fun r_1 t_1 => rec 1 t_1 (uI (uI li 1 0) 4 0) (uI lj 2 r_1) Q))
def wbX11_squares_1 (rec : Nat → XT → (Nat → Int32) → (Nat → Int64) → (Int32 → XT → Prop) → Prop) (k : Nat) (t : XT) (li : Nat → Int32) (lj : Nat → Int64) (Q : Int32 → XT → Prop) : Prop :=
  ((((t.1 4) : Int32) ≤ (li 4)) → Q (li 1) t) ∧ (¬ (((t.1 4) : Int32) ≤ (li 4)) → (wqX11_isIn k (lj 2) (li 4) (fun r_3 => ((r_3 = 0) → rec 2 t li lj Q) ∧ (¬ (r_3 = 0) → (vp_in (li 4) 64 ∧ (∀ v_5 : Int32, v_5 = (t.2.2.1 3) (li 4).toNatClampNeg → ((v_5 < 2) → rec 2 t li lj Q) ∧ (¬ (v_5 < 2) → (wqX11_squaresFrom k t (li 4) (fun r_7 t_7 => (∀ v_8 : Int32, v_8 = ((li 1) + r_7) → rec 2 t_7 (uI li 1 v_8) lj Q))))))))))
def wbX11_squares_2 (rec : Nat → XT → (Nat → Int32) → (Nat → Int64) → (Int32 → XT → Prop) → Prop) (k : Nat) (t : XT) (li : Nat → Int32) (lj : Nat → Int64) (Q : Int32 → XT → Prop) : Prop :=
  (∀ v_9 : Int32, v_9 = (li 4) + Int32.ofInt 1 → rec 1 t (uI li 4 v_9) lj Q)
def wpX11_squares : Nat → Nat → XT → (Nat → Int32) → (Nat → Int64) → (Int32 → XT → Prop) → Prop
  | 0, _, _, _, _, _ => False
  | k + 1, 0, t, li, lj, Q => wbX11_squares_0 (wpX11_squares k) k t li lj Q
  | k + 1, 1, t, li, lj, Q => wbX11_squares_1 (wpX11_squares k) k t li lj Q
  | k + 1, 2, t, li, lj, Q => wbX11_squares_2 (wpX11_squares k) k t li lj Q
  | _ + 1, _, _, _, _, _ => False
def wqX11_squares (k : Nat) (t : XT)  (Q : Int32 → XT → Prop) : Prop := wpX11_squares k 0 t (fun _ => 0) (fun _ => 0) Q
set_option maxHeartbeats 8000000 in
set_option maxRecDepth 100000 in
theorem wkX11_squares (l : Launch) (D : va_G) (cI cJ cB cZ : ClassId) (ad : Nat → Nat) (k : Nat) (t : XT)  (Q : Int32 → XT → Prop) (hR : wqX11_squares k t  Q) : MetI l yX11_squares wsX11_squares 5 124 0 0 D (TYS cI cJ cB cZ) (wX cI cJ cB cZ ad t) [.ref (ad 0)] (fun r u => Q r u) (fun u : XT => (wX cI cJ cB cZ ad u)) := by
  refine x_startI (ty := .int) (cc := cX11_squares) (by decide) rfl (Nat.le_of_ble_eq_true rfl) ?_
  intro p e s m args below meth c A ls B hr hnm h hl
  have hx := B.1.1
  have hb := B.1.2.1
  have hml := B.1.2.2.1
  have hts := B.1.2.2.2.2
  have hown : s.vm.findClass RX11 = some m.cls := B.1.2.2.2.1
  have hin9 : ∀ w ∈ u_ws RX9 TX9 7, w ∈ wsX11_squares := by decide +kernel
  have hin11 : ∀ w ∈ u_ws RX11 TX11 11, w ∈ wsX11_squares := by decide +kernel
  have main : ∀ k : Nat, (∀ (t : XT) (li : Nat → Int32) (lj : Nat → Int64) (H : Heap) (locs : List Loc) (ls : Array Slot), wpX11_squares k 0 t li lj Q → lv_has ls 5 [(0, .ref (ad 0))] → Hp D A s.heap (wX cI cJ cB cZ ad t) H locs → W p l e { frames := 5, cells := 0, slots := 0, locals := 124 } s m args below meth c H locs 0 0 (MQ below (va_Qi (fun r u => Q r u) (fun u t => xEnd D ((fun u : XT => (wX cI cJ cB cZ ad u)) u) A t) A) args s 0 0 A) (F0 m 0 ls [])) ∧
      (∀ (t : XT) (li : Nat → Int32) (lj : Nat → Int64) (H : Heap) (locs : List Loc) (ls : Array Slot), wpX11_squares k 1 t li lj Q → lv_has ls 5 [(0, .ref (ad 0)), (1, .int (li 1)), (2, .long (lj 2)), (4, .int (li 4))] → Hp D A s.heap (wX cI cJ cB cZ ad t) H locs → W p l e { frames := 5, cells := 0, slots := 0, locals := 124 } s m args below meth c H locs 0 0 (MQ below (va_Qi (fun r u => Q r u) (fun u t => xEnd D ((fun u : XT => (wX cI cJ cB cZ ad u)) u) A t) A) args s 0 0 A) (F0 m 13 ls [])) ∧
      (∀ (t : XT) (li : Nat → Int32) (lj : Nat → Int64) (H : Heap) (locs : List Loc) (ls : Array Slot), wpX11_squares k 2 t li lj Q → lv_has ls 5 [(0, .ref (ad 0)), (1, .int (li 1)), (2, .long (lj 2)), (4, .int (li 4))] → Hp D A s.heap (wX cI cJ cB cZ ad t) H locs → W p l e { frames := 5, cells := 0, slots := 0, locals := 124 } s m args below meth c H locs 0 0 (MQ below (va_Qi (fun r u => Q r u) (fun u t => xEnd D ((fun u : XT => (wX cI cJ cB cZ ad u)) u) A t) A) args s 0 0 A) (F0 m 57 ls [])) := by
    intro k
    induction k with
    | zero => exact ⟨fun _ _ _ _ _ _ hR => False.elim hR, fun _ _ _ _ _ _ hR => False.elim hR, fun _ _ _ _ _ _ hR => False.elim hR⟩
    | succ k ih =>
      refine ⟨?_, ?_, ?_⟩
      · intro t li lj H locs ls hR hl h
        have hR : wbX11_squares_0 (wpX11_squares k) k t li lj Q := hR
        unfold wbX11_squares_0 at hR
        refine lv_iconst (v := 0) hx hb dX11_squares_0 (by decide) ?_
        refine lv_istore_n (lv' := [(1, .int 0), (0, .ref (ad 0))]) hx hb dX11_squares_1 rfl hl (by decide) rfl (fun ls hl => ?_)
        refine lv_aload_n hx hb dX11_squares_2 rfl (lv_at hl 1 rfl) ?_
        refine x_get (ci := 11) (C := RX11) (T := TX11) (N := 11) (v := .ref (ad 4)) B h hin11 0 3 rfl rfl (by decide) (by decide +kernel) rfl dX11_squares_3 ?_
        refine x_cVLF (n := 0) (As := []) (rest := []) B h (wkX6_unpaired l D cI cJ cB cZ ad k t  _ hR) ⟨⟨_, rfl⟩, by decide +kernel, Nat.le_of_ble_eq_true rfl, Nat.le_of_ble_eq_true rfl⟩ gX11_squares_X6_unpaired (show ((wX cI cJ cB cZ ad t) : va_W)[4]? = some (_, .inr (6, _)) from rfl) rfl rfl hl.1 rfl (Nat.le_of_ble_eq_true rfl) dX11_squares_6 ⟨Nat.le_of_ble_eq_true rfl, Nat.le_of_ble_eq_true rfl⟩ (fun r_1 t_1 H locs hR h => ?_)
        refine lv_lstore_n (lv' := [(2, .long r_1), (1, .int 0), (0, .ref (ad 0))]) hx hb dX11_squares_9 rfl hl (by decide) rfl (fun ls hl => ?_)
        refine lv_iconst (v := 0) hx hb dX11_squares_10 (by decide) ?_
        refine lv_istore (lv' := [(4, .int 0), (2, .long r_1), (1, .int 0), (0, .ref (ad 0))]) hx hb dX11_squares_11 hl (by decide) rfl (fun ls hl => ?_)
        exact ih.2.1 t_1 (uI (uI li 1 0) 4 0) (uI lj 2 r_1) H locs ls hR (lv_sub hl [3, 2, 1, 0] rfl) h
      · intro t li lj H locs ls hR hl h
        have hR : wbX11_squares_1 (wpX11_squares k) k t li lj Q := hR
        unfold wbX11_squares_1 at hR
        refine lv_iload hx hb dX11_squares_13 (lv_at hl 3 rfl) ?_
        refine lv_aload_n hx hb dX11_squares_15 rfl (lv_at hl 0 rfl) ?_
        refine x_get (ci := 11) (C := RX11) (T := TX11) (N := 11) (v := .ref (ad 3)) B h hin11 0 2 rfl rfl (by decide) (by decide +kernel) rfl dX11_squares_16 ?_
        refine x_get (ci := 9) (C := RX9) (T := TX9) (N := 7) (v := .int (t.1 4)) B h hin9 3 0 rfl rfl (by decide) (by decide +kernel) rfl dX11_squares_19 ?_
        refine lv_icmp_ge (tgt := 63) hx hb dX11_squares_22 (by decide) (fun c_2 => ?_) (fun c_2 => ?_)
        · have hR := hR.1 c_2
          refine lv_iload_n hx hb dX11_squares_63 rfl (lv_at hl 1 rfl) ?_
          exact x_iret (w1 := (fun u : XT => (wX cI cJ cB cZ ad u))) t B h hr rfl hR dX11_squares_64
        · have hR := hR.2 c_2
          refine lv_lload_n hx hb dX11_squares_25 rfl (lv_at hl 2 rfl) ?_
          refine lv_iload hx hb dX11_squares_26 (lv_at hl 3 rfl) ?_
          refine x_cSIE (n := 2) (As := [.long (lj 2), .int (li 4)]) (rest := []) B h (wkX11_isIn l D cI cJ cB cZ ad k (lj 2) (li 4) _ hR) ⟨⟨_, rfl⟩, by decide +kernel, Nat.le_of_ble_eq_true rfl, Nat.le_of_ble_eq_true rfl⟩ gX11_squares_X11_isIn rfl hl.1 rfl (Nat.le_of_ble_eq_true rfl) dX11_squares_28 ⟨Nat.le_of_ble_eq_true rfl, Nat.le_of_ble_eq_true rfl⟩ (fun r_3 _ H locs hR h => ?_)
          refine lv_if_eq (tgt := 57) hx hb dX11_squares_31 (by decide) (fun c_4 => ?_) (fun c_4 => ?_)
          · have hR := hR.1 c_4
            exact ih.2.2 t li lj H locs ls hR (lv_sub hl [0, 1, 2, 3] rfl) h
          · have hR := hR.2 c_4
            refine lv_aload_n hx hb dX11_squares_34 rfl (lv_at hl 0 rfl) ?_
            refine x_get (ci := 11) (C := RX11) (T := TX11) (N := 11) (v := .ref (ad 3)) B h hin11 0 2 rfl rfl (by decide) (by decide +kernel) rfl dX11_squares_35 ?_
            refine x_get (ci := 9) (C := RX9) (T := TX9) (N := 7) (v := .ref (ad 15)) B h hin9 3 2 rfl rfl (by decide) (by decide +kernel) rfl dX11_squares_38 ?_
            refine lv_iload hx hb dX11_squares_41 (lv_at hl 3 rfl) ?_
            obtain ⟨hb_5, hR⟩ := hR
            refine va_iald (f := (t.2.2.1 3)) hx hb B.2.1 h.1 15 0 rfl rfl hb_5 dX11_squares_43 ?_
            refine lv_topi (fun v_5 ev_5 => ?_)
            have hR := hR v_5 ev_5
            refine lv_iconst (v := 2) hx hb dX11_squares_44 (by decide) ?_
            refine lv_icmp_lt (tgt := 57) hx hb dX11_squares_45 (by decide) (fun c_6 => ?_) (fun c_6 => ?_)
            · have hR := hR.1 c_6
              exact ih.2.2 t li lj H locs ls hR (lv_sub hl [0, 1, 2, 3] rfl) h
            · have hR := hR.2 c_6
              refine lv_iload_n hx hb dX11_squares_48 rfl (lv_at hl 1 rfl) ?_
              refine lv_aload_n hx hb dX11_squares_49 rfl (lv_at hl 0 rfl) ?_
              refine lv_iload hx hb dX11_squares_50 (lv_at hl 3 rfl) ?_
              refine x_cVIF (n := 1) (As := [.int (li 4)]) (rest := [.int (li 1)]) B h (wkX11_squaresFrom l D cI cJ cB cZ ad k t (li 4) _ hR) ⟨⟨_, rfl⟩, by decide +kernel, Nat.le_of_ble_eq_true rfl, Nat.le_of_ble_eq_true rfl⟩ gX11_squares_X11_squaresFrom (show ((wX cI cJ cB cZ ad t) : va_W)[0]? = some (_, .inr (11, _)) from rfl) rfl rfl hl.1 rfl (Nat.le_of_ble_eq_true rfl) dX11_squares_52 ⟨Nat.le_of_ble_eq_true rfl, Nat.le_of_ble_eq_true rfl⟩ (fun r_7 t_7 H locs hR h => ?_)
              refine lv_iadd hx hb dX11_squares_55 ?_
              refine lv_topi (fun v_8 ev_8 => ?_)
              have hR := hR v_8 ev_8
              refine lv_istore_n (lv' := [(1, .int v_8), (0, .ref (ad 0)), (2, .long (lj 2)), (4, .int (li 4))]) hx hb dX11_squares_56 rfl hl (by decide) rfl (fun ls hl => ?_)
              exact ih.2.2 t_7 (uI li 1 v_8) lj H locs ls hR (lv_sub hl [1, 0, 2, 3] rfl) h
      · intro t li lj H locs ls hR hl h
        have hR : wbX11_squares_2 (wpX11_squares k) k t li lj Q := hR
        unfold wbX11_squares_2 at hR
        obtain ⟨v_9, ev_9⟩ : ∃ v : Int32, v = (li 4) + Int32.ofInt 1 := ⟨_, rfl⟩
        have hR := hR v_9 ev_9
        refine lv_iinc (v := v_9) (lv' := [(4, .int v_9), (0, .ref (ad 0)), (1, .int (li 1)), (2, .long (lj 2))]) hx hb dX11_squares_57 hl (k := 3) rfl ev_9.symm (by decide) rfl (fun ls hl => ?_)
        refine lv_goto (tgt := 13) hx hb dX11_squares_60 (by decide) ?_
        exact ih.2.1 t (uI li 4 v_9) lj H locs ls hR (lv_sub hl [1, 2, 3, 0] rfl) h
  exact (main k).1 t _ _ s.heap [] ls hR hl h
set_option maxRecDepth 20000 in
theorem ggX11_basis_X6_unpaired : GoodIn wsX11_basis wsX6_unpaired := goodIn_r _ [7, 8, 9, 10, 11, 23, 24, 25, 26, 27, 28] (by decide +kernel) (by decide +kernel)
set_option maxRecDepth 20000 in
theorem gX11_basis_X6_unpaired : GoodIn wsX11_basis (wsV RX11 232 RX6 yX6_unpaired wsX6_unpaired) := goodIn_app (goodIn_of _ (by decide +kernel)) ggX11_basis_X6_unpaired
def wbX11_basis_0 (rec : Nat → XT → (Nat → Int32) → (Nat → Int64) → (Int64 → XT → Prop) → Prop) (k : Nat) (t : XT) (li : Nat → Int32) (lj : Nat → Int64) (Q : Int64 → XT → Prop) : Prop :=
  ((¬ (li 1) = 1) → Q (t.2.1 0) t) ∧ (((li 1) = 1) → (wqX6_unpaired k t  (fun r_2 t_2 => Q r_2 t_2)))
def wpX11_basis : Nat → Nat → XT → (Nat → Int32) → (Nat → Int64) → (Int64 → XT → Prop) → Prop
  | 0, _, _, _, _, _ => False
  | k + 1, 0, t, li, lj, Q => wbX11_basis_0 (wpX11_basis k) k t li lj Q
  | _ + 1, _, _, _, _, _ => False
def wqX11_basis (k : Nat) (t : XT) (a1 : Int32) (Q : Int64 → XT → Prop) : Prop := wpX11_basis k 0 t (uI (fun _ => 0) 1 a1) (fun _ => 0) Q
set_option maxHeartbeats 8000000 in
set_option maxRecDepth 100000 in
theorem wkX11_basis (l : Launch) (D : va_G) (cI cJ cB cZ : ClassId) (ad : Nat → Nat) (k : Nat) (t : XT) (a1 : Int32) (Q : Int64 → XT → Prop) (hR : wqX11_basis k t a1 Q) : MetL l yX11_basis wsX11_basis 1 20 0 0 D (TYS cI cJ cB cZ) (wX cI cJ cB cZ ad t) [.ref (ad 0), .int a1] (fun r u => Q r u) (fun u : XT => (wX cI cJ cB cZ ad u)) := by
  refine x_startL (ty := .long) (cc := cX11_basis) (by decide) rfl (Nat.le_of_ble_eq_true rfl) ?_
  intro p e s m args below meth c A ls B hr hnm h hl
  have hx := B.1.1
  have hb := B.1.2.1
  have hml := B.1.2.2.1
  have hts := B.1.2.2.2.2
  have hown : s.vm.findClass RX11 = some m.cls := B.1.2.2.2.1
  have hin6 : ∀ w ∈ u_ws RX6 TX6 6, w ∈ wsX11_basis := by decide +kernel
  have hin11 : ∀ w ∈ u_ws RX11 TX11 11, w ∈ wsX11_basis := by decide +kernel
  have main : ∀ k : Nat, (∀ (t : XT) (li : Nat → Int32) (lj : Nat → Int64) (H : Heap) (locs : List Loc) (ls : Array Slot), wpX11_basis k 0 t li lj Q → lv_has ls 2 [(0, .ref (ad 0)), (1, .int (li 1))] → Hp D A s.heap (wX cI cJ cB cZ ad t) H locs → W p l e { frames := 1, cells := 0, slots := 0, locals := 20 } s m args below meth c H locs 0 0 (MQ below (va_Ql (fun r u => Q r u) (fun u t => xEnd D ((fun u : XT => (wX cI cJ cB cZ ad u)) u) A t) A) args s 0 0 A) (F0 m 0 ls [])) := by
    intro k
    induction k with
    | zero => exact fun _ _ _ _ _ _ hR => False.elim hR
    | succ k ih =>
      intro t li lj H locs ls hR hl h
      have hR : wbX11_basis_0 (wpX11_basis k) k t li lj Q := hR
      unfold wbX11_basis_0 at hR
      refine lv_iload_n hx hb dX11_basis_0 rfl (lv_at hl 1 rfl) ?_
      refine lv_iconst (v := 1) hx hb dX11_basis_1 (by decide) ?_
      refine lv_icmp_ne (tgt := 15) hx hb dX11_basis_2 (by decide) (fun c_1 => ?_) (fun c_1 => ?_)
      · have hR := hR.1 c_1
        refine lv_aload_n hx hb dX11_basis_15 rfl (lv_at hl 0 rfl) ?_
        refine x_get (ci := 11) (C := RX11) (T := TX11) (N := 11) (v := .ref (ad 4)) B h hin11 0 3 rfl rfl (by decide) (by decide +kernel) rfl dX11_basis_16 ?_
        refine x_get (ci := 6) (C := RX6) (T := TX6) (N := 6) (v := .long (t.2.1 0)) B h hin6 4 2 rfl rfl (by decide) (by decide +kernel) rfl dX11_basis_19 ?_
        exact x_lret (w1 := (fun u : XT => (wX cI cJ cB cZ ad u))) t B h hr hR dX11_basis_22
      · have hR := hR.2 c_1
        refine lv_aload_n hx hb dX11_basis_5 rfl (lv_at hl 0 rfl) ?_
        refine x_get (ci := 11) (C := RX11) (T := TX11) (N := 11) (v := .ref (ad 4)) B h hin11 0 3 rfl rfl (by decide) (by decide +kernel) rfl dX11_basis_6 ?_
        refine x_cVLF (n := 0) (As := []) (rest := []) B h (wkX6_unpaired l D cI cJ cB cZ ad k t  _ hR) ⟨⟨_, rfl⟩, by decide +kernel, Nat.le_of_ble_eq_true rfl, Nat.le_of_ble_eq_true rfl⟩ gX11_basis_X6_unpaired (show ((wX cI cJ cB cZ ad t) : va_W)[4]? = some (_, .inr (6, _)) from rfl) rfl rfl hl.1 rfl (Nat.le_of_ble_eq_true rfl) dX11_basis_9 ⟨Nat.le_of_ble_eq_true rfl, Nat.le_of_ble_eq_true rfl⟩ (fun r_2 t_2 H locs hR h => ?_)
        refine lv_goto (tgt := 22) hx hb dX11_basis_12 (by decide) ?_
        exact x_lret (w1 := (fun u : XT => (wX cI cJ cB cZ ad u))) t_2 B h hr hR dX11_basis_22
  exact (main k) t _ _ s.heap [] ls hR hl h
def wbX5_resize_0 (rec : Nat → XT → (Nat → Int32) → (Nat → Int64) → (XT → Prop) → Prop) (k : Nat) (t : XT) (li : Nat → Int32) (lj : Nat → Int64) (Q : XT → Prop) : Prop :=
  (((li 1) < 0) → rec 1 t li lj Q) ∧ (¬ ((li 1) < 0) → (((li 2) < 0) → rec 1 t li lj Q) ∧ (¬ ((li 2) < 0) → (((64 : Int32) ≤ (li 1)) → rec 1 t li lj Q) ∧ (¬ ((64 : Int32) ≤ (li 1)) → (((64 : Int32) ≤ (li 2)) → rec 1 t li lj Q) ∧ (¬ ((64 : Int32) ≤ (li 2)) → (∀ v_5 : Int32, v_5 = ((li 1) * (li 2)) → (((900 : Int32) < v_5) → rec 1 t li lj Q) ∧ (¬ ((900 : Int32) < v_5) → rec 2 t (uI li 100 1) lj Q))))))
def wbX5_resize_1 (rec : Nat → XT → (Nat → Int32) → (Nat → Int64) → (XT → Prop) → Prop) (k : Nat) (t : XT) (li : Nat → Int32) (lj : Nat → Int64) (Q : XT → Prop) : Prop :=
  rec 2 t (uI li 100 0) lj Q
def wbX5_resize_2 (rec : Nat → XT → (Nat → Int32) → (Nat → Int64) → (XT → Prop) → Prop) (k : Nat) (t : XT) (li : Nat → Int32) (lj : Nat → Int64) (Q : XT → Prop) : Prop :=
  (((li 100) = 0) → rec 3 t (uI (uI li 3 (li 100)) 101 0) lj Q) ∧ (¬ ((li 100) = 0) → rec 3 t (uI (uI li 3 (li 100)) 101 (li 1)) lj Q)
def wbX5_resize_3 (rec : Nat → XT → (Nat → Int32) → (Nat → Int64) → (XT → Prop) → Prop) (k : Nat) (t : XT) (li : Nat → Int32) (lj : Nat → Int64) (Q : XT → Prop) : Prop :=
  (∀ t_8 : XT, t_8 = sI t 10 (li 101) → (((li 3) = 0) → rec 4 t_8 (uI li 101 0) lj Q) ∧ (¬ ((li 3) = 0) → rec 4 t_8 (uI li 101 (li 2)) lj Q))
def wbX5_resize_4 (rec : Nat → XT → (Nat → Int32) → (Nat → Int64) → (XT → Prop) → Prop) (k : Nat) (t : XT) (li : Nat → Int32) (lj : Nat → Int64) (Q : XT → Prop) : Prop :=
  (∀ t_10 : XT, t_10 = sI t 11 (li 101) → Q t_10)
def wpX5_resize : Nat → Nat → XT → (Nat → Int32) → (Nat → Int64) → (XT → Prop) → Prop
  | 0, _, _, _, _, _ => False
  | k + 1, 0, t, li, lj, Q => wbX5_resize_0 (wpX5_resize k) k t li lj Q
  | k + 1, 1, t, li, lj, Q => wbX5_resize_1 (wpX5_resize k) k t li lj Q
  | k + 1, 2, t, li, lj, Q => wbX5_resize_2 (wpX5_resize k) k t li lj Q
  | k + 1, 3, t, li, lj, Q => wbX5_resize_3 (wpX5_resize k) k t li lj Q
  | k + 1, 4, t, li, lj, Q => wbX5_resize_4 (wpX5_resize k) k t li lj Q
  | _ + 1, _, _, _, _, _ => False
def wqX5_resize (k : Nat) (t : XT) (a1 : Int32) (a2 : Int32) (Q : XT → Prop) : Prop := wpX5_resize k 0 t (uI (uI (fun _ => 0) 1 a1) 2 a2) (fun _ => 0) Q
set_option maxHeartbeats 8000000 in
set_option maxRecDepth 100000 in
theorem wkX5_resize (l : Launch) (D : va_G) (cI cJ cB cZ : ClassId) (ad : Nat → Nat) (k : Nat) (t : XT) (a1 : Int32) (a2 : Int32) (Q : XT → Prop) (hR : wqX5_resize k t a1 a2 Q) : MetV l yX5_resize wsX5_resize 0 0 0 0 D (TYS cI cJ cB cZ) (wX cI cJ cB cZ ad t) [.ref (ad 11), .int a1, .int a2] (fun u => Q u) (fun u : XT => (wX cI cJ cB cZ ad u)) := by
  refine x_startV (ty := .int) (cc := cX5_resize) (by decide) rfl (Nat.le_of_ble_eq_true rfl) ?_
  intro p e s m args below meth c A ls B hr hnm h hl
  have hx := B.1.1
  have hb := B.1.2.1
  have hml := B.1.2.2.1
  have hts := B.1.2.2.2.2
  have hown : s.vm.findClass RX5 = some m.cls := B.1.2.2.2.1
  have hin5 : ∀ w ∈ u_ws RX5 TX5 6, w ∈ wsX5_resize := by decide +kernel
  have main : ∀ k : Nat, (∀ (t : XT) (li : Nat → Int32) (lj : Nat → Int64) (H : Heap) (locs : List Loc) (ls : Array Slot), wpX5_resize k 0 t li lj Q → lv_has ls 4 [(0, .ref (ad 11)), (1, .int (li 1)), (2, .int (li 2))] → Hp D A s.heap (wX cI cJ cB cZ ad t) H locs → W p l e { frames := 0, cells := 0, slots := 0, locals := 0 } s m args below meth c H locs 0 0 (MQ below (va_Qv (fun u => Q u) (fun u t => xEnd D ((fun u : XT => (wX cI cJ cB cZ ad u)) u) A t) A) args s 0 0 A) (F0 m 0 ls [])) ∧
      (∀ (t : XT) (li : Nat → Int32) (lj : Nat → Int64) (H : Heap) (locs : List Loc) (ls : Array Slot), wpX5_resize k 1 t li lj Q → lv_has ls 4 [(0, .ref (ad 11)), (1, .int (li 1)), (2, .int (li 2))] → Hp D A s.heap (wX cI cJ cB cZ ad t) H locs → W p l e { frames := 0, cells := 0, slots := 0, locals := 0 } s m args below meth c H locs 0 0 (MQ below (va_Qv (fun u => Q u) (fun u t => xEnd D ((fun u : XT => (wX cI cJ cB cZ ad u)) u) A t) A) args s 0 0 A) (F0 m 33 ls [])) ∧
      (∀ (t : XT) (li : Nat → Int32) (lj : Nat → Int64) (H : Heap) (locs : List Loc) (ls : Array Slot), wpX5_resize k 2 t li lj Q → lv_has ls 4 [(0, .ref (ad 11)), (1, .int (li 1)), (2, .int (li 2))] → Hp D A s.heap (wX cI cJ cB cZ ad t) H locs → W p l e { frames := 0, cells := 0, slots := 0, locals := 0 } s m args below meth c H locs 0 0 (MQ below (va_Qv (fun u => Q u) (fun u t => xEnd D ((fun u : XT => (wX cI cJ cB cZ ad u)) u) A t) A) args s 0 0 A) (F0 m 34 ls [.int (li 100)])) ∧
      (∀ (t : XT) (li : Nat → Int32) (lj : Nat → Int64) (H : Heap) (locs : List Loc) (ls : Array Slot), wpX5_resize k 3 t li lj Q → lv_has ls 4 [(0, .ref (ad 11)), (1, .int (li 1)), (2, .int (li 2)), (3, .int (li 3))] → Hp D A s.heap (wX cI cJ cB cZ ad t) H locs → W p l e { frames := 0, cells := 0, slots := 0, locals := 0 } s m args below meth c H locs 0 0 (MQ below (va_Qv (fun u => Q u) (fun u t => xEnd D ((fun u : XT => (wX cI cJ cB cZ ad u)) u) A t) A) args s 0 0 A) (F0 m 45 ls [.int (li 101), .ref (ad 11)])) ∧
      (∀ (t : XT) (li : Nat → Int32) (lj : Nat → Int64) (H : Heap) (locs : List Loc) (ls : Array Slot), wpX5_resize k 4 t li lj Q → lv_has ls 4 [(0, .ref (ad 11)), (1, .int (li 1)), (2, .int (li 2)), (3, .int (li 3))] → Hp D A s.heap (wX cI cJ cB cZ ad t) H locs → W p l e { frames := 0, cells := 0, slots := 0, locals := 0 } s m args below meth c H locs 0 0 (MQ below (va_Qv (fun u => Q u) (fun u t => xEnd D ((fun u : XT => (wX cI cJ cB cZ ad u)) u) A t) A) args s 0 0 A) (F0 m 58 ls [.int (li 101), .ref (ad 11)])) := by
    intro k
    induction k with
    | zero => exact ⟨fun _ _ _ _ _ _ hR => False.elim hR, fun _ _ _ _ _ _ hR => False.elim hR, fun _ _ _ _ _ _ hR => False.elim hR, fun _ _ _ _ _ _ hR => False.elim hR, fun _ _ _ _ _ _ hR => False.elim hR⟩
    | succ k ih =>
      refine ⟨?_, ?_, ?_, ?_, ?_⟩
      · intro t li lj H locs ls hR hl h
        have hR : wbX5_resize_0 (wpX5_resize k) k t li lj Q := hR
        unfold wbX5_resize_0 at hR
        refine lv_iload_n hx hb dX5_resize_0 rfl (lv_at hl 1 rfl) ?_
        refine lv_if_lt (tgt := 33) hx hb dX5_resize_1 (by decide) (fun c_1 => ?_) (fun c_1 => ?_)
        · have hR := hR.1 c_1
          exact ih.2.1 t li lj H locs ls hR (lv_sub hl [0, 1, 2] rfl) h
        · have hR := hR.2 c_1
          refine lv_iload_n hx hb dX5_resize_4 rfl (lv_at hl 2 rfl) ?_
          refine lv_if_lt (tgt := 33) hx hb dX5_resize_5 (by decide) (fun c_2 => ?_) (fun c_2 => ?_)
          · have hR := hR.1 c_2
            exact ih.2.1 t li lj H locs ls hR (lv_sub hl [0, 1, 2] rfl) h
          · have hR := hR.2 c_2
            refine lv_iload_n hx hb dX5_resize_8 rfl (lv_at hl 1 rfl) ?_
            refine lv_bipush (v := 64) hx hb dX5_resize_9 (by decide) ?_
            refine lv_icmp_ge (tgt := 33) hx hb dX5_resize_11 (by decide) (fun c_3 => ?_) (fun c_3 => ?_)
            · have hR := hR.1 c_3
              exact ih.2.1 t li lj H locs ls hR (lv_sub hl [0, 1, 2] rfl) h
            · have hR := hR.2 c_3
              refine lv_iload_n hx hb dX5_resize_14 rfl (lv_at hl 2 rfl) ?_
              refine lv_bipush (v := 64) hx hb dX5_resize_15 (by decide) ?_
              refine lv_icmp_ge (tgt := 33) hx hb dX5_resize_17 (by decide) (fun c_4 => ?_) (fun c_4 => ?_)
              · have hR := hR.1 c_4
                exact ih.2.1 t li lj H locs ls hR (lv_sub hl [0, 1, 2] rfl) h
              · have hR := hR.2 c_4
                refine lv_iload_n hx hb dX5_resize_20 rfl (lv_at hl 1 rfl) ?_
                refine lv_iload_n hx hb dX5_resize_21 rfl (lv_at hl 2 rfl) ?_
                refine lv_imul hx hb dX5_resize_22 ?_
                refine lv_topi (fun v_5 ev_5 => ?_)
                have hR := hR v_5 ev_5
                refine lv_sipush (v := 900) hx hb dX5_resize_23 (by decide) ?_
                refine lv_icmp_gt (tgt := 33) hx hb dX5_resize_26 (by decide) (fun c_6 => ?_) (fun c_6 => ?_)
                · have hR := hR.1 c_6
                  exact ih.2.1 t li lj H locs ls hR (lv_sub hl [0, 1, 2] rfl) h
                · have hR := hR.2 c_6
                  refine lv_iconst (v := 1) hx hb dX5_resize_29 (by decide) ?_
                  refine lv_goto (tgt := 34) hx hb dX5_resize_30 (by decide) ?_
                  exact ih.2.2.1 t (uI li 100 1) lj H locs ls hR (lv_sub hl [0, 1, 2] rfl) h
      · intro t li lj H locs ls hR hl h
        have hR : wbX5_resize_1 (wpX5_resize k) k t li lj Q := hR
        unfold wbX5_resize_1 at hR
        refine lv_iconst (v := 0) hx hb dX5_resize_33 (by decide) ?_
        exact ih.2.2.1 t (uI li 100 0) lj H locs ls hR (lv_sub hl [0, 1, 2] rfl) h
      · intro t li lj H locs ls hR hl h
        have hR : wbX5_resize_2 (wpX5_resize k) k t li lj Q := hR
        unfold wbX5_resize_2 at hR
        refine lv_istore_n (lv' := [(3, .int (li 100)), (0, .ref (ad 11)), (1, .int (li 1)), (2, .int (li 2))]) hx hb dX5_resize_34 rfl hl (by decide) rfl (fun ls hl => ?_)
        refine lv_aload_n hx hb dX5_resize_35 rfl (lv_at hl 1 rfl) ?_
        refine lv_iload_n hx hb dX5_resize_36 rfl (lv_at hl 0 rfl) ?_
        refine lv_if_eq (tgt := 44) hx hb dX5_resize_37 (by decide) (fun c_7 => ?_) (fun c_7 => ?_)
        · have hR := hR.1 c_7
          refine lv_iconst (v := 0) hx hb dX5_resize_44 (by decide) ?_
          exact ih.2.2.2.1 t (uI (uI li 3 (li 100)) 101 0) lj H locs ls hR (lv_sub hl [1, 2, 3, 0] rfl) h
        · have hR := hR.2 c_7
          refine lv_iload_n hx hb dX5_resize_40 rfl (lv_at hl 2 rfl) ?_
          refine lv_goto (tgt := 45) hx hb dX5_resize_41 (by decide) ?_
          exact ih.2.2.2.1 t (uI (uI li 3 (li 100)) 101 (li 1)) lj H locs ls hR (lv_sub hl [1, 2, 3, 0] rfl) h
      · intro t li lj H locs ls hR hl h
        have hR : wbX5_resize_3 (wpX5_resize k) k t li lj Q := hR
        unfold wbX5_resize_3 at hR
        refine x_put (ci := 5) (C := RX5) (T := TX5) (N := 6) (v := .int (li 101)) (ty := .int) B h hin5 tyX5 tyX5_ok nmX5 11 3 rfl rfl (by decide) (by decide +kernel) rfl rfl rfl rfl (Nat.le_of_ble_eq_true rfl) dX5_resize_45 (fun H locs h => ?_)
        obtain ⟨t_8, et_8⟩ : ∃ v : XT, v = sI t 10 (li 101) := ⟨_, rfl⟩
        have hR := hR t_8 et_8
        have h : Hp D A s.heap (wX cI cJ cB cZ ad t_8) H locs := by rw [et_8]; exact h
        refine lv_aload_n hx hb dX5_resize_48 rfl (lv_at hl 0 rfl) ?_
        refine lv_iload_n hx hb dX5_resize_49 rfl (lv_at hl 3 rfl) ?_
        refine lv_if_eq (tgt := 57) hx hb dX5_resize_50 (by decide) (fun c_9 => ?_) (fun c_9 => ?_)
        · have hR := hR.1 c_9
          refine lv_iconst (v := 0) hx hb dX5_resize_57 (by decide) ?_
          exact ih.2.2.2.2 t_8 (uI li 101 0) lj H locs ls hR (lv_sub hl [0, 1, 2, 3] rfl) h
        · have hR := hR.2 c_9
          refine lv_iload_n hx hb dX5_resize_53 rfl (lv_at hl 2 rfl) ?_
          refine lv_goto (tgt := 58) hx hb dX5_resize_54 (by decide) ?_
          exact ih.2.2.2.2 t_8 (uI li 101 (li 2)) lj H locs ls hR (lv_sub hl [0, 1, 2, 3] rfl) h
      · intro t li lj H locs ls hR hl h
        have hR : wbX5_resize_4 (wpX5_resize k) k t li lj Q := hR
        unfold wbX5_resize_4 at hR
        refine x_put (ci := 5) (C := RX5) (T := TX5) (N := 6) (v := .int (li 101)) (ty := .int) B h hin5 tyX5 tyX5_ok nmX5 11 4 rfl rfl (by decide) (by decide +kernel) rfl rfl rfl rfl (Nat.le_of_ble_eq_true rfl) dX5_resize_58 (fun H locs h => ?_)
        obtain ⟨t_10, et_10⟩ : ∃ v : XT, v = sI t 11 (li 101) := ⟨_, rfl⟩
        have hR := hR t_10 et_10
        have h : Hp D A s.heap (wX cI cJ cB cZ ad t_10) H locs := by rw [et_10]; exact h
        exact x_vret (w1 := (fun u : XT => (wX cI cJ cB cZ ad u))) t_10 B h hr hR dX5_resize_61
  exact (main k).1 t _ _ s.heap [] ls hR hl h
