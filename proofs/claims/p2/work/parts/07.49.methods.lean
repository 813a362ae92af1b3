set_option maxRecDepth 20000 in
theorem ggX6_howMany_J13_bitCount_95d88 : GoodIn wsX6_howMany wsJ13_bitCount_95d88 := goodIn_r _ [5, 6, 7, 8] (by decide +kernel) (by decide +kernel)
set_option maxRecDepth 20000 in
theorem gX6_howMany_J13_bitCount_95d88 : GoodIn wsX6_howMany (va_wsS RX6 65 yJ13_bitCount_95d88 wsJ13_bitCount_95d88) := goodIn_app (goodIn_of _ (by decide +kernel)) ggX6_howMany_J13_bitCount_95d88
def wbX6_howMany_0 (rec : Nat → XT → (Nat → Int32) → (Nat → Int64) → (Int32 → XT → Prop) → Prop) (k : Nat) (t : XT) (li : Nat → Int32) (lj : Nat → Int64) (Q : Int32 → XT → Prop) : Prop :=
  (wqJ13_bitCount_95d88 k (t.2.1 1) (fun r_1 => Q r_1 t))
def wpX6_howMany : Nat → Nat → XT → (Nat → Int32) → (Nat → Int64) → (Int32 → XT → Prop) → Prop
  | 0, _, _, _, _, _ => False
  | k + 1, 0, t, li, lj, Q => wbX6_howMany_0 (wpX6_howMany k) k t li lj Q
  | _ + 1, _, _, _, _, _ => False
def wqX6_howMany (k : Nat) (t : XT)  (Q : Int32 → XT → Prop) : Prop := wpX6_howMany k 0 t (fun _ => 0) (fun _ => 0) Q
set_option maxHeartbeats 8000000 in
set_option maxRecDepth 100000 in
theorem wkX6_howMany (l : Launch) (D : va_G) (cI cJ cB cZ : ClassId) (ad : Nat → Nat) (k : Nat) (t : XT)  (Q : Int32 → XT → Prop) (hR : wqX6_howMany k t  Q) : MetI l yX6_howMany wsX6_howMany 1 21 0 0 D (TYS cI cJ cB cZ) (wX cI cJ cB cZ ad t) [.ref (ad 4)] (fun r u => Q r u) (fun u : XT => (wX cI cJ cB cZ ad u)) := by
  refine x_startI (ty := .int) (cc := cX6_howMany) (by decide) rfl (Nat.le_of_ble_eq_true rfl) ?_
  intro p e s m args below meth c A ls B hr hnm h hl
  have hx := B.1.1
  have hb := B.1.2.1
  have hml := B.1.2.2.1
  have hts := B.1.2.2.2.2
  have hown : s.vm.findClass RX6 = some m.cls := B.1.2.2.2.1
  have hin6 : ∀ w ∈ u_ws RX6 TX6 6, w ∈ wsX6_howMany := by decide +kernel
  have main : ∀ k : Nat, (∀ (t : XT) (li : Nat → Int32) (lj : Nat → Int64) (H : Heap) (locs : List Loc) (ls : Array Slot), wpX6_howMany k 0 t li lj Q → lv_has ls 1 [(0, .ref (ad 4))] → Hp D A s.heap (wX cI cJ cB cZ ad t) H locs → W p l e { frames := 1, cells := 0, slots := 0, locals := 21 } s m args below meth c H locs 0 0 (MQ below (va_Qi (fun r u => Q r u) (fun u t => xEnd D ((fun u : XT => (wX cI cJ cB cZ ad u)) u) A t) A) args s 0 0 A) (F0 m 0 ls [])) := by
    intro k
    induction k with
    | zero => exact fun _ _ _ _ _ _ hR => False.elim hR
    | succ k ih =>
      intro t li lj H locs ls hR hl h
      have hR : wbX6_howMany_0 (wpX6_howMany k) k t li lj Q := hR
      unfold wbX6_howMany_0 at hR
      refine lv_aload_n hx hb dX6_howMany_0 rfl (lv_at hl 0 rfl) ?_
      refine x_get (ci := 6) (C := RX6) (T := TX6) (N := 6) (v := .long (t.2.1 1)) B h hin6 4 3 rfl rfl (by decide) (by decide +kernel) rfl dX6_howMany_1 ?_
      refine x_cSIE (n := 1) (As := [.long (t.2.1 1)]) (rest := []) B h (wkJ13_bitCount_95d88 l D cI cJ cB cZ ad k (t.2.1 1) _ hR) ⟨⟨_, rfl⟩, by decide +kernel, Nat.le_of_ble_eq_true rfl, Nat.le_of_ble_eq_true rfl⟩ gX6_howMany_J13_bitCount_95d88 rfl hl.1 rfl (Nat.le_of_ble_eq_true rfl) dX6_howMany_4 ⟨Nat.le_of_ble_eq_true rfl, Nat.le_of_ble_eq_true rfl⟩ (fun r_1 _ H locs hR h => ?_)
      exact x_iret (w1 := (fun u : XT => (wX cI cJ cB cZ ad u))) t B h hr rfl hR dX6_howMany_7
  exact (main k) t _ _ s.heap [] ls hR hl h
set_option maxRecDepth 20000 in
theorem ggX11_keep_X4_store : GoodIn wsX11_keep wsX4_store := goodIn_r _ [9, 10, 11, 12, 13, 14, 15, 16, 17, 18, 19, 51, 52, 53, 54, 55, 56, 57, 58] (by decide +kernel) (by decide +kernel)
set_option maxRecDepth 20000 in
theorem gX11_keep_X4_store : GoodIn wsX11_keep (wsV RX11 309 RX4 yX4_store wsX4_store) := goodIn_app (goodIn_of _ (by decide +kernel)) ggX11_keep_X4_store
set_option maxRecDepth 20000 in
theorem ggX11_keep_X6_howMany : GoodIn wsX11_keep wsX6_howMany := goodIn_r _ [24, 25, 26, 27, 28, 29, 30, 31, 32, 51, 52, 53, 54, 55, 56] (by decide +kernel) (by decide +kernel)
set_option maxRecDepth 20000 in
theorem gX11_keep_X6_howMany : GoodIn wsX11_keep (wsV RX11 313 RX6 yX6_howMany wsX6_howMany) := goodIn_app (goodIn_of _ (by decide +kernel)) ggX11_keep_X6_howMany
def wbX11_keep_0 (rec : Nat → XT → (Nat → Int32) → (Nat → Int64) → (Int32 → XT → Prop) → Prop) (k : Nat) (t : XT) (li : Nat → Int32) (lj : Nat → Int64) (Q : Int32 → XT → Prop) : Prop :=
  (((li 1) < 0) → rec 1 t li lj Q) ∧ (¬ ((li 1) < 0) → (((3 : Int32) ≤ (li 1)) → rec 1 t li lj Q) ∧ (¬ ((3 : Int32) ≤ (li 1)) → ((¬ (t.1 4) = 0) → (wqX4_store_c4 k t (li 1) (fun t_4 => (wqX6_howMany k t_4  (fun r_5 t_5 => Q r_5 t_5))))) ∧ (((t.1 4) = 0) → rec 1 t li lj Q)))
def wbX11_keep_1 (rec : Nat → XT → (Nat → Int32) → (Nat → Int64) → (Int32 → XT → Prop) → Prop) (k : Nat) (t : XT) (li : Nat → Int32) (lj : Nat → Int64) (Q : Int32 → XT → Prop) : Prop :=
  Q (-1) t
def wpX11_keep : Nat → Nat → XT → (Nat → Int32) → (Nat → Int64) → (Int32 → XT → Prop) → Prop
  | 0, _, _, _, _, _ => False
  | k + 1, 0, t, li, lj, Q => wbX11_keep_0 (wpX11_keep k) k t li lj Q
  | k + 1, 1, t, li, lj, Q => wbX11_keep_1 (wpX11_keep k) k t li lj Q
  | _ + 1, _, _, _, _, _ => False
def wqX11_keep (k : Nat) (t : XT) (a1 : Int32) (Q : Int32 → XT → Prop) : Prop := wpX11_keep k 0 t (uI (fun _ => 0) 1 a1) (fun _ => 0) Q
set_option maxHeartbeats 8000000 in
set_option maxRecDepth 100000 in
theorem wkX11_keep (l : Launch) (D : va_G) (cI cJ cB cZ : ClassId) (ad : Nat → Nat) (k : Nat) (t : XT) (a1 : Int32) (Q : Int32 → XT → Prop) (hR : wqX11_keep k t a1 Q) : MetI l yX11_keep wsX11_keep 2 86 0 0 D (TYS cI cJ cB cZ) (wX cI cJ cB cZ ad t) [.ref (ad 0), .int a1] (fun r u => Q r u) (fun u : XT => (wX cI cJ cB cZ ad u)) := by
  refine x_startI (ty := .int) (cc := cX11_keep) (by decide) rfl (Nat.le_of_ble_eq_true rfl) ?_
  intro p e s m args below meth c A ls B hr hnm h hl
  have hx := B.1.1
  have hb := B.1.2.1
  have hml := B.1.2.2.1
  have hts := B.1.2.2.2.2
  have hown : s.vm.findClass RX11 = some m.cls := B.1.2.2.2.1
  have hin9 : ∀ w ∈ u_ws RX9 TX9 7, w ∈ wsX11_keep := by decide +kernel
  have hin11 : ∀ w ∈ u_ws RX11 TX11 11, w ∈ wsX11_keep := by decide +kernel
  have main : ∀ k : Nat, (∀ (t : XT) (li : Nat → Int32) (lj : Nat → Int64) (H : Heap) (locs : List Loc) (ls : Array Slot), wpX11_keep k 0 t li lj Q → lv_has ls 2 [(0, .ref (ad 0)), (1, .int (li 1))] → Hp D A s.heap (wX cI cJ cB cZ ad t) H locs → W p l e { frames := 2, cells := 0, slots := 0, locals := 86 } s m args below meth c H locs 0 0 (MQ below (va_Qi (fun r u => Q r u) (fun u t => xEnd D ((fun u : XT => (wX cI cJ cB cZ ad u)) u) A t) A) args s 0 0 A) (F0 m 0 ls [])) ∧
      (∀ (t : XT) (li : Nat → Int32) (lj : Nat → Int64) (H : Heap) (locs : List Loc) (ls : Array Slot), wpX11_keep k 1 t li lj Q → lv_has ls 2 [(0, .ref (ad 0)), (1, .int (li 1))] → Hp D A s.heap (wX cI cJ cB cZ ad t) H locs → W p l e { frames := 2, cells := 0, slots := 0, locals := 86 } s m args below meth c H locs 0 0 (MQ below (va_Qi (fun r u => Q r u) (fun u t => xEnd D ((fun u : XT => (wX cI cJ cB cZ ad u)) u) A t) A) args s 0 0 A) (F0 m 19 ls [])) := by
    intro k
    induction k with
    | zero => exact ⟨fun _ _ _ _ _ _ hR => False.elim hR, fun _ _ _ _ _ _ hR => False.elim hR⟩
    | succ k ih =>
      refine ⟨?_, ?_⟩
      · intro t li lj H locs ls hR hl h
        have hR : wbX11_keep_0 (wpX11_keep k) k t li lj Q := hR
        unfold wbX11_keep_0 at hR
        refine lv_iload_n hx hb dX11_keep_0 rfl (lv_at hl 1 rfl) ?_
        refine lv_if_lt (tgt := 19) hx hb dX11_keep_1 (by decide) (fun c_1 => ?_) (fun c_1 => ?_)
        · have hR := hR.1 c_1
          exact ih.2 t li lj H locs ls hR (lv_sub hl [0, 1] rfl) h
        · have hR := hR.2 c_1
          refine lv_iload_n hx hb dX11_keep_4 rfl (lv_at hl 1 rfl) ?_
          refine lv_iconst (v := 3) hx hb dX11_keep_5 (by decide) ?_
          refine lv_icmp_ge (tgt := 19) hx hb dX11_keep_6 (by decide) (fun c_2 => ?_) (fun c_2 => ?_)
          · have hR := hR.1 c_2
            exact ih.2 t li lj H locs ls hR (lv_sub hl [0, 1] rfl) h
          · have hR := hR.2 c_2
            refine lv_aload_n hx hb dX11_keep_9 rfl (lv_at hl 0 rfl) ?_
            refine x_get (ci := 11) (C := RX11) (T := TX11) (N := 11) (v := .ref (ad 3)) B h hin11 0 2 rfl rfl (by decide) (by decide +kernel) rfl dX11_keep_10 ?_
            refine x_get (ci := 9) (C := RX9) (T := TX9) (N := 7) (v := .int (t.1 4)) B h hin9 3 0 rfl rfl (by decide) (by decide +kernel) rfl dX11_keep_13 ?_
            refine lv_if_ne (tgt := 21) hx hb dX11_keep_16 (by decide) (fun c_3 => ?_) (fun c_3 => ?_)
            · have hR := hR.1 c_3
              refine lv_aload_n hx hb dX11_keep_21 rfl (lv_at hl 0 rfl) ?_
              refine x_get (ci := 11) (C := RX11) (T := TX11) (N := 11) (v := .ref (ad 10)) B h hin11 0 9 rfl rfl (by decide) (by decide +kernel) rfl dX11_keep_22 ?_
              refine lv_iload_n hx hb dX11_keep_25 rfl (lv_at hl 1 rfl) ?_
              refine lv_aload_n hx hb dX11_keep_26 rfl (lv_at hl 0 rfl) ?_
              refine x_get (ci := 11) (C := RX11) (T := TX11) (N := 11) (v := .ref (ad 4)) B h hin11 0 3 rfl rfl (by decide) (by decide +kernel) rfl dX11_keep_27 ?_
              refine x_cVVF (n := 2) (As := [.int (li 1), .ref (ad 4)]) (rest := []) B h (wkX4_store_c4 l D cI cJ cB cZ ad k t (li 1) _ hR) ⟨⟨_, rfl⟩, by decide +kernel, Nat.le_of_ble_eq_true rfl, Nat.le_of_ble_eq_true rfl⟩ gX11_keep_X4_store (show ((wX cI cJ cB cZ ad t) : va_W)[10]? = some (_, .inr (4, _)) from rfl) rfl rfl hl.1 rfl (Nat.le_of_ble_eq_true rfl) dX11_keep_30 ⟨Nat.le_of_ble_eq_true rfl, Nat.le_of_ble_eq_true rfl⟩ (fun t_4 H locs hR h => ?_)
              refine lv_aload_n hx hb dX11_keep_33 rfl (lv_at hl 0 rfl) ?_
              refine x_get (ci := 11) (C := RX11) (T := TX11) (N := 11) (v := .ref (ad 4)) B h hin11 0 3 rfl rfl (by decide) (by decide +kernel) rfl dX11_keep_34 ?_
              refine x_cVIF (n := 0) (As := []) (rest := []) B h (wkX6_howMany l D cI cJ cB cZ ad k t_4  _ hR) ⟨⟨_, rfl⟩, by decide +kernel, Nat.le_of_ble_eq_true rfl, Nat.le_of_ble_eq_true rfl⟩ gX11_keep_X6_howMany (show ((wX cI cJ cB cZ ad t_4) : va_W)[4]? = some (_, .inr (6, _)) from rfl) rfl rfl hl.1 rfl (Nat.le_of_ble_eq_true rfl) dX11_keep_37 ⟨Nat.le_of_ble_eq_true rfl, Nat.le_of_ble_eq_true rfl⟩ (fun r_5 t_5 H locs hR h => ?_)
              exact x_iret (w1 := (fun u : XT => (wX cI cJ cB cZ ad u))) t_5 B h hr rfl hR dX11_keep_40
            · have hR := hR.2 c_3
              exact ih.2 t li lj H locs ls hR (lv_sub hl [0, 1] rfl) h
      · intro t li lj H locs ls hR hl h
        have hR : wbX11_keep_1 (wpX11_keep k) k t li lj Q := hR
        unfold wbX11_keep_1 at hR
        refine lv_iconst (v := (-1)) hx hb dX11_keep_19 (by decide) ?_
        exact x_iret (w1 := (fun u : XT => (wX cI cJ cB cZ ad u))) t B h hr rfl hR dX11_keep_20
  exact (main k).1 t _ _ s.heap [] ls hR hl h
def wbX4_shared_c4_0 (rec : Nat → XT → (Nat → Int32) → (Nat → Int64) → (Int32 → XT → Prop) → Prop) (k : Nat) (t : XT) (li : Nat → Int32) (lj : Nat → Int64) (Q : Int32 → XT → Prop) : Prop :=
  rec 1 t (uI (uI li 3 0) 4 0) lj Q
def wbX4_shared_c4_1 (rec : Nat → XT → (Nat → Int32) → (Nat → Int64) → (Int32 → XT → Prop) → Prop) (k : Nat) (t : XT) (li : Nat → Int32) (lj : Nat → Int64) (Q : Int32 → XT → Prop) : Prop :=
  (((64 : Int32) ≤ (li 4)) → Q (li 3) t) ∧ (¬ ((64 : Int32) ≤ (li 4)) → (vp_in (li 4) 64 ∧ (∀ v_2 : Int32, v_2 = (t.2.2.1 5) (li 4).toNatClampNeg → ((v_2 ≤ (li 4)) → rec 2 t li lj Q) ∧ (¬ (v_2 ≤ (li 4)) → (vp_in (li 4) 64 ∧ (∀ v_4 : Int32, v_4 = (t.2.2.1 5) (li 4).toNatClampNeg → (∀ v_5 : Int32, v_5 = ((li 1) * 64) → (∀ v_6 : Int32, v_6 = (v_5 + (li 4)) → (vp_in v_6 192 ∧ (∀ v_7 : Int32, v_7 = (t.2.2.1 10) v_6.toNatClampNeg → ((¬ v_4 = v_7) → rec 2 t li lj Q) ∧ ((v_4 = v_7) → (∀ v_9 : Int32, v_9 = (li 3) + Int32.ofInt 1 → rec 2 t (uI li 3 v_9) lj Q))))))))))))
def wbX4_shared_c4_2 (rec : Nat → XT → (Nat → Int32) → (Nat → Int64) → (Int32 → XT → Prop) → Prop) (k : Nat) (t : XT) (li : Nat → Int32) (lj : Nat → Int64) (Q : Int32 → XT → Prop) : Prop :=
  (∀ v_10 : Int32, v_10 = (li 4) + Int32.ofInt 1 → rec 1 t (uI li 4 v_10) lj Q)
def wpX4_shared_c4 : Nat → Nat → XT → (Nat → Int32) → (Nat → Int64) → (Int32 → XT → Prop) → Prop
  | 0, _, _, _, _, _ => False
  | k + 1, 0, t, li, lj, Q => wbX4_shared_c4_0 (wpX4_shared_c4 k) k t li lj Q
  | k + 1, 1, t, li, lj, Q => wbX4_shared_c4_1 (wpX4_shared_c4 k) k t li lj Q
  | k + 1, 2, t, li, lj, Q => wbX4_shared_c4_2 (wpX4_shared_c4 k) k t li lj Q
  | _ + 1, _, _, _, _, _ => False
def wqX4_shared_c4 (k : Nat) (t : XT) (a1 : Int32) (Q : Int32 → XT → Prop) : Prop := wpX4_shared_c4 k 0 t (uI (fun _ => 0) 1 a1) (fun _ => 0) Q
set_option maxHeartbeats 8000000 in
set_option maxRecDepth 100000 in
theorem wkX4_shared_c4 (l : Launch) (D : va_G) (cI cJ cB cZ : ClassId) (ad : Nat → Nat) (k : Nat) (t : XT) (a1 : Int32) (Q : Int32 → XT → Prop) (hR : wqX4_shared_c4 k t a1 Q) : MetI l yX4_shared wsX4_shared 0 0 0 0 D (TYS cI cJ cB cZ) (wX cI cJ cB cZ ad t) [.ref (ad 10), .int a1, .ref (ad 4)] (fun r u => Q r u) (fun u : XT => (wX cI cJ cB cZ ad u)) := by
  refine x_startI (ty := .int) (cc := cX4_shared) (by decide) rfl (Nat.le_of_ble_eq_true rfl) ?_
  intro p e s m args below meth c A ls B hr hnm h hl
  have hx := B.1.1
  have hb := B.1.2.1
  have hml := B.1.2.2.1
  have hts := B.1.2.2.2.2
  have hown : s.vm.findClass RX4 = some m.cls := B.1.2.2.2.1
  have hin4 : ∀ w ∈ u_ws RX4 TX4 2, w ∈ wsX4_shared := by decide +kernel
  have hin6 : ∀ w ∈ u_ws RX6 TX6 6, w ∈ wsX4_shared := by decide +kernel
  have main : ∀ k : Nat, (∀ (t : XT) (li : Nat → Int32) (lj : Nat → Int64) (H : Heap) (locs : List Loc) (ls : Array Slot), wpX4_shared_c4 k 0 t li lj Q → lv_has ls 5 [(0, .ref (ad 10)), (1, .int (li 1)), (2, .ref (ad 4))] → Hp D A s.heap (wX cI cJ cB cZ ad t) H locs → W p l e { frames := 0, cells := 0, slots := 0, locals := 0 } s m args below meth c H locs 0 0 (MQ below (va_Qi (fun r u => Q r u) (fun u t => xEnd D ((fun u : XT => (wX cI cJ cB cZ ad u)) u) A t) A) args s 0 0 A) (F0 m 0 ls [])) ∧
      (∀ (t : XT) (li : Nat → Int32) (lj : Nat → Int64) (H : Heap) (locs : List Loc) (ls : Array Slot), wpX4_shared_c4 k 1 t li lj Q → lv_has ls 5 [(0, .ref (ad 10)), (1, .int (li 1)), (2, .ref (ad 4)), (3, .int (li 3)), (4, .int (li 4))] → Hp D A s.heap (wX cI cJ cB cZ ad t) H locs → W p l e { frames := 0, cells := 0, slots := 0, locals := 0 } s m args below meth c H locs 0 0 (MQ below (va_Qi (fun r u => Q r u) (fun u t => xEnd D ((fun u : XT => (wX cI cJ cB cZ ad u)) u) A t) A) args s 0 0 A) (F0 m 5 ls [])) ∧
      (∀ (t : XT) (li : Nat → Int32) (lj : Nat → Int64) (H : Heap) (locs : List Loc) (ls : Array Slot), wpX4_shared_c4 k 2 t li lj Q → lv_has ls 5 [(0, .ref (ad 10)), (1, .int (li 1)), (2, .ref (ad 4)), (3, .int (li 3)), (4, .int (li 4))] → Hp D A s.heap (wX cI cJ cB cZ ad t) H locs → W p l e { frames := 0, cells := 0, slots := 0, locals := 0 } s m args below meth c H locs 0 0 (MQ below (va_Qi (fun r u => Q r u) (fun u t => xEnd D ((fun u : XT => (wX cI cJ cB cZ ad u)) u) A t) A) args s 0 0 A) (F0 m 49 ls [])) := by
    intro k
    induction k with
    | zero => exact ⟨fun _ _ _ _ _ _ hR => False.elim hR, fun _ _ _ _ _ _ hR => False.elim hR, fun _ _ _ _ _ _ hR => False.elim hR⟩
    | succ k ih =>
      refine ⟨?_, ?_, ?_⟩
      · intro t li lj H locs ls hR hl h
        have hR : wbX4_shared_c4_0 (wpX4_shared_c4 k) k t li lj Q := hR
        unfold wbX4_shared_c4_0 at hR
        refine lv_iconst (v := 0) hx hb dX4_shared_0 (by decide) ?_
        refine lv_istore_n (lv' := [(3, .int 0), (0, .ref (ad 10)), (1, .int (li 1)), (2, .ref (ad 4))]) hx hb dX4_shared_1 rfl hl (by decide) rfl (fun ls hl => ?_)
        refine lv_iconst (v := 0) hx hb dX4_shared_2 (by decide) ?_
        refine lv_istore (lv' := [(4, .int 0), (3, .int 0), (0, .ref (ad 10)), (1, .int (li 1)), (2, .ref (ad 4))]) hx hb dX4_shared_3 hl (by decide) rfl (fun ls hl => ?_)
        exact ih.2.1 t (uI (uI li 3 0) 4 0) lj H locs ls hR (lv_sub hl [2, 3, 4, 1, 0] rfl) h
      · intro t li lj H locs ls hR hl h
        have hR : wbX4_shared_c4_1 (wpX4_shared_c4 k) k t li lj Q := hR
        unfold wbX4_shared_c4_1 at hR
        refine lv_iload hx hb dX4_shared_5 (lv_at hl 4 rfl) ?_
        refine lv_bipush (v := 64) hx hb dX4_shared_7 (by decide) ?_
        refine lv_icmp_ge (tgt := 55) hx hb dX4_shared_9 (by decide) (fun c_1 => ?_) (fun c_1 => ?_)
        · have hR := hR.1 c_1
          refine lv_iload_n hx hb dX4_shared_55 rfl (lv_at hl 3 rfl) ?_
          exact x_iret (w1 := (fun u : XT => (wX cI cJ cB cZ ad u))) t B h hr rfl hR dX4_shared_56
        · have hR := hR.2 c_1
          refine lv_aload_n hx hb dX4_shared_12 rfl (lv_at hl 2 rfl) ?_
          refine x_get (ci := 6) (C := RX6) (T := TX6) (N := 6) (v := .ref (ad 20)) B h hin6 4 1 rfl rfl (by decide) (by decide +kernel) rfl dX4_shared_13 ?_
          refine lv_iload hx hb dX4_shared_16 (lv_at hl 4 rfl) ?_
          obtain ⟨hb_2, hR⟩ := hR
          refine va_iald (f := (t.2.2.1 5)) hx hb B.2.1 h.1 20 0 rfl rfl hb_2 dX4_shared_18 ?_
          refine lv_topi (fun v_2 ev_2 => ?_)
          have hR := hR v_2 ev_2
          refine lv_iload hx hb dX4_shared_19 (lv_at hl 4 rfl) ?_
          refine lv_icmp_le (tgt := 49) hx hb dX4_shared_21 (by decide) (fun c_3 => ?_) (fun c_3 => ?_)
          · have hR := hR.1 c_3
            exact ih.2.2 t li lj H locs ls hR (lv_sub hl [0, 1, 2, 3, 4] rfl) h
          · have hR := hR.2 c_3
            refine lv_aload_n hx hb dX4_shared_24 rfl (lv_at hl 2 rfl) ?_
            refine x_get (ci := 6) (C := RX6) (T := TX6) (N := 6) (v := .ref (ad 20)) B h hin6 4 1 rfl rfl (by decide) (by decide +kernel) rfl dX4_shared_25 ?_
            refine lv_iload hx hb dX4_shared_28 (lv_at hl 4 rfl) ?_
            obtain ⟨hb_4, hR⟩ := hR
            refine va_iald (f := (t.2.2.1 5)) hx hb B.2.1 h.1 20 0 rfl rfl hb_4 dX4_shared_30 ?_
            refine lv_topi (fun v_4 ev_4 => ?_)
            have hR := hR v_4 ev_4
            refine lv_aload_n hx hb dX4_shared_31 rfl (lv_at hl 0 rfl) ?_
            refine x_get (ci := 4) (C := RX4) (T := TX4) (N := 2) (v := .ref (ad 29)) B h hin4 10 0 rfl rfl (by decide) (by decide +kernel) rfl dX4_shared_32 ?_
            refine lv_iload_n hx hb dX4_shared_35 rfl (lv_at hl 1 rfl) ?_
            refine lv_bipush (v := 64) hx hb dX4_shared_36 (by decide) ?_
            refine lv_imul hx hb dX4_shared_38 ?_
            refine lv_topi (fun v_5 ev_5 => ?_)
            have hR := hR v_5 ev_5
            refine lv_iload hx hb dX4_shared_39 (lv_at hl 4 rfl) ?_
            refine lv_iadd hx hb dX4_shared_41 ?_
            refine lv_topi (fun v_6 ev_6 => ?_)
            have hR := hR v_6 ev_6
            obtain ⟨hb_7, hR⟩ := hR
            refine va_iald (f := (t.2.2.1 10)) hx hb B.2.1 h.1 29 0 rfl rfl hb_7 dX4_shared_42 ?_
            refine lv_topi (fun v_7 ev_7 => ?_)
            have hR := hR v_7 ev_7
            refine lv_icmp_ne (tgt := 49) hx hb dX4_shared_43 (by decide) (fun c_8 => ?_) (fun c_8 => ?_)
            · have hR := hR.1 c_8
              exact ih.2.2 t li lj H locs ls hR (lv_sub hl [0, 1, 2, 3, 4] rfl) h
            · have hR := hR.2 c_8
              obtain ⟨v_9, ev_9⟩ : ∃ v : Int32, v = (li 3) + Int32.ofInt 1 := ⟨_, rfl⟩
              have hR := hR v_9 ev_9
              refine lv_iinc (v := v_9) (lv' := [(3, .int v_9), (0, .ref (ad 10)), (1, .int (li 1)), (2, .ref (ad 4)), (4, .int (li 4))]) hx hb dX4_shared_46 hl (k := 3) rfl ev_9.symm (by decide) rfl (fun ls hl => ?_)
              exact ih.2.2 t (uI li 3 v_9) lj H locs ls hR (lv_sub hl [1, 2, 3, 0, 4] rfl) h
      · intro t li lj H locs ls hR hl h
        have hR : wbX4_shared_c4_2 (wpX4_shared_c4 k) k t li lj Q := hR
        unfold wbX4_shared_c4_2 at hR
        obtain ⟨v_10, ev_10⟩ : ∃ v : Int32, v = (li 4) + Int32.ofInt 1 := ⟨_, rfl⟩
        have hR := hR v_10 ev_10
        refine lv_iinc (v := v_10) (lv' := [(4, .int v_10), (0, .ref (ad 10)), (1, .int (li 1)), (2, .ref (ad 4)), (3, .int (li 3))]) hx hb dX4_shared_49 hl (k := 4) rfl ev_10.symm (by decide) rfl (fun ls hl => ?_)
        refine lv_goto (tgt := 5) hx hb dX4_shared_52 (by decide) ?_
        exact ih.2.1 t (uI li 4 v_10) lj H locs ls hR (lv_sub hl [1, 2, 3, 4, 0] rfl) h
  exact (main k).1 t _ _ s.heap [] ls hR hl h
set_option maxRecDepth 20000 in
theorem ggX11_same_X11_isIn : GoodIn wsX11_same wsX11_isIn := goodIn_r _ [7] (by decide +kernel) (by decide +kernel)
set_option maxRecDepth 20000 in
theorem gX11_same_X11_isIn : GoodIn wsX11_same (va_wsS RX11 168 yX11_isIn wsX11_isIn) := goodIn_app (goodIn_of _ (by decide +kernel)) ggX11_same_X11_isIn
set_option maxRecDepth 20000 in
theorem ggX11_same_X4_shared : GoodIn wsX11_same wsX4_shared := goodIn_r _ [12, 13, 14, 28, 29, 30, 31, 32, 33, 26, 27] (by decide +kernel) (by decide +kernel)
set_option maxRecDepth 20000 in
theorem gX11_same_X4_shared : GoodIn wsX11_same (wsV RX11 319 RX4 yX4_shared wsX4_shared) := goodIn_app (goodIn_of _ (by decide +kernel)) ggX11_same_X4_shared
def wbX11_same_0 (rec : Nat → XT → (Nat → Int32) → (Nat → Int64) → (Int32 → XT → Prop) → Prop) (k : Nat) (t : XT) (li : Nat → Int32) (lj : Nat → Int64) (Q : Int32 → XT → Prop) : Prop :=
  (((li 1) < 0) → rec 1 t li lj Q) ∧ (¬ ((li 1) < 0) → (((li 1) < 3) → (wqX11_isIn k (t.2.1 6) (li 1) (fun r_3 => ((¬ r_3 = 0) → (wqX4_shared_c4 k t (li 1) (fun r_5 t_5 => Q r_5 t_5))) ∧ ((r_3 = 0) → Q (-2) t)))) ∧ (¬ ((li 1) < 3) → rec 1 t li lj Q))
def wbX11_same_1 (rec : Nat → XT → (Nat → Int32) → (Nat → Int64) → (Int32 → XT → Prop) → Prop) (k : Nat) (t : XT) (li : Nat → Int32) (lj : Nat → Int64) (Q : Int32 → XT → Prop) : Prop :=
  Q (-1) t
def wpX11_same : Nat → Nat → XT → (Nat → Int32) → (Nat → Int64) → (Int32 → XT → Prop) → Prop
  | 0, _, _, _, _, _ => False
  | k + 1, 0, t, li, lj, Q => wbX11_same_0 (wpX11_same k) k t li lj Q
  | k + 1, 1, t, li, lj, Q => wbX11_same_1 (wpX11_same k) k t li lj Q
  | _ + 1, _, _, _, _, _ => False
def wqX11_same (k : Nat) (t : XT) (a1 : Int32) (Q : Int32 → XT → Prop) : Prop := wpX11_same k 0 t (uI (fun _ => 0) 1 a1) (fun _ => 0) Q
set_option maxHeartbeats 8000000 in
set_option maxRecDepth 100000 in
theorem wkX11_same (l : Launch) (D : va_G) (cI cJ cB cZ : ClassId) (ad : Nat → Nat) (k : Nat) (t : XT) (a1 : Int32) (Q : Int32 → XT → Prop) (hR : wqX11_same k t a1 Q) : MetI l yX11_same wsX11_same 1 24 0 0 D (TYS cI cJ cB cZ) (wX cI cJ cB cZ ad t) [.ref (ad 0), .int a1] (fun r u => Q r u) (fun u : XT => (wX cI cJ cB cZ ad u)) := by
  refine x_startI (ty := .int) (cc := cX11_same) (by decide) rfl (Nat.le_of_ble_eq_true rfl) ?_
  intro p e s m args below meth c A ls B hr hnm h hl
  have hx := B.1.1
  have hb := B.1.2.1
  have hml := B.1.2.2.1
  have hts := B.1.2.2.2.2
  have hown : s.vm.findClass RX11 = some m.cls := B.1.2.2.2.1
  have hin4 : ∀ w ∈ u_ws RX4 TX4 2, w ∈ wsX11_same := by decide +kernel
  have hin11 : ∀ w ∈ u_ws RX11 TX11 11, w ∈ wsX11_same := by decide +kernel
  have main : ∀ k : Nat, (∀ (t : XT) (li : Nat → Int32) (lj : Nat → Int64) (H : Heap) (locs : List Loc) (ls : Array Slot), wpX11_same k 0 t li lj Q → lv_has ls 2 [(0, .ref (ad 0)), (1, .int (li 1))] → Hp D A s.heap (wX cI cJ cB cZ ad t) H locs → W p l e { frames := 1, cells := 0, slots := 0, locals := 24 } s m args below meth c H locs 0 0 (MQ below (va_Qi (fun r u => Q r u) (fun u t => xEnd D ((fun u : XT => (wX cI cJ cB cZ ad u)) u) A t) A) args s 0 0 A) (F0 m 0 ls [])) ∧
      (∀ (t : XT) (li : Nat → Int32) (lj : Nat → Int64) (H : Heap) (locs : List Loc) (ls : Array Slot), wpX11_same k 1 t li lj Q → lv_has ls 2 [(0, .ref (ad 0)), (1, .int (li 1))] → Hp D A s.heap (wX cI cJ cB cZ ad t) H locs → W p l e { frames := 1, cells := 0, slots := 0, locals := 24 } s m args below meth c H locs 0 0 (MQ below (va_Qi (fun r u => Q r u) (fun u t => xEnd D ((fun u : XT => (wX cI cJ cB cZ ad u)) u) A t) A) args s 0 0 A) (F0 m 9 ls [])) := by
    intro k
    induction k with
    | zero => exact ⟨fun _ _ _ _ _ _ hR => False.elim hR, fun _ _ _ _ _ _ hR => False.elim hR⟩
    | succ k ih =>
      refine ⟨?_, ?_⟩
      · intro t li lj H locs ls hR hl h
        have hR : wbX11_same_0 (wpX11_same k) k t li lj Q := hR
        unfold wbX11_same_0 at hR
        refine lv_iload_n hx hb dX11_same_0 rfl (lv_at hl 1 rfl) ?_
        refine lv_if_lt (tgt := 9) hx hb dX11_same_1 (by decide) (fun c_1 => ?_) (fun c_1 => ?_)
        · have hR := hR.1 c_1
          exact ih.2 t li lj H locs ls hR (lv_sub hl [0, 1] rfl) h
        · have hR := hR.2 c_1
          refine lv_iload_n hx hb dX11_same_4 rfl (lv_at hl 1 rfl) ?_
          refine lv_iconst (v := 3) hx hb dX11_same_5 (by decide) ?_
          refine lv_icmp_lt (tgt := 11) hx hb dX11_same_6 (by decide) (fun c_2 => ?_) (fun c_2 => ?_)
          · have hR := hR.1 c_2
            refine lv_aload_n hx hb dX11_same_11 rfl (lv_at hl 0 rfl) ?_
            refine x_get (ci := 11) (C := RX11) (T := TX11) (N := 11) (v := .ref (ad 10)) B h hin11 0 9 rfl rfl (by decide) (by decide +kernel) rfl dX11_same_12 ?_
            refine x_get (ci := 4) (C := RX4) (T := TX4) (N := 2) (v := .long (t.2.1 6)) B h hin4 10 1 rfl rfl (by decide) (by decide +kernel) rfl dX11_same_15 ?_
            refine lv_iload_n hx hb dX11_same_18 rfl (lv_at hl 1 rfl) ?_
            refine x_cSIE (n := 2) (As := [.long (t.2.1 6), .int (li 1)]) (rest := []) B h (wkX11_isIn l D cI cJ cB cZ ad k (t.2.1 6) (li 1) _ hR) ⟨⟨_, rfl⟩, by decide +kernel, Nat.le_of_ble_eq_true rfl, Nat.le_of_ble_eq_true rfl⟩ gX11_same_X11_isIn rfl hl.1 rfl (Nat.le_of_ble_eq_true rfl) dX11_same_19 ⟨Nat.le_of_ble_eq_true rfl, Nat.le_of_ble_eq_true rfl⟩ (fun r_3 _ H locs hR h => ?_)
            refine lv_if_ne (tgt := 28) hx hb dX11_same_22 (by decide) (fun c_4 => ?_) (fun c_4 => ?_)
            · have hR := hR.1 c_4
              refine lv_aload_n hx hb dX11_same_28 rfl (lv_at hl 0 rfl) ?_
              refine x_get (ci := 11) (C := RX11) (T := TX11) (N := 11) (v := .ref (ad 10)) B h hin11 0 9 rfl rfl (by decide) (by decide +kernel) rfl dX11_same_29 ?_
              refine lv_iload_n hx hb dX11_same_32 rfl (lv_at hl 1 rfl) ?_
              refine lv_aload_n hx hb dX11_same_33 rfl (lv_at hl 0 rfl) ?_
              refine x_get (ci := 11) (C := RX11) (T := TX11) (N := 11) (v := .ref (ad 4)) B h hin11 0 3 rfl rfl (by decide) (by decide +kernel) rfl dX11_same_34 ?_
              refine x_cVIF (n := 2) (As := [.int (li 1), .ref (ad 4)]) (rest := []) B h (wkX4_shared_c4 l D cI cJ cB cZ ad k t (li 1) _ hR) ⟨⟨_, rfl⟩, by decide +kernel, Nat.le_of_ble_eq_true rfl, Nat.le_of_ble_eq_true rfl⟩ gX11_same_X4_shared (show ((wX cI cJ cB cZ ad t) : va_W)[10]? = some (_, .inr (4, _)) from rfl) rfl rfl hl.1 rfl (Nat.le_of_ble_eq_true rfl) dX11_same_37 ⟨Nat.le_of_ble_eq_true rfl, Nat.le_of_ble_eq_true rfl⟩ (fun r_5 t_5 H locs hR h => ?_)
              exact x_iret (w1 := (fun u : XT => (wX cI cJ cB cZ ad u))) t_5 B h hr rfl hR dX11_same_40
            · have hR := hR.2 c_4
              refine lv_bipush (v := (-2)) hx hb dX11_same_25 (by decide) ?_
              exact x_iret (w1 := (fun u : XT => (wX cI cJ cB cZ ad u))) t B h hr rfl hR dX11_same_27
          · have hR := hR.2 c_2
            exact ih.2 t li lj H locs ls hR (lv_sub hl [0, 1] rfl) h
      · intro t li lj H locs ls hR hl h
        have hR : wbX11_same_1 (wpX11_same k) k t li lj Q := hR
        unfold wbX11_same_1 at hR
        refine lv_iconst (v := (-1)) hx hb dX11_same_9 (by decide) ?_
        exact x_iret (w1 := (fun u : XT => (wX cI cJ cB cZ ad u))) t B h hr rfl hR dX11_same_10
  exact (main k).1 t _ _ s.heap [] ls hR hl h
set_option maxRecDepth 20000 in
theorem ggX9_hangingWith_X11_bit : GoodIn wsX9_hangingWith wsX11_bit := goodIn_r _ [6] (by decide +kernel) (by decide +kernel)
set_option maxRecDepth 20000 in
theorem gX9_hangingWith_X11_bit_n41 : GoodIn wsX9_hangingWith (wsX11_bit) := ggX9_hangingWith_X11_bit
set_option maxRecDepth 20000 in
theorem ggX9_hangingWith_X11_lowest : GoodIn wsX9_hangingWith wsX11_lowest := goodIn_r _ [8, 9, 10, 11, 12, 13, 14, 15] (by decide +kernel) (by decide +kernel)
set_option maxRecDepth 20000 in
theorem gX9_hangingWith_X11_lowest_n67 : GoodIn wsX9_hangingWith (wsX11_lowest) := ggX9_hangingWith_X11_lowest
def wbX9_hangingWith_0 (rec : Nat → XT → (Nat → Int32) → (Nat → Int64) → (Int64 → XT → Prop) → Prop) (k : Nat) (t : XT) (li : Nat → Int32) (lj : Nat → Int64) (Q : Int64 → XT → Prop) : Prop :=
  (wqX11_bit k (li 1) (fun r_1 => rec 1 t (uI li 8 0) (uI (uI lj 4 r_1) 6 r_1) Q))
def wbX9_hangingWith_1 (rec : Nat → XT → (Nat → Int32) → (Nat → Int64) → (Int64 → XT → Prop) → Prop) (k : Nat) (t : XT) (li : Nat → Int32) (lj : Nat → Int64) (Q : Int64 → XT → Prop) : Prop :=
  (((60 : Int32) ≤ (li 8)) → rec 2 t li lj Q) ∧ (¬ ((60 : Int32) ≤ (li 8)) → (∀ v_3 : Int32, v_3 = (lg_cmp (lj 6) 0) → ((v_3 = 0) → rec 2 t li lj Q) ∧ (¬ (v_3 = 0) → (wqX11_lowest k (lj 6) (fun r_5 => (vp_in r_5 64 ∧ (∀ v_6 : Int64, v_6 = (t.2.2.2 0) r_5.toNatClampNeg → (vp_in r_5 64 ∧ (∀ v_7 : Int64, v_7 = (t.2.2.2 1) r_5.toNatClampNeg → (∀ v_8 : Int64, v_8 = (v_6 ||| v_7) → (∀ v_9 : Int64, v_9 = (v_8 &&& (lj 2)) → (∀ v_10 : Int64, v_10 = ((lj 4) ^^^ (-1)) → (∀ v_11 : Int64, v_11 = (v_9 &&& v_10) → (∀ v_12 : Int64, v_12 = ((lj 4) ||| v_11) → (∀ v_13 : Int64, v_13 = ((lj 6) ||| v_11) → (wqX11_bit k r_5 (fun r_14 => (∀ v_15 : Int64, v_15 = (r_14 ^^^ (-1)) → (∀ v_16 : Int64, v_16 = (v_13 &&& v_15) → (∀ v_17 : Int32, v_17 = (li 8) + Int32.ofInt 1 → rec 1 t (uI li 8 v_17) (uI (uI lj 4 v_12) 6 v_16) Q))))))))))))))))))))
def wbX9_hangingWith_2 (rec : Nat → XT → (Nat → Int32) → (Nat → Int64) → (Int64 → XT → Prop) → Prop) (k : Nat) (t : XT) (li : Nat → Int32) (lj : Nat → Int64) (Q : Int64 → XT → Prop) : Prop :=
  Q (lj 4) t
def wpX9_hangingWith : Nat → Nat → XT → (Nat → Int32) → (Nat → Int64) → (Int64 → XT → Prop) → Prop
  | 0, _, _, _, _, _ => False
  | k + 1, 0, t, li, lj, Q => wbX9_hangingWith_0 (wpX9_hangingWith k) k t li lj Q
  | k + 1, 1, t, li, lj, Q => wbX9_hangingWith_1 (wpX9_hangingWith k) k t li lj Q
  | k + 1, 2, t, li, lj, Q => wbX9_hangingWith_2 (wpX9_hangingWith k) k t li lj Q
  | _ + 1, _, _, _, _, _ => False
def wqX9_hangingWith (k : Nat) (t : XT) (a1 : Int32) (a2 : Int64) (Q : Int64 → XT → Prop) : Prop := wpX9_hangingWith k 0 t (uI (fun _ => 0) 1 a1) (uI (fun _ => 0) 2 a2) Q
set_option maxHeartbeats 8000000 in
set_option maxRecDepth 100000 in
theorem wkX9_hangingWith (l : Launch) (D : va_G) (cI cJ cB cZ : ClassId) (ad : Nat → Nat) (k : Nat) (t : XT) (a1 : Int32) (a2 : Int64) (Q : Int64 → XT → Prop) (hR : wqX9_hangingWith k t a1 a2 Q) : MetL l yX9_hangingWith wsX9_hangingWith 2 42 0 0 D (TYS cI cJ cB cZ) (wX cI cJ cB cZ ad t) [.ref (ad 3), .int a1, .long a2] (fun r u => Q r u) (fun u : XT => (wX cI cJ cB cZ ad u)) := by
  refine x_startL (ty := .long) (cc := cX9_hangingWith) (by decide) rfl (Nat.le_of_ble_eq_true rfl) ?_
  intro p e s m args below meth c A ls B hr hnm h hl
  have hx := B.1.1
  have hb := B.1.2.1
  have hml := B.1.2.2.1
  have hts := B.1.2.2.2.2
  have hown : s.vm.findClass RX9 = some m.cls := B.1.2.2.2.1
  have hin9 : ∀ w ∈ u_ws RX9 TX9 7, w ∈ wsX9_hangingWith := by decide +kernel
  have main : ∀ k : Nat, (∀ (t : XT) (li : Nat → Int32) (lj : Nat → Int64) (H : Heap) (locs : List Loc) (ls : Array Slot), wpX9_hangingWith k 0 t li lj Q → lv_has ls 12 [(0, .ref (ad 3)), (1, .int (li 1)), (2, .long (lj 2))] → Hp D A s.heap (wX cI cJ cB cZ ad t) H locs → W p l e { frames := 2, cells := 0, slots := 0, locals := 42 } s m args below meth c H locs 0 0 (MQ below (va_Ql (fun r u => Q r u) (fun u t => xEnd D ((fun u : XT => (wX cI cJ cB cZ ad u)) u) A t) A) args s 0 0 A) (F0 m 0 ls [])) ∧
      (∀ (t : XT) (li : Nat → Int32) (lj : Nat → Int64) (H : Heap) (locs : List Loc) (ls : Array Slot), wpX9_hangingWith k 1 t li lj Q → lv_has ls 12 [(0, .ref (ad 3)), (1, .int (li 1)), (2, .long (lj 2)), (4, .long (lj 4)), (6, .long (lj 6)), (8, .int (li 8))] → Hp D A s.heap (wX cI cJ cB cZ ad t) H locs → W p l e { frames := 2, cells := 0, slots := 0, locals := 42 } s m args below meth c H locs 0 0 (MQ below (va_Ql (fun r u => Q r u) (fun u t => xEnd D ((fun u : XT => (wX cI cJ cB cZ ad u)) u) A t) A) args s 0 0 A) (F0 m 13 ls [])) ∧
      (∀ (t : XT) (li : Nat → Int32) (lj : Nat → Int64) (H : Heap) (locs : List Loc) (ls : Array Slot), wpX9_hangingWith k 2 t li lj Q → lv_has ls 12 [(0, .ref (ad 3)), (1, .int (li 1)), (2, .long (lj 2)), (4, .long (lj 4)), (6, .long (lj 6)), (8, .int (li 8))] → Hp D A s.heap (wX cI cJ cB cZ ad t) H locs → W p l e { frames := 2, cells := 0, slots := 0, locals := 42 } s m args below meth c H locs 0 0 (MQ below (va_Ql (fun r u => Q r u) (fun u t => xEnd D ((fun u : XT => (wX cI cJ cB cZ ad u)) u) A t) A) args s 0 0 A) (F0 m 90 ls [])) := by
    intro k
    induction k with
    | zero => exact ⟨fun _ _ _ _ _ _ hR => False.elim hR, fun _ _ _ _ _ _ hR => False.elim hR, fun _ _ _ _ _ _ hR => False.elim hR⟩
    | succ k ih =>
      refine ⟨?_, ?_, ?_⟩
      · intro t li lj H locs ls hR hl h
        have hR : wbX9_hangingWith_0 (wpX9_hangingWith k) k t li lj Q := hR
        unfold wbX9_hangingWith_0 at hR
        refine lv_iload_n hx hb dX9_hangingWith_0 rfl (lv_at hl 1 rfl) ?_
        refine x_cNLE (n := 1) (As := [.int (li 1)]) (rest := []) B h (wkX11_bit l D cI cJ cB cZ ad k (li 1) _ hR) ⟨⟨_, rfl⟩, by decide +kernel, Nat.le_of_ble_eq_true rfl, Nat.le_of_ble_eq_true rfl⟩ gX9_hangingWith_X11_bit_n41 (by decide +kernel) (by decide +kernel) (host := "MorseDesk") (by decide +kernel) rfl hl.1 rfl (Nat.le_of_ble_eq_true rfl) dX9_hangingWith_1 ⟨Nat.le_of_ble_eq_true rfl, Nat.le_of_ble_eq_true rfl⟩ (fun r_1 _ H locs hR h => ?_)
        refine lv_lstore (lv' := [(4, .long r_1), (0, .ref (ad 3)), (1, .int (li 1)), (2, .long (lj 2))]) hx hb dX9_hangingWith_4 hl (by decide) rfl (fun ls hl => ?_)
        refine lv_lload hx hb dX9_hangingWith_6 (lv_at hl 0 rfl) ?_
        refine lv_lstore (lv' := [(6, .long r_1), (4, .long r_1), (0, .ref (ad 3)), (1, .int (li 1)), (2, .long (lj 2))]) hx hb dX9_hangingWith_8 hl (by decide) rfl (fun ls hl => ?_)
        refine lv_iconst (v := 0) hx hb dX9_hangingWith_10 (by decide) ?_
        refine lv_istore (lv' := [(8, .int 0), (6, .long r_1), (4, .long r_1), (0, .ref (ad 3)), (1, .int (li 1)), (2, .long (lj 2))]) hx hb dX9_hangingWith_11 hl (by decide) rfl (fun ls hl => ?_)
        exact ih.2.1 t (uI li 8 0) (uI (uI lj 4 r_1) 6 r_1) H locs ls hR (lv_sub hl [3, 4, 5, 2, 1, 0] rfl) h
      · intro t li lj H locs ls hR hl h
        have hR : wbX9_hangingWith_1 (wpX9_hangingWith k) k t li lj Q := hR
        unfold wbX9_hangingWith_1 at hR
        refine lv_iload hx hb dX9_hangingWith_13 (lv_at hl 5 rfl) ?_
        refine lv_bipush (v := 60) hx hb dX9_hangingWith_15 (by decide) ?_
        refine lv_icmp_ge (tgt := 90) hx hb dX9_hangingWith_17 (by decide) (fun c_2 => ?_) (fun c_2 => ?_)
        · have hR := hR.1 c_2
          exact ih.2.2 t li lj H locs ls hR (lv_sub hl [0, 1, 2, 3, 4, 5] rfl) h
        · have hR := hR.2 c_2
          refine lv_lload hx hb dX9_hangingWith_20 (lv_at hl 4 rfl) ?_
          refine lv_lconst (v := 0) hx hb dX9_hangingWith_22 (by decide) ?_
          refine W.lcmp hx hb dX9_hangingWith_23 ?_
          refine lv_topi (fun v_3 ev_3 => ?_)
          have hR := hR v_3 ev_3
          refine lv_if_eq (tgt := 90) hx hb dX9_hangingWith_24 (by decide) (fun c_4 => ?_) (fun c_4 => ?_)
          · have hR := hR.1 c_4
            exact ih.2.2 t li lj H locs ls hR (lv_sub hl [0, 1, 2, 3, 4, 5] rfl) h
          · have hR := hR.2 c_4
            refine lv_lload hx hb dX9_hangingWith_27 (lv_at hl 4 rfl) ?_
            refine x_cNIE (n := 1) (As := [.long (lj 6)]) (rest := []) B h (wkX11_lowest l D cI cJ cB cZ ad k (lj 6) _ hR) ⟨⟨_, rfl⟩, by decide +kernel, Nat.le_of_ble_eq_true rfl, Nat.le_of_ble_eq_true rfl⟩ gX9_hangingWith_X11_lowest_n67 (by decide +kernel) (by decide +kernel) (host := "MorseDesk") (by decide +kernel) rfl hl.1 rfl (Nat.le_of_ble_eq_true rfl) dX9_hangingWith_29 ⟨Nat.le_of_ble_eq_true rfl, Nat.le_of_ble_eq_true rfl⟩ (fun r_5 _ H locs hR h => ?_)
            refine lv_istore (lv' := [(9, .int r_5), (0, .ref (ad 3)), (1, .int (li 1)), (2, .long (lj 2)), (4, .long (lj 4)), (6, .long (lj 6)), (8, .int (li 8))]) hx hb dX9_hangingWith_32 hl (by decide) rfl (fun ls hl => ?_)
            refine lv_aload_n hx hb dX9_hangingWith_34 rfl (lv_at hl 1 rfl) ?_
            refine x_get (ci := 9) (C := RX9) (T := TX9) (N := 7) (v := .ref (ad 17)) B h hin9 3 4 rfl rfl (by decide) (by decide +kernel) rfl dX9_hangingWith_35 ?_
            refine lv_iload hx hb dX9_hangingWith_38 (lv_at hl 0 rfl) ?_
            obtain ⟨hb_6, hR⟩ := hR
            refine va_lald (f := (t.2.2.2 0)) hx hb B.2.1 h.1 17 1 rfl rfl hb_6 dX9_hangingWith_40 ?_
            refine lv_topl (fun v_6 ev_6 => ?_)
            have hR := hR v_6 ev_6
            refine lv_aload_n hx hb dX9_hangingWith_41 rfl (lv_at hl 1 rfl) ?_
            refine x_get (ci := 9) (C := RX9) (T := TX9) (N := 7) (v := .ref (ad 18)) B h hin9 3 5 rfl rfl (by decide) (by decide +kernel) rfl dX9_hangingWith_42 ?_
            refine lv_iload hx hb dX9_hangingWith_45 (lv_at hl 0 rfl) ?_
            obtain ⟨hb_7, hR⟩ := hR
            refine va_lald (f := (t.2.2.2 1)) hx hb B.2.1 h.1 18 1 rfl rfl hb_7 dX9_hangingWith_47 ?_
            refine lv_topl (fun v_7 ev_7 => ?_)
            have hR := hR v_7 ev_7
            refine lv_lor hx hb dX9_hangingWith_48 ?_
            refine lv_topl (fun v_8 ev_8 => ?_)
            have hR := hR v_8 ev_8
            refine lv_lload_n hx hb dX9_hangingWith_49 rfl (lv_at hl 3 rfl) ?_
            refine lv_land hx hb dX9_hangingWith_50 ?_
            refine lv_topl (fun v_9 ev_9 => ?_)
            have hR := hR v_9 ev_9
            refine lv_lload hx hb dX9_hangingWith_51 (lv_at hl 4 rfl) ?_
            refine lv_ldc2 (v := (-1)) hx hb hown (hts (.constantLong RX9 74 (-1)) (by decide +kernel)) dX9_hangingWith_53 ?_
            refine lv_lxor hx hb dX9_hangingWith_56 ?_
            refine lv_topl (fun v_10 ev_10 => ?_)
            have hR := hR v_10 ev_10
            refine lv_land hx hb dX9_hangingWith_57 ?_
            refine lv_topl (fun v_11 ev_11 => ?_)
            have hR := hR v_11 ev_11
            refine lv_lstore (lv' := [(10, .long v_11), (9, .int r_5), (0, .ref (ad 3)), (1, .int (li 1)), (2, .long (lj 2)), (4, .long (lj 4)), (6, .long (lj 6)), (8, .int (li 8))]) hx hb dX9_hangingWith_58 hl (by decide) rfl (fun ls hl => ?_)
            refine lv_lload hx hb dX9_hangingWith_60 (lv_at hl 5 rfl) ?_
            refine lv_lload hx hb dX9_hangingWith_62 (lv_at hl 0 rfl) ?_
            refine lv_lor hx hb dX9_hangingWith_64 ?_
            refine lv_topl (fun v_12 ev_12 => ?_)
            have hR := hR v_12 ev_12
            refine lv_lstore (lv' := [(4, .long v_12), (10, .long v_11), (9, .int r_5), (0, .ref (ad 3)), (1, .int (li 1)), (2, .long (lj 2)), (6, .long (lj 6)), (8, .int (li 8))]) hx hb dX9_hangingWith_65 hl (by decide) rfl (fun ls hl => ?_)
            refine lv_lload hx hb dX9_hangingWith_67 (lv_at hl 6 rfl) ?_
            refine lv_lload hx hb dX9_hangingWith_69 (lv_at hl 1 rfl) ?_
            refine lv_lor hx hb dX9_hangingWith_71 ?_
            refine lv_topl (fun v_13 ev_13 => ?_)
            have hR := hR v_13 ev_13
            refine lv_iload hx hb dX9_hangingWith_72 (lv_at hl 2 rfl) ?_
            refine x_cNLE (n := 1) (As := [.int r_5]) (rest := [.long v_13]) B h (wkX11_bit l D cI cJ cB cZ ad k r_5 _ hR) ⟨⟨_, rfl⟩, by decide +kernel, Nat.le_of_ble_eq_true rfl, Nat.le_of_ble_eq_true rfl⟩ gX9_hangingWith_X11_bit_n41 (by decide +kernel) (by decide +kernel) (host := "MorseDesk") (by decide +kernel) rfl hl.1 rfl (Nat.le_of_ble_eq_true rfl) dX9_hangingWith_74 ⟨Nat.le_of_ble_eq_true rfl, Nat.le_of_ble_eq_true rfl⟩ (fun r_14 _ H locs hR h => ?_)
            refine lv_ldc2 (v := (-1)) hx hb hown (hts (.constantLong RX9 74 (-1)) (by decide +kernel)) dX9_hangingWith_77 ?_
            refine lv_lxor hx hb dX9_hangingWith_80 ?_
            refine lv_topl (fun v_15 ev_15 => ?_)
            have hR := hR v_15 ev_15
            refine lv_land hx hb dX9_hangingWith_81 ?_
            refine lv_topl (fun v_16 ev_16 => ?_)
            have hR := hR v_16 ev_16
            refine lv_lstore (lv' := [(6, .long v_16), (4, .long v_12), (10, .long v_11), (9, .int r_5), (0, .ref (ad 3)), (1, .int (li 1)), (2, .long (lj 2)), (8, .int (li 8))]) hx hb dX9_hangingWith_82 hl (by decide) rfl (fun ls hl => ?_)
            obtain ⟨v_17, ev_17⟩ : ∃ v : Int32, v = (li 8) + Int32.ofInt 1 := ⟨_, rfl⟩
            have hR := hR v_17 ev_17
            refine lv_iinc (v := v_17) (lv' := [(8, .int v_17), (6, .long v_16), (4, .long v_12), (10, .long v_11), (9, .int r_5), (0, .ref (ad 3)), (1, .int (li 1)), (2, .long (lj 2))]) hx hb dX9_hangingWith_84 hl (k := 7) rfl ev_17.symm (by decide) rfl (fun ls hl => ?_)
            refine lv_goto (tgt := 13) hx hb dX9_hangingWith_87 (by decide) ?_
            exact ih.2.1 t (uI li 8 v_17) (uI (uI lj 4 v_12) 6 v_16) H locs ls hR (lv_sub hl [5, 6, 7, 2, 1, 0] rfl) h
      · intro t li lj H locs ls hR hl h
        have hR : wbX9_hangingWith_2 (wpX9_hangingWith k) k t li lj Q := hR
        unfold wbX9_hangingWith_2 at hR
        refine lv_lload hx hb dX9_hangingWith_90 (lv_at hl 3 rfl) ?_
        exact x_lret (w1 := (fun u : XT => (wX cI cJ cB cZ ad u))) t B h hr hR dX9_hangingWith_92
  exact (main k).1 t _ _ s.heap [] ls hR hl h
set_option maxRecDepth 20000 in
theorem ggX9_partsOf_X11_lowest : GoodIn wsX9_partsOf wsX11_lowest := goodIn_r _ [4, 5, 6, 7, 8, 9, 10, 11] (by decide +kernel) (by decide +kernel)
set_option maxRecDepth 20000 in
theorem gX9_partsOf_X11_lowest_n67 : GoodIn wsX9_partsOf (wsX11_lowest) := ggX9_partsOf_X11_lowest
set_option maxRecDepth 20000 in
theorem ggX9_partsOf_X9_hangingWith : GoodIn wsX9_partsOf wsX9_hangingWith := goodIn_r _ [16, 17, 18, 1, 19, 3, 20, 2, 4, 5, 6, 7, 8, 9, 10, 11, 21, 22, 23, 24, 25, 26, 27] (by decide +kernel) (by decide +kernel)
set_option maxRecDepth 20000 in
theorem gX9_partsOf_X9_hangingWith : GoodIn wsX9_partsOf (wsV RX9 70 RX9 yX9_hangingWith wsX9_hangingWith) := goodIn_app (goodIn_of _ (by decide +kernel)) ggX9_partsOf_X9_hangingWith
def wbX9_partsOf_0 (rec : Nat → XT → (Nat → Int32) → (Nat → Int64) → (Int32 → XT → Prop) → Prop) (k : Nat) (t : XT) (li : Nat → Int32) (lj : Nat → Int64) (Q : Int32 → XT → Prop) : Prop :=
  rec 1 t (uI li 3 0) (uI lj 4 (lj 1)) Q
def wbX9_partsOf_1 (rec : Nat → XT → (Nat → Int32) → (Nat → Int64) → (Int32 → XT → Prop) → Prop) (k : Nat) (t : XT) (li : Nat → Int32) (lj : Nat → Int64) (Q : Int32 → XT → Prop) : Prop :=
  (∀ v_1 : Int32, v_1 = (lg_cmp (lj 4) 0) → ((v_1 = 0) → rec 2 t li lj Q) ∧ (¬ (v_1 = 0) → (((60 : Int32) ≤ (li 3)) → rec 2 t li lj Q) ∧ (¬ ((60 : Int32) ≤ (li 3)) → (wqX11_lowest k (lj 4) (fun r_4 => (wqX9_hangingWith k t r_4 (lj 1) (fun r_5 t_5 => (∀ v_6 : Int64, v_6 = (r_5 ^^^ (-1)) → (∀ v_7 : Int64, v_7 = ((lj 4) &&& v_6) → (∀ v_8 : Int32, v_8 = (li 3) + Int32.ofInt 1 → rec 1 t_5 (uI li 3 v_8) (uI lj 4 v_7) Q))))))))))
def wbX9_partsOf_2 (rec : Nat → XT → (Nat → Int32) → (Nat → Int64) → (Int32 → XT → Prop) → Prop) (k : Nat) (t : XT) (li : Nat → Int32) (lj : Nat → Int64) (Q : Int32 → XT → Prop) : Prop :=
  Q (li 3) t
def wpX9_partsOf : Nat → Nat → XT → (Nat → Int32) → (Nat → Int64) → (Int32 → XT → Prop) → Prop
  | 0, _, _, _, _, _ => False
  | k + 1, 0, t, li, lj, Q => wbX9_partsOf_0 (wpX9_partsOf k) k t li lj Q
  | k + 1, 1, t, li, lj, Q => wbX9_partsOf_1 (wpX9_partsOf k) k t li lj Q
  | k + 1, 2, t, li, lj, Q => wbX9_partsOf_2 (wpX9_partsOf k) k t li lj Q
  | _ + 1, _, _, _, _, _ => False
def wqX9_partsOf (k : Nat) (t : XT) (a1 : Int64) (Q : Int32 → XT → Prop) : Prop := wpX9_partsOf k 0 t (fun _ => 0) (uI (fun _ => 0) 1 a1) Q
set_option maxHeartbeats 8000000 in
set_option maxRecDepth 100000 in
theorem wkX9_partsOf (l : Launch) (D : va_G) (cI cJ cB cZ : ClassId) (ad : Nat → Nat) (k : Nat) (t : XT) (a1 : Int64) (Q : Int32 → XT → Prop) (hR : wqX9_partsOf k t a1 Q) : MetI l yX9_partsOf wsX9_partsOf 3 73 0 0 D (TYS cI cJ cB cZ) (wX cI cJ cB cZ ad t) [.ref (ad 3), .long a1] (fun r u => Q r u) (fun u : XT => (wX cI cJ cB cZ ad u)) := by
  refine x_startI (ty := .int) (cc := cX9_partsOf) (by decide) rfl (Nat.le_of_ble_eq_true rfl) ?_
  intro p e s m args below meth c A ls B hr hnm h hl
  have hx := B.1.1
  have hb := B.1.2.1
  have hml := B.1.2.2.1
  have hts := B.1.2.2.2.2
  have hown : s.vm.findClass RX9 = some m.cls := B.1.2.2.2.1
  have main : ∀ k : Nat, (∀ (t : XT) (li : Nat → Int32) (lj : Nat → Int64) (H : Heap) (locs : List Loc) (ls : Array Slot), wpX9_partsOf k 0 t li lj Q → lv_has ls 6 [(0, .ref (ad 3)), (1, .long (lj 1))] → Hp D A s.heap (wX cI cJ cB cZ ad t) H locs → W p l e { frames := 3, cells := 0, slots := 0, locals := 73 } s m args below meth c H locs 0 0 (MQ below (va_Qi (fun r u => Q r u) (fun u t => xEnd D ((fun u : XT => (wX cI cJ cB cZ ad u)) u) A t) A) args s 0 0 A) (F0 m 0 ls [])) ∧
      (∀ (t : XT) (li : Nat → Int32) (lj : Nat → Int64) (H : Heap) (locs : List Loc) (ls : Array Slot), wpX9_partsOf k 1 t li lj Q → lv_has ls 6 [(0, .ref (ad 3)), (1, .long (lj 1)), (3, .int (li 3)), (4, .long (lj 4))] → Hp D A s.heap (wX cI cJ cB cZ ad t) H locs → W p l e { frames := 3, cells := 0, slots := 0, locals := 73 } s m args below meth c H locs 0 0 (MQ below (va_Qi (fun r u => Q r u) (fun u t => xEnd D ((fun u : XT => (wX cI cJ cB cZ ad u)) u) A t) A) args s 0 0 A) (F0 m 5 ls [])) ∧
      (∀ (t : XT) (li : Nat → Int32) (lj : Nat → Int64) (H : Heap) (locs : List Loc) (ls : Array Slot), wpX9_partsOf k 2 t li lj Q → lv_has ls 6 [(0, .ref (ad 3)), (1, .long (lj 1)), (3, .int (li 3)), (4, .long (lj 4))] → Hp D A s.heap (wX cI cJ cB cZ ad t) H locs → W p l e { frames := 3, cells := 0, slots := 0, locals := 73 } s m args below meth c H locs 0 0 (MQ below (va_Qi (fun r u => Q r u) (fun u t => xEnd D ((fun u : XT => (wX cI cJ cB cZ ad u)) u) A t) A) args s 0 0 A) (F0 m 43 ls [])) := by
    intro k
    induction k with
    | zero => exact ⟨fun _ _ _ _ _ _ hR => False.elim hR, fun _ _ _ _ _ _ hR => False.elim hR, fun _ _ _ _ _ _ hR => False.elim hR⟩
    | succ k ih =>
      refine ⟨?_, ?_, ?_⟩
      · intro t li lj H locs ls hR hl h
        have hR : wbX9_partsOf_0 (wpX9_partsOf k) k t li lj Q := hR
        unfold wbX9_partsOf_0 at hR
        refine lv_iconst (v := 0) hx hb dX9_partsOf_0 (by decide) ?_
        refine lv_istore_n (lv' := [(3, .int 0), (0, .ref (ad 3)), (1, .long (lj 1))]) hx hb dX9_partsOf_1 rfl hl (by decide) rfl (fun ls hl => ?_)
        refine lv_lload_n hx hb dX9_partsOf_2 rfl (lv_at hl 2 rfl) ?_
        refine lv_lstore (lv' := [(4, .long (lj 1)), (3, .int 0), (0, .ref (ad 3)), (1, .long (lj 1))]) hx hb dX9_partsOf_3 hl (by decide) rfl (fun ls hl => ?_)
        exact ih.2.1 t (uI li 3 0) (uI lj 4 (lj 1)) H locs ls hR (lv_sub hl [2, 3, 1, 0] rfl) h
      · intro t li lj H locs ls hR hl h
        have hR : wbX9_partsOf_1 (wpX9_partsOf k) k t li lj Q := hR
        unfold wbX9_partsOf_1 at hR
        refine lv_lload hx hb dX9_partsOf_5 (lv_at hl 3 rfl) ?_
        refine lv_lconst (v := 0) hx hb dX9_partsOf_7 (by decide) ?_
        refine W.lcmp hx hb dX9_partsOf_8 ?_
        refine lv_topi (fun v_1 ev_1 => ?_)
        have hR := hR v_1 ev_1
        refine lv_if_eq (tgt := 43) hx hb dX9_partsOf_9 (by decide) (fun c_2 => ?_) (fun c_2 => ?_)
        · have hR := hR.1 c_2
          exact ih.2.2 t li lj H locs ls hR (lv_sub hl [0, 1, 2, 3] rfl) h
        · have hR := hR.2 c_2
          refine lv_iload_n hx hb dX9_partsOf_12 rfl (lv_at hl 2 rfl) ?_
          refine lv_bipush (v := 60) hx hb dX9_partsOf_13 (by decide) ?_
          refine lv_icmp_ge (tgt := 43) hx hb dX9_partsOf_15 (by decide) (fun c_3 => ?_) (fun c_3 => ?_)
          · have hR := hR.1 c_3
            exact ih.2.2 t li lj H locs ls hR (lv_sub hl [0, 1, 2, 3] rfl) h
          · have hR := hR.2 c_3
            refine lv_lload hx hb dX9_partsOf_18 (lv_at hl 3 rfl) ?_
            refine lv_aload_n hx hb dX9_partsOf_20 rfl (lv_at hl 0 rfl) ?_
            refine lv_lload hx hb dX9_partsOf_21 (lv_at hl 3 rfl) ?_
            refine x_cNIE (n := 1) (As := [.long (lj 4)]) (rest := [.ref (ad 3), .long (lj 4)]) B h (wkX11_lowest l D cI cJ cB cZ ad k (lj 4) _ hR) ⟨⟨_, rfl⟩, by decide +kernel, Nat.le_of_ble_eq_true rfl, Nat.le_of_ble_eq_true rfl⟩ gX9_partsOf_X11_lowest_n67 (by decide +kernel) (by decide +kernel) (host := "MorseDesk") (by decide +kernel) rfl hl.1 rfl (Nat.le_of_ble_eq_true rfl) dX9_partsOf_23 ⟨Nat.le_of_ble_eq_true rfl, Nat.le_of_ble_eq_true rfl⟩ (fun r_4 _ H locs hR h => ?_)
            refine lv_lload_n hx hb dX9_partsOf_26 rfl (lv_at hl 1 rfl) ?_
            refine x_cVLF (n := 2) (As := [.int r_4, .long (lj 1)]) (rest := [.long (lj 4)]) B h (wkX9_hangingWith l D cI cJ cB cZ ad k t r_4 (lj 1) _ hR) ⟨⟨_, rfl⟩, by decide +kernel, Nat.le_of_ble_eq_true rfl, Nat.le_of_ble_eq_true rfl⟩ gX9_partsOf_X9_hangingWith (show ((wX cI cJ cB cZ ad t) : va_W)[3]? = some (_, .inr (9, _)) from rfl) rfl rfl hl.1 rfl (Nat.le_of_ble_eq_true rfl) dX9_partsOf_27 ⟨Nat.le_of_ble_eq_true rfl, Nat.le_of_ble_eq_true rfl⟩ (fun r_5 t_5 H locs hR h => ?_)
            refine lv_ldc2 (v := (-1)) hx hb hown (hts (.constantLong RX9 74 (-1)) (by decide +kernel)) dX9_partsOf_30 ?_
            refine lv_lxor hx hb dX9_partsOf_33 ?_
            refine lv_topl (fun v_6 ev_6 => ?_)
            have hR := hR v_6 ev_6
            refine lv_land hx hb dX9_partsOf_34 ?_
            refine lv_topl (fun v_7 ev_7 => ?_)
            have hR := hR v_7 ev_7
            refine lv_lstore (lv' := [(4, .long v_7), (0, .ref (ad 3)), (1, .long (lj 1)), (3, .int (li 3))]) hx hb dX9_partsOf_35 hl (by decide) rfl (fun ls hl => ?_)
            obtain ⟨v_8, ev_8⟩ : ∃ v : Int32, v = (li 3) + Int32.ofInt 1 := ⟨_, rfl⟩
            have hR := hR v_8 ev_8
            refine lv_iinc (v := v_8) (lv' := [(3, .int v_8), (4, .long v_7), (0, .ref (ad 3)), (1, .long (lj 1))]) hx hb dX9_partsOf_37 hl (k := 3) rfl ev_8.symm (by decide) rfl (fun ls hl => ?_)
            refine lv_goto (tgt := 5) hx hb dX9_partsOf_40 (by decide) ?_
            exact ih.2.1 t_5 (uI li 3 v_8) (uI lj 4 v_7) H locs ls hR (lv_sub hl [2, 3, 0, 1] rfl) h
      · intro t li lj H locs ls hR hl h
        have hR : wbX9_partsOf_2 (wpX9_partsOf k) k t li lj Q := hR
        unfold wbX9_partsOf_2 at hR
        refine lv_iload_n hx hb dX9_partsOf_43 rfl (lv_at hl 2 rfl) ?_
        exact x_iret (w1 := (fun u : XT => (wX cI cJ cB cZ ad u))) t B h hr rfl hR dX9_partsOf_44
  exact (main k).1 t _ _ s.heap [] ls hR hl h
set_option maxRecDepth 20000 in
theorem ggX11_count_J13_bitCount_95d88 : GoodIn wsX11_count wsJ13_bitCount_95d88 := goodIn_r _ [13, 14, 15, 16] (by decide +kernel) (by decide +kernel)
set_option maxRecDepth 20000 in
theorem gX11_count_J13_bitCount_95d88 : GoodIn wsX11_count (va_wsS RX11 151 yJ13_bitCount_95d88 wsJ13_bitCount_95d88) := goodIn_app (goodIn_of _ (by decide +kernel)) ggX11_count_J13_bitCount_95d88
set_option maxRecDepth 20000 in
theorem ggX11_count_X9_greatestDim : GoodIn wsX11_count wsX9_greatestDim := goodIn_r _ [21, 22, 73, 74, 75, 76, 77, 78, 79] (by decide +kernel) (by decide +kernel)
set_option maxRecDepth 20000 in
theorem gX11_count_X9_greatestDim : GoodIn wsX11_count (wsV RX11 323 RX9 yX9_greatestDim wsX9_greatestDim) := goodIn_app (goodIn_of _ (by decide +kernel)) ggX11_count_X9_greatestDim
set_option maxRecDepth 20000 in
theorem ggX11_count_X6_howMany : GoodIn wsX11_count wsX6_howMany := goodIn_r _ [27, 28, 29, 11, 12, 13, 14, 15, 16, 80, 81, 82, 83, 84, 85] (by decide +kernel) (by decide +kernel)
set_option maxRecDepth 20000 in
theorem gX11_count_X6_howMany : GoodIn wsX11_count (wsV RX11 313 RX6 yX6_howMany wsX6_howMany) := goodIn_app (goodIn_of _ (by decide +kernel)) ggX11_count_X6_howMany
set_option maxRecDepth 20000 in
theorem ggX11_count_X11_criticalOnes : GoodIn wsX11_count wsX11_criticalOnes := goodIn_r _ [34, 3, 35, 36, 37, 26, 38, 39, 28, 40, 41, 10, 11, 12, 13, 14, 15, 16, 62, 63, 64, 65, 66, 67, 68, 69, 70, 71, 72, 80, 81, 82, 83, 84, 85] (by decide +kernel) (by decide +kernel)
set_option maxRecDepth 20000 in
theorem gX11_count_X11_criticalOnes : GoodIn wsX11_count (wsV RX11 187 RX11 yX11_criticalOnes wsX11_criticalOnes) := goodIn_app (goodIn_of _ (by decide +kernel)) ggX11_count_X11_criticalOnes
set_option maxRecDepth 20000 in
theorem ggX11_count_X9_eulerOf : GoodIn wsX11_count wsX9_eulerOf := goodIn_r _ [45, 22, 46, 11, 12, 13, 14, 15, 16, 73, 74, 75, 76, 77, 78, 79] (by decide +kernel) (by decide +kernel)
set_option maxRecDepth 20000 in
theorem gX11_count_X9_eulerOf : GoodIn wsX11_count (wsV RX11 284 RX9 yX9_eulerOf wsX9_eulerOf) := goodIn_app (goodIn_of _ (by decide +kernel)) ggX11_count_X9_eulerOf
set_option maxRecDepth 20000 in
theorem ggX11_count_X9_partsOf : GoodIn wsX11_count wsX9_partsOf := goodIn_r _ [50, 51, 52, 33, 53, 10, 11, 12, 13, 14, 15, 16, 54, 55, 56, 20, 57, 58, 59, 60, 61, 73, 74, 75, 76, 77, 78, 79] (by decide +kernel) (by decide +kernel)
set_option maxRecDepth 20000 in
theorem gX11_count_X9_partsOf : GoodIn wsX11_count (wsV RX11 326 RX9 yX9_partsOf wsX9_partsOf) := goodIn_app (goodIn_of _ (by decide +kernel)) ggX11_count_X9_partsOf
def wbX11_count_0 (rec : Nat → XT → (Nat → Int32) → (Nat → Int64) → (Int32 → XT → Prop) → Prop) (k : Nat) (t : XT) (li : Nat → Int32) (lj : Nat → Int64) (Q : Int32 → XT → Prop) : Prop :=
  ((li 1).toInt < 0 ∨ 9 < (li 1).toInt → Q (-1) t) ∧ ((li 1) = 0 → Q (t.1 4) t) ∧ ((li 1) = 1 → (wqJ13_bitCount_95d88 k (t.2.1 0) (fun r_2 => Q r_2 t))) ∧ ((li 1) = 2 → (wqX9_greatestDim k t (t.2.1 0) (fun r_3 t_3 => Q r_3 t_3))) ∧ ((li 1) = 3 → (wqX6_howMany k t  (fun r_4 t_4 => Q r_4 t_4))) ∧ ((li 1) = 4 → (wqX11_criticalOnes k t  (fun r_5 t_5 => Q r_5 t_5))) ∧ ((li 1) = 5 → (wqX9_eulerOf k t (t.2.1 0) (fun r_6 t_6 => Q r_6 t_6))) ∧ ((li 1) = 6 → (wqX9_partsOf k t (t.2.1 0) (fun r_7 t_7 => Q r_7 t_7))) ∧ ((li 1) = 7 → Q (t.1 8) t) ∧ ((li 1) = 8 → Q (t.1 0) t) ∧ ((li 1) = 9 → Q (t.1 1) t)
def wpX11_count : Nat → Nat → XT → (Nat → Int32) → (Nat → Int64) → (Int32 → XT → Prop) → Prop
  | 0, _, _, _, _, _ => False
  | k + 1, 0, t, li, lj, Q => wbX11_count_0 (wpX11_count k) k t li lj Q
  | _ + 1, _, _, _, _, _ => False
def wqX11_count (k : Nat) (t : XT) (a1 : Int32) (Q : Int32 → XT → Prop) : Prop := wpX11_count k 0 t (uI (fun _ => 0) 1 a1) (fun _ => 0) Q
set_option maxHeartbeats 8000000 in
set_option maxRecDepth 100000 in
theorem wkX11_count (l : Launch) (D : va_G) (cI cJ cB cZ : ClassId) (ad : Nat → Nat) (k : Nat) (t : XT) (a1 : Int32) (Q : Int32 → XT → Prop) (hR : wqX11_count k t a1 Q) : MetI l yX11_count wsX11_count 4 98 0 0 D (TYS cI cJ cB cZ) (wX cI cJ cB cZ ad t) [.ref (ad 0), .int a1] (fun r u => Q r u) (fun u : XT => (wX cI cJ cB cZ ad u)) := by
  refine x_startI (ty := .int) (cc := cX11_count) (by decide) rfl (Nat.le_of_ble_eq_true rfl) ?_
  intro p e s m args below meth c A ls B hr hnm h hl
  have hx := B.1.1
  have hb := B.1.2.1
  have hml := B.1.2.2.1
  have hts := B.1.2.2.2.2
  have hown : s.vm.findClass RX11 = some m.cls := B.1.2.2.2.1
  have hin3 : ∀ w ∈ u_ws RX3 TX3 4, w ∈ wsX11_count := by decide +kernel
  have hin6 : ∀ w ∈ u_ws RX6 TX6 6, w ∈ wsX11_count := by decide +kernel
  have hin9 : ∀ w ∈ u_ws RX9 TX9 7, w ∈ wsX11_count := by decide +kernel
  have hin10 : ∀ w ∈ u_ws RX10 TX10 2, w ∈ wsX11_count := by decide +kernel
  have hin11 : ∀ w ∈ u_ws RX11 TX11 11, w ∈ wsX11_count := by decide +kernel
  have main : ∀ k : Nat, (∀ (t : XT) (li : Nat → Int32) (lj : Nat → Int64) (H : Heap) (locs : List Loc) (ls : Array Slot), wpX11_count k 0 t li lj Q → lv_has ls 2 [(0, .ref (ad 0)), (1, .int (li 1))] → Hp D A s.heap (wX cI cJ cB cZ ad t) H locs → W p l e { frames := 4, cells := 0, slots := 0, locals := 98 } s m args below meth c H locs 0 0 (MQ below (va_Qi (fun r u => Q r u) (fun u t => xEnd D ((fun u : XT => (wX cI cJ cB cZ ad u)) u) A t) A) args s 0 0 A) (F0 m 0 ls [])) := by
    intro k
    induction k with
    | zero => exact fun _ _ _ _ _ _ hR => False.elim hR
    | succ k ih =>
      intro t li lj H locs ls hR hl h
      have hR : wbX11_count_0 (wpX11_count k) k t li lj Q := hR
      unfold wbX11_count_0 at hR
      refine lv_iload_n hx hb dX11_count_0 rfl (lv_at hl 1 rfl) ?_
      rcases sw_cases (li 1) 0 9 10 (by decide) with c_1 | ⟨j_1, hj_1, e_1⟩
      · refine lv_tableOut (tgt := 154) hx hb dX11_count_1 c_1 (by decide) ?_
        have hR := hR.1 c_1
        refine lv_iconst (v := (-1)) hx hb dX11_count_154 (by decide) ?_
        exact x_iret (w1 := (fun u : XT => (wX cI cJ cB cZ ad u))) t B h hr rfl hR dX11_count_155
      · rcases (show j_1 = 0 ∨ j_1 = 1 ∨ j_1 = 2 ∨ j_1 = 3 ∨ j_1 = 4 ∨ j_1 = 5 ∨ j_1 = 6 ∨ j_1 = 7 ∨ j_1 = 8 ∨ j_1 = 9 by omega) with rfl | rfl | rfl | rfl | rfl | rfl | rfl | rfl | rfl | rfl
        · have e_1 : (li 1) = 0 := e_1.trans (by decide)
          have hR := hR.2.1 e_1
          refine lv_tableIn (off := 55) (tgt := 56) hx hb dX11_count_1 (by rw [e_1]; decide) (by rw [e_1]; decide) (by rw [e_1]; decide) (by decide) ?_
          refine lv_aload_n hx hb dX11_count_56 rfl (lv_at hl 0 rfl) ?_
          refine x_get (ci := 11) (C := RX11) (T := TX11) (N := 11) (v := .ref (ad 3)) B h hin11 0 2 rfl rfl (by decide) (by decide +kernel) rfl dX11_count_57 ?_
          refine x_get (ci := 9) (C := RX9) (T := TX9) (N := 7) (v := .int (t.1 4)) B h hin9 3 0 rfl rfl (by decide) (by decide +kernel) rfl dX11_count_60 ?_
          exact x_iret (w1 := (fun u : XT => (wX cI cJ cB cZ ad u))) t B h hr rfl hR dX11_count_63
        · have e_1 : (li 1) = 1 := e_1.trans (by decide)
          have hR := hR.2.2.1 e_1
          refine lv_tableIn (off := 63) (tgt := 64) hx hb dX11_count_1 (by rw [e_1]; decide) (by rw [e_1]; decide) (by rw [e_1]; decide) (by decide) ?_
          refine lv_aload_n hx hb dX11_count_64 rfl (lv_at hl 0 rfl) ?_
          refine x_get (ci := 11) (C := RX11) (T := TX11) (N := 11) (v := .ref (ad 4)) B h hin11 0 3 rfl rfl (by decide) (by decide +kernel) rfl dX11_count_65 ?_
          refine x_get (ci := 6) (C := RX6) (T := TX6) (N := 6) (v := .long (t.2.1 0)) B h hin6 4 2 rfl rfl (by decide) (by decide +kernel) rfl dX11_count_68 ?_
          refine x_cSIE (n := 1) (As := [.long (t.2.1 0)]) (rest := []) B h (wkJ13_bitCount_95d88 l D cI cJ cB cZ ad k (t.2.1 0) _ hR) ⟨⟨_, rfl⟩, by decide +kernel, Nat.le_of_ble_eq_true rfl, Nat.le_of_ble_eq_true rfl⟩ gX11_count_J13_bitCount_95d88 rfl hl.1 rfl (Nat.le_of_ble_eq_true rfl) dX11_count_71 ⟨Nat.le_of_ble_eq_true rfl, Nat.le_of_ble_eq_true rfl⟩ (fun r_2 _ H locs hR h => ?_)
          exact x_iret (w1 := (fun u : XT => (wX cI cJ cB cZ ad u))) t B h hr rfl hR dX11_count_74
        · have e_1 : (li 1) = 2 := e_1.trans (by decide)
          have hR := hR.2.2.2.1 e_1
          refine lv_tableIn (off := 74) (tgt := 75) hx hb dX11_count_1 (by rw [e_1]; decide) (by rw [e_1]; decide) (by rw [e_1]; decide) (by decide) ?_
          refine lv_aload_n hx hb dX11_count_75 rfl (lv_at hl 0 rfl) ?_
          refine x_get (ci := 11) (C := RX11) (T := TX11) (N := 11) (v := .ref (ad 3)) B h hin11 0 2 rfl rfl (by decide) (by decide +kernel) rfl dX11_count_76 ?_
          refine lv_aload_n hx hb dX11_count_79 rfl (lv_at hl 0 rfl) ?_
          refine x_get (ci := 11) (C := RX11) (T := TX11) (N := 11) (v := .ref (ad 4)) B h hin11 0 3 rfl rfl (by decide) (by decide +kernel) rfl dX11_count_80 ?_
          refine x_get (ci := 6) (C := RX6) (T := TX6) (N := 6) (v := .long (t.2.1 0)) B h hin6 4 2 rfl rfl (by decide) (by decide +kernel) rfl dX11_count_83 ?_
          refine x_cVIF (n := 1) (As := [.long (t.2.1 0)]) (rest := []) B h (wkX9_greatestDim l D cI cJ cB cZ ad k t (t.2.1 0) _ hR) ⟨⟨_, rfl⟩, by decide +kernel, Nat.le_of_ble_eq_true rfl, Nat.le_of_ble_eq_true rfl⟩ gX11_count_X9_greatestDim (show ((wX cI cJ cB cZ ad t) : va_W)[3]? = some (_, .inr (9, _)) from rfl) rfl rfl hl.1 rfl (Nat.le_of_ble_eq_true rfl) dX11_count_86 ⟨Nat.le_of_ble_eq_true rfl, Nat.le_of_ble_eq_true rfl⟩ (fun r_3 t_3 H locs hR h => ?_)
          exact x_iret (w1 := (fun u : XT => (wX cI cJ cB cZ ad u))) t_3 B h hr rfl hR dX11_count_89
        · have e_1 : (li 1) = 3 := e_1.trans (by decide)
          have hR := hR.2.2.2.2.1 e_1
          refine lv_tableIn (off := 89) (tgt := 90) hx hb dX11_count_1 (by rw [e_1]; decide) (by rw [e_1]; decide) (by rw [e_1]; decide) (by decide) ?_
          refine lv_aload_n hx hb dX11_count_90 rfl (lv_at hl 0 rfl) ?_
          refine x_get (ci := 11) (C := RX11) (T := TX11) (N := 11) (v := .ref (ad 4)) B h hin11 0 3 rfl rfl (by decide) (by decide +kernel) rfl dX11_count_91 ?_
          refine x_cVIF (n := 0) (As := []) (rest := []) B h (wkX6_howMany l D cI cJ cB cZ ad k t  _ hR) ⟨⟨_, rfl⟩, by decide +kernel, Nat.le_of_ble_eq_true rfl, Nat.le_of_ble_eq_true rfl⟩ gX11_count_X6_howMany (show ((wX cI cJ cB cZ ad t) : va_W)[4]? = some (_, .inr (6, _)) from rfl) rfl rfl hl.1 rfl (Nat.le_of_ble_eq_true rfl) dX11_count_94 ⟨Nat.le_of_ble_eq_true rfl, Nat.le_of_ble_eq_true rfl⟩ (fun r_4 t_4 H locs hR h => ?_)
          exact x_iret (w1 := (fun u : XT => (wX cI cJ cB cZ ad u))) t_4 B h hr rfl hR dX11_count_97
        · have e_1 : (li 1) = 4 := e_1.trans (by decide)
          have hR := hR.2.2.2.2.2.1 e_1
          refine lv_tableIn (off := 97) (tgt := 98) hx hb dX11_count_1 (by rw [e_1]; decide) (by rw [e_1]; decide) (by rw [e_1]; decide) (by decide) ?_
          refine lv_aload_n hx hb dX11_count_98 rfl (lv_at hl 0 rfl) ?_
          refine x_cVIF (n := 0) (As := []) (rest := []) B h (wkX11_criticalOnes l D cI cJ cB cZ ad k t  _ hR) ⟨⟨_, rfl⟩, by decide +kernel, Nat.le_of_ble_eq_true rfl, Nat.le_of_ble_eq_true rfl⟩ gX11_count_X11_criticalOnes (show ((wX cI cJ cB cZ ad t) : va_W)[0]? = some (_, .inr (11, _)) from rfl) rfl rfl hl.1 rfl (Nat.le_of_ble_eq_true rfl) dX11_count_99 ⟨Nat.le_of_ble_eq_true rfl, Nat.le_of_ble_eq_true rfl⟩ (fun r_5 t_5 H locs hR h => ?_)
          exact x_iret (w1 := (fun u : XT => (wX cI cJ cB cZ ad u))) t_5 B h hr rfl hR dX11_count_102
        · have e_1 : (li 1) = 5 := e_1.trans (by decide)
          have hR := hR.2.2.2.2.2.2.1 e_1
          refine lv_tableIn (off := 102) (tgt := 103) hx hb dX11_count_1 (by rw [e_1]; decide) (by rw [e_1]; decide) (by rw [e_1]; decide) (by decide) ?_
          refine lv_aload_n hx hb dX11_count_103 rfl (lv_at hl 0 rfl) ?_
          refine x_get (ci := 11) (C := RX11) (T := TX11) (N := 11) (v := .ref (ad 3)) B h hin11 0 2 rfl rfl (by decide) (by decide +kernel) rfl dX11_count_104 ?_
          refine lv_aload_n hx hb dX11_count_107 rfl (lv_at hl 0 rfl) ?_
          refine x_get (ci := 11) (C := RX11) (T := TX11) (N := 11) (v := .ref (ad 4)) B h hin11 0 3 rfl rfl (by decide) (by decide +kernel) rfl dX11_count_108 ?_
          refine x_get (ci := 6) (C := RX6) (T := TX6) (N := 6) (v := .long (t.2.1 0)) B h hin6 4 2 rfl rfl (by decide) (by decide +kernel) rfl dX11_count_111 ?_
          refine x_cVIF (n := 1) (As := [.long (t.2.1 0)]) (rest := []) B h (wkX9_eulerOf l D cI cJ cB cZ ad k t (t.2.1 0) _ hR) ⟨⟨_, rfl⟩, by decide +kernel, Nat.le_of_ble_eq_true rfl, Nat.le_of_ble_eq_true rfl⟩ gX11_count_X9_eulerOf (show ((wX cI cJ cB cZ ad t) : va_W)[3]? = some (_, .inr (9, _)) from rfl) rfl rfl hl.1 rfl (Nat.le_of_ble_eq_true rfl) dX11_count_114 ⟨Nat.le_of_ble_eq_true rfl, Nat.le_of_ble_eq_true rfl⟩ (fun r_6 t_6 H locs hR h => ?_)
          exact x_iret (w1 := (fun u : XT => (wX cI cJ cB cZ ad u))) t_6 B h hr rfl hR dX11_count_117
        · have e_1 : (li 1) = 6 := e_1.trans (by decide)
          have hR := hR.2.2.2.2.2.2.2.1 e_1
          refine lv_tableIn (off := 117) (tgt := 118) hx hb dX11_count_1 (by rw [e_1]; decide) (by rw [e_1]; decide) (by rw [e_1]; decide) (by decide) ?_
          refine lv_aload_n hx hb dX11_count_118 rfl (lv_at hl 0 rfl) ?_
          refine x_get (ci := 11) (C := RX11) (T := TX11) (N := 11) (v := .ref (ad 3)) B h hin11 0 2 rfl rfl (by decide) (by decide +kernel) rfl dX11_count_119 ?_
          refine lv_aload_n hx hb dX11_count_122 rfl (lv_at hl 0 rfl) ?_
          refine x_get (ci := 11) (C := RX11) (T := TX11) (N := 11) (v := .ref (ad 4)) B h hin11 0 3 rfl rfl (by decide) (by decide +kernel) rfl dX11_count_123 ?_
          refine x_get (ci := 6) (C := RX6) (T := TX6) (N := 6) (v := .long (t.2.1 0)) B h hin6 4 2 rfl rfl (by decide) (by decide +kernel) rfl dX11_count_126 ?_
          refine x_cVIF (n := 1) (As := [.long (t.2.1 0)]) (rest := []) B h (wkX9_partsOf l D cI cJ cB cZ ad k t (t.2.1 0) _ hR) ⟨⟨_, rfl⟩, by decide +kernel, Nat.le_of_ble_eq_true rfl, Nat.le_of_ble_eq_true rfl⟩ gX11_count_X9_partsOf (show ((wX cI cJ cB cZ ad t) : va_W)[3]? = some (_, .inr (9, _)) from rfl) rfl rfl hl.1 rfl (Nat.le_of_ble_eq_true rfl) dX11_count_129 ⟨Nat.le_of_ble_eq_true rfl, Nat.le_of_ble_eq_true rfl⟩ (fun r_7 t_7 H locs hR h => ?_)
          exact x_iret (w1 := (fun u : XT => (wX cI cJ cB cZ ad u))) t_7 B h hr rfl hR dX11_count_132
        · have e_1 : (li 1) = 7 := e_1.trans (by decide)
          have hR := hR.2.2.2.2.2.2.2.2.1 e_1
          refine lv_tableIn (off := 132) (tgt := 133) hx hb dX11_count_1 (by rw [e_1]; decide) (by rw [e_1]; decide) (by rw [e_1]; decide) (by decide) ?_
          refine lv_aload_n hx hb dX11_count_133 rfl (lv_at hl 0 rfl) ?_
          refine x_get (ci := 11) (C := RX11) (T := TX11) (N := 11) (v := .ref (ad 9)) B h hin11 0 8 rfl rfl (by decide) (by decide +kernel) rfl dX11_count_134 ?_
          refine x_get (ci := 3) (C := RX3) (T := TX3) (N := 4) (v := .int (t.1 8)) B h hin3 9 2 rfl rfl (by decide) (by decide +kernel) rfl dX11_count_137 ?_
          exact x_iret (w1 := (fun u : XT => (wX cI cJ cB cZ ad u))) t B h hr rfl hR dX11_count_140
        · have e_1 : (li 1) = 8 := e_1.trans (by decide)
          have hR := hR.2.2.2.2.2.2.2.2.2.1 e_1
          refine lv_tableIn (off := 140) (tgt := 141) hx hb dX11_count_1 (by rw [e_1]; decide) (by rw [e_1]; decide) (by rw [e_1]; decide) (by decide) ?_
          refine lv_aload_n hx hb dX11_count_141 rfl (lv_at hl 0 rfl) ?_
          refine x_get (ci := 11) (C := RX11) (T := TX11) (N := 11) (v := .int (t.1 0)) B h hin11 0 10 rfl rfl (by decide) (by decide +kernel) rfl dX11_count_142 ?_
          exact x_iret (w1 := (fun u : XT => (wX cI cJ cB cZ ad u))) t B h hr rfl hR dX11_count_145
        · have e_1 : (li 1) = 9 := e_1.trans (by decide)
          have hR := hR.2.2.2.2.2.2.2.2.2.2 e_1
          refine lv_tableIn (off := 145) (tgt := 146) hx hb dX11_count_1 (by rw [e_1]; decide) (by rw [e_1]; decide) (by rw [e_1]; decide) (by decide) ?_
          refine lv_aload_n hx hb dX11_count_146 rfl (lv_at hl 0 rfl) ?_
          refine x_get (ci := 11) (C := RX11) (T := TX11) (N := 11) (v := .ref (ad 1)) B h hin11 0 0 rfl rfl (by decide) (by decide +kernel) rfl dX11_count_147 ?_
          refine x_get (ci := 10) (C := RX10) (T := TX10) (N := 2) (v := .int (t.1 1)) B h hin10 1 1 rfl rfl (by decide) (by decide +kernel) rfl dX11_count_150 ?_
          exact x_iret (w1 := (fun u : XT => (wX cI cJ cB cZ ad u))) t B h hr rfl hR dX11_count_153
  exact (main k) t _ _ s.heap [] ls hR hl h
