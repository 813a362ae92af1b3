set_option maxRecDepth 20000 in
theorem ggX6_divide_X11_bit : GoodIn wsX6_divide wsX11_bit := goodIn_r _ [8] (by decide +kernel) (by decide +kernel)
set_option maxRecDepth 20000 in
theorem gX6_divide_X11_bit_n39 : GoodIn wsX6_divide (wsX11_bit) := ggX6_divide_X11_bit
def wbX6_divide_0 (rec : Nat → XT → (Nat → Int32) → (Nat → Int64) → (XT → Prop) → Prop) (k : Nat) (t : XT) (li : Nat → Int32) (lj : Nat → Int64) (Q : XT → Prop) : Prop :=
  (vp_in (li 1) 64 ∧ (∀ v_1 : Int32, v_1 = (t.2.2.1 5) (li 1).toNatClampNeg → ((¬ v_1 = (-1)) → (vp_in (li 1) 64 ∧ (∀ t_3 : XT, t_3 = sA t 5 (upd (t.2.2.1 5) (li 1).toNatClampNeg (-1)) → (vp_in v_1 64 ∧ (∀ t_4 : XT, t_4 = sA t_3 5 (upd (t_3.2.2.1 5) v_1.toNatClampNeg (-1)) → (wqX11_bit k (li 1) (fun r_5 => (wqX11_bit k v_1 (fun r_6 => (∀ v_7 : Int64, v_7 = (r_5 ||| r_6) → (∀ v_8 : Int64, v_8 = (v_7 ^^^ (-1)) → (∀ v_9 : Int64, v_9 = ((t_4.2.1 1) &&& v_8) → (∀ t_10 : XT, t_10 = sJ t_4 1 v_9 → (∀ v_11 : Int64, v_11 = ((t_10.2.1 2) &&& v_8) → (∀ t_12 : XT, t_12 = sJ t_10 2 v_11 → (∀ v_13 : Int32, v_13 = ((t_12.1 5) + 1) → (∀ t_14 : XT, t_14 = sI t_12 5 v_13 → Q t_14))))))))))))))))) ∧ ((v_1 = (-1)) → Q t)))
def wpX6_divide : Nat → Nat → XT → (Nat → Int32) → (Nat → Int64) → (XT → Prop) → Prop
  | 0, _, _, _, _, _ => False
  | k + 1, 0, t, li, lj, Q => wbX6_divide_0 (wpX6_divide k) k t li lj Q
  | _ + 1, _, _, _, _, _ => False
def wqX6_divide (k : Nat) (t : XT) (a1 : Int32) (Q : XT → Prop) : Prop := wpX6_divide k 0 t (uI (fun _ => 0) 1 a1) (fun _ => 0) Q
set_option maxHeartbeats 8000000 in
set_option maxRecDepth 100000 in
theorem wkX6_divide (l : Launch) (D : va_G) (cI cJ cB cZ : ClassId) (ad : Nat → Nat) (k : Nat) (t : XT) (a1 : Int32) (Q : XT → Prop) (hR : wqX6_divide k t a1 Q) : MetV l yX6_divide wsX6_divide 1 20 0 0 D (TYS cI cJ cB cZ) (wX cI cJ cB cZ ad t) [.ref (ad 4), .int a1] (fun u => Q u) (fun u : XT => (wX cI cJ cB cZ ad u)) := by
  refine x_startV (ty := .int) (cc := cX6_divide) (by decide) rfl (Nat.le_of_ble_eq_true rfl) ?_
  intro p e s m args below meth c A ls B hr hnm h hl
  have hx := B.1.1
  have hb := B.1.2.1
  have hml := B.1.2.2.1
  have hts := B.1.2.2.2.2
  have hown : s.vm.findClass RX6 = some m.cls := B.1.2.2.2.1
  have hin6 : ∀ w ∈ u_ws RX6 TX6 6, w ∈ wsX6_divide := by decide +kernel
  have main : ∀ k : Nat, (∀ (t : XT) (li : Nat → Int32) (lj : Nat → Int64) (H : Heap) (locs : List Loc) (ls : Array Slot), wpX6_divide k 0 t li lj Q → lv_has ls 5 [(0, .ref (ad 4)), (1, .int (li 1))] → Hp D A s.heap (wX cI cJ cB cZ ad t) H locs → W p l e { frames := 1, cells := 0, slots := 0, locals := 20 } s m args below meth c H locs 0 0 (MQ below (va_Qv (fun u => Q u) (fun u t => xEnd D ((fun u : XT => (wX cI cJ cB cZ ad u)) u) A t) A) args s 0 0 A) (F0 m 0 ls [])) := by
    intro k
    induction k with
    | zero => exact fun _ _ _ _ _ _ hR => False.elim hR
    | succ k ih =>
      intro t li lj H locs ls hR hl h
      have hR : wbX6_divide_0 (wpX6_divide k) k t li lj Q := hR
      unfold wbX6_divide_0 at hR
      refine lv_aload_n hx hb dX6_divide_0 rfl (lv_at hl 0 rfl) ?_
      refine x_get (ci := 6) (C := RX6) (T := TX6) (N := 6) (v := .ref (ad 20)) B h hin6 4 1 rfl rfl (by decide) (by decide +kernel) rfl dX6_divide_1 ?_
      refine lv_iload_n hx hb dX6_divide_4 rfl (lv_at hl 1 rfl) ?_
      obtain ⟨hb_1, hR⟩ := hR
      refine va_iald (f := (t.2.2.1 5)) hx hb B.2.1 h.1 20 0 rfl rfl hb_1 dX6_divide_5 ?_
      refine lv_topi (fun v_1 ev_1 => ?_)
      have hR := hR v_1 ev_1
      refine lv_istore_n (lv' := [(2, .int v_1), (0, .ref (ad 4)), (1, .int (li 1))]) hx hb dX6_divide_6 rfl hl (by decide) rfl (fun ls hl => ?_)
      refine lv_iload_n hx hb dX6_divide_7 rfl (lv_at hl 0 rfl) ?_
      refine lv_iconst (v := (-1)) hx hb dX6_divide_8 (by decide) ?_
      refine lv_icmp_ne (tgt := 13) hx hb dX6_divide_9 (by decide) (fun c_2 => ?_) (fun c_2 => ?_)
      · have hR := hR.1 c_2
        refine lv_aload_n hx hb dX6_divide_13 rfl (lv_at hl 1 rfl) ?_
        refine x_get (ci := 6) (C := RX6) (T := TX6) (N := 6) (v := .ref (ad 20)) B h hin6 4 1 rfl rfl (by decide) (by decide +kernel) rfl dX6_divide_14 ?_
        refine lv_iload_n hx hb dX6_divide_17 rfl (lv_at hl 2 rfl) ?_
        refine lv_iconst (v := (-1)) hx hb dX6_divide_18 (by decide) ?_
        obtain ⟨hb_3, hR⟩ := hR
        refine z_iast (f := (t.2.2.1 5)) B h 20 0 rfl rfl hb_3 dX6_divide_19 (fun H locs h => ?_)
        obtain ⟨t_3, et_3⟩ : ∃ v : XT, v = sA t 5 (upd (t.2.2.1 5) (li 1).toNatClampNeg (-1)) := ⟨_, rfl⟩
        have hR := hR t_3 et_3
        have h : Hp D A s.heap (wX cI cJ cB cZ ad t_3) H locs := by rw [et_3]; exact h
        refine lv_aload_n hx hb dX6_divide_20 rfl (lv_at hl 1 rfl) ?_
        refine x_get (ci := 6) (C := RX6) (T := TX6) (N := 6) (v := .ref (ad 20)) B h hin6 4 1 rfl rfl (by decide) (by decide +kernel) rfl dX6_divide_21 ?_
        refine lv_iload_n hx hb dX6_divide_24 rfl (lv_at hl 0 rfl) ?_
        refine lv_iconst (v := (-1)) hx hb dX6_divide_25 (by decide) ?_
        obtain ⟨hb_4, hR⟩ := hR
        refine z_iast (f := (t_3.2.2.1 5)) B h 20 0 rfl rfl hb_4 dX6_divide_26 (fun H locs h => ?_)
        obtain ⟨t_4, et_4⟩ : ∃ v : XT, v = sA t_3 5 (upd (t_3.2.2.1 5) v_1.toNatClampNeg (-1)) := ⟨_, rfl⟩
        have hR := hR t_4 et_4
        have h : Hp D A s.heap (wX cI cJ cB cZ ad t_4) H locs := by rw [et_4]; exact h
        refine lv_iload_n hx hb dX6_divide_27 rfl (lv_at hl 2 rfl) ?_
        refine x_cNLE (n := 1) (As := [.int (li 1)]) (rest := []) B h (wkX11_bit l D cI cJ cB cZ ad k (li 1) _ hR) ⟨⟨_, rfl⟩, by decide +kernel, Nat.le_of_ble_eq_true rfl, Nat.le_of_ble_eq_true rfl⟩ gX6_divide_X11_bit_n39 (by decide +kernel) (by decide +kernel) (host := "MorseDesk") (by decide +kernel) rfl hl.1 rfl (Nat.le_of_ble_eq_true rfl) dX6_divide_28 ⟨Nat.le_of_ble_eq_true rfl, Nat.le_of_ble_eq_true rfl⟩ (fun r_5 _ H locs hR h => ?_)
        refine lv_iload_n hx hb dX6_divide_31 rfl (lv_at hl 0 rfl) ?_
        refine x_cNLE (n := 1) (As := [.int v_1]) (rest := [.long r_5]) B h (wkX11_bit l D cI cJ cB cZ ad k v_1 _ hR) ⟨⟨_, rfl⟩, by decide +kernel, Nat.le_of_ble_eq_true rfl, Nat.le_of_ble_eq_true rfl⟩ gX6_divide_X11_bit_n39 (by decide +kernel) (by decide +kernel) (host := "MorseDesk") (by decide +kernel) rfl hl.1 rfl (Nat.le_of_ble_eq_true rfl) dX6_divide_32 ⟨Nat.le_of_ble_eq_true rfl, Nat.le_of_ble_eq_true rfl⟩ (fun r_6 _ H locs hR h => ?_)
        refine lv_lor hx hb dX6_divide_35 ?_
        refine lv_topl (fun v_7 ev_7 => ?_)
        have hR := hR v_7 ev_7
        refine lv_ldc2 (v := (-1)) hx hb hown (hts (.constantLong RX6 43 (-1)) (by decide +kernel)) dX6_divide_36 ?_
        refine lv_lxor hx hb dX6_divide_39 ?_
        refine lv_topl (fun v_8 ev_8 => ?_)
        have hR := hR v_8 ev_8
        refine lv_lstore_n (lv' := [(3, .long v_8), (2, .int v_1), (0, .ref (ad 4)), (1, .int (li 1))]) hx hb dX6_divide_40 rfl hl (by decide) rfl (fun ls hl => ?_)
        refine lv_aload_n hx hb dX6_divide_41 rfl (lv_at hl 2 rfl) ?_
        refine lv_dup hx hb dX6_divide_42 rfl ?_
        refine x_get (ci := 6) (C := RX6) (T := TX6) (N := 6) (v := .long (t_4.2.1 1)) B h hin6 4 3 rfl rfl (by decide) (by decide +kernel) rfl dX6_divide_43 ?_
        refine lv_lload_n hx hb dX6_divide_46 rfl (lv_at hl 0 rfl) ?_
        refine lv_land hx hb dX6_divide_47 ?_
        refine lv_topl (fun v_9 ev_9 => ?_)
        have hR := hR v_9 ev_9
        refine x_put (ci := 6) (C := RX6) (T := TX6) (N := 6) (v := .long v_9) (ty := .long) B h hin6 tyX6 tyX6_ok nmX6 4 3 rfl rfl (by decide) (by decide +kernel) rfl rfl rfl rfl (Nat.le_of_ble_eq_true rfl) dX6_divide_48 (fun H locs h => ?_)
        obtain ⟨t_10, et_10⟩ : ∃ v : XT, v = sJ t_4 1 v_9 := ⟨_, rfl⟩
        have hR := hR t_10 et_10
        have h : Hp D A s.heap (wX cI cJ cB cZ ad t_10) H locs := by rw [et_10]; exact h
        refine lv_aload_n hx hb dX6_divide_51 rfl (lv_at hl 2 rfl) ?_
        refine lv_dup hx hb dX6_divide_52 rfl ?_
        refine x_get (ci := 6) (C := RX6) (T := TX6) (N := 6) (v := .long (t_10.2.1 2)) B h hin6 4 4 rfl rfl (by decide) (by decide +kernel) rfl dX6_divide_53 ?_
        refine lv_lload_n hx hb dX6_divide_56 rfl (lv_at hl 0 rfl) ?_
        refine lv_land hx hb dX6_divide_57 ?_
        refine lv_topl (fun v_11 ev_11 => ?_)
        have hR := hR v_11 ev_11
        refine x_put (ci := 6) (C := RX6) (T := TX6) (N := 6) (v := .long v_11) (ty := .long) B h hin6 tyX6 tyX6_ok nmX6 4 4 rfl rfl (by decide) (by decide +kernel) rfl rfl rfl rfl (Nat.le_of_ble_eq_true rfl) dX6_divide_58 (fun H locs h => ?_)
        obtain ⟨t_12, et_12⟩ : ∃ v : XT, v = sJ t_10 2 v_11 := ⟨_, rfl⟩
        have hR := hR t_12 et_12
        have h : Hp D A s.heap (wX cI cJ cB cZ ad t_12) H locs := by rw [et_12]; exact h
        refine lv_aload_n hx hb dX6_divide_61 rfl (lv_at hl 2 rfl) ?_
        refine lv_dup hx hb dX6_divide_62 rfl ?_
        refine x_get (ci := 6) (C := RX6) (T := TX6) (N := 6) (v := .int (t_12.1 5)) B h hin6 4 5 rfl rfl (by decide) (by decide +kernel) rfl dX6_divide_63 ?_
        refine lv_iconst (v := 1) hx hb dX6_divide_66 (by decide) ?_
        refine lv_iadd hx hb dX6_divide_67 ?_
        refine lv_topi (fun v_13 ev_13 => ?_)
        have hR := hR v_13 ev_13
        refine x_put (ci := 6) (C := RX6) (T := TX6) (N := 6) (v := .int v_13) (ty := .int) B h hin6 tyX6 tyX6_ok nmX6 4 5 rfl rfl (by decide) (by decide +kernel) rfl rfl rfl rfl (Nat.le_of_ble_eq_true rfl) dX6_divide_68 (fun H locs h => ?_)
        obtain ⟨t_14, et_14⟩ : ∃ v : XT, v = sI t_12 5 v_13 := ⟨_, rfl⟩
        have hR := hR t_14 et_14
        have h : Hp D A s.heap (wX cI cJ cB cZ ad t_14) H locs := by rw [et_14]; exact h
        exact x_vret (w1 := (fun u : XT => (wX cI cJ cB cZ ad u))) t_14 B h hr hR dX6_divide_71
      · have hR := hR.2 c_2
        exact x_vret (w1 := (fun u : XT => (wX cI cJ cB cZ ad u))) t B h hr hR dX6_divide_12
  exact (main k) t _ _ s.heap [] ls hR hl h
set_option maxRecDepth 20000 in
theorem ggX11_part_X11_isThere : GoodIn wsX11_part wsX11_isThere := goodIn_r _ [8, 9, 1, 10, 11, 12, 13, 14, 15, 16, 17, 18, 7, 19, 67, 68, 69, 70, 71, 72, 73, 74, 75, 76, 77, 78, 79, 80, 81, 82, 83, 84, 85, 86, 87, 88, 89, 90] (by decide +kernel) (by decide +kernel)
set_option maxRecDepth 20000 in
theorem gX11_part_X11_isThere : GoodIn wsX11_part (wsV RX11 130 RX11 yX11_isThere wsX11_isThere) := goodIn_app (goodIn_of _ (by decide +kernel)) ggX11_part_X11_isThere
set_option maxRecDepth 20000 in
theorem ggX11_part_X3_save : GoodIn wsX11_part wsX3_save := goodIn_r _ [24, 25, 26, 27, 28, 29, 30, 31, 32, 33, 34, 35, 36, 37, 38, 78, 79, 80, 81, 82, 83, 91, 92, 93, 94] (by decide +kernel) (by decide +kernel)
set_option maxRecDepth 20000 in
theorem gX11_part_X3_save : GoodIn wsX11_part (wsV RX11 179 RX3 yX3_save wsX3_save) := goodIn_app (goodIn_of _ (by decide +kernel)) ggX11_part_X3_save
set_option maxRecDepth 20000 in
theorem ggX11_part_X6_divide : GoodIn wsX11_part wsX6_divide := goodIn_r _ [43, 44, 45, 46, 47, 48, 49, 7, 50, 78, 79, 80, 81, 82, 83] (by decide +kernel) (by decide +kernel)
set_option maxRecDepth 20000 in
theorem gX11_part_X6_divide : GoodIn wsX11_part (wsV RX11 191 RX6 yX6_divide wsX6_divide) := goodIn_app (goodIn_of _ (by decide +kernel)) ggX11_part_X6_divide
set_option maxRecDepth 20000 in
theorem ggX11_part_X11_criticalOnes : GoodIn wsX11_part wsX11_criticalOnes := goodIn_r _ [54, 1, 55, 56, 57, 42, 58, 59, 46, 47, 45, 60, 61, 62, 63, 64, 65, 66, 67, 68, 69, 70, 71, 72, 73, 74, 75, 76, 77, 78, 79, 80, 81, 82, 83] (by decide +kernel) (by decide +kernel)
set_option maxRecDepth 20000 in
theorem gX11_part_X11_criticalOnes : GoodIn wsX11_part (wsV RX11 187 RX11 yX11_criticalOnes wsX11_criticalOnes) := goodIn_app (goodIn_of _ (by decide +kernel)) ggX11_part_X11_criticalOnes
def wbX11_part_0 (rec : Nat → XT → (Nat → Int32) → (Nat → Int64) → (Int32 → XT → Prop) → Prop) (k : Nat) (t : XT) (li : Nat → Int32) (lj : Nat → Int64) (Q : Int32 → XT → Prop) : Prop :=
  (wqX11_isThere k t (li 1) (fun r_1 t_1 => ((r_1 = 0) → rec 1 t_1 li lj Q) ∧ (¬ (r_1 = 0) → (vp_in (li 1) 64 ∧ (∀ v_3 : Int32, v_3 = (t_1.2.2.1 5) (li 1).toNatClampNeg → ((¬ v_3 = (-1)) → (wqX3_save_c4 k t_1  (fun t_5 => (wqX6_divide k t_5 (li 1) (fun t_6 => (wqX11_criticalOnes k t_6  (fun r_7 t_7 => Q r_7 t_7))))))) ∧ ((v_3 = (-1)) → rec 1 t_1 li lj Q))))))
def wbX11_part_1 (rec : Nat → XT → (Nat → Int32) → (Nat → Int64) → (Int32 → XT → Prop) → Prop) (k : Nat) (t : XT) (li : Nat → Int32) (lj : Nat → Int64) (Q : Int32 → XT → Prop) : Prop :=
  Q (-1) t
def wpX11_part : Nat → Nat → XT → (Nat → Int32) → (Nat → Int64) → (Int32 → XT → Prop) → Prop
  | 0, _, _, _, _, _ => False
  | k + 1, 0, t, li, lj, Q => wbX11_part_0 (wpX11_part k) k t li lj Q
  | k + 1, 1, t, li, lj, Q => wbX11_part_1 (wpX11_part k) k t li lj Q
  | _ + 1, _, _, _, _, _ => False
def wqX11_part (k : Nat) (t : XT) (a1 : Int32) (Q : Int32 → XT → Prop) : Prop := wpX11_part k 0 t (uI (fun _ => 0) 1 a1) (fun _ => 0) Q
set_option maxHeartbeats 8000000 in
set_option maxRecDepth 100000 in
theorem wkX11_part (l : Launch) (D : va_G) (cI cJ cB cZ : ClassId) (ad : Nat → Nat) (k : Nat) (t : XT) (a1 : Int32) (Q : Int32 → XT → Prop) (hR : wqX11_part k t a1 Q) : MetI l yX11_part wsX11_part 2 85 0 0 D (TYS cI cJ cB cZ) (wX cI cJ cB cZ ad t) [.ref (ad 0), .int a1] (fun r u => Q r u) (fun u : XT => (wX cI cJ cB cZ ad u)) := by
  refine x_startI (ty := .int) (cc := cX11_part) (by decide) rfl (Nat.le_of_ble_eq_true rfl) ?_
  intro p e s m args below meth c A ls B hr hnm h hl
  have hx := B.1.1
  have hb := B.1.2.1
  have hml := B.1.2.2.1
  have hts := B.1.2.2.2.2
  have hown : s.vm.findClass RX11 = some m.cls := B.1.2.2.2.1
  have hin6 : ∀ w ∈ u_ws RX6 TX6 6, w ∈ wsX11_part := by decide +kernel
  have hin11 : ∀ w ∈ u_ws RX11 TX11 11, w ∈ wsX11_part := by decide +kernel
  have main : ∀ k : Nat, (∀ (t : XT) (li : Nat → Int32) (lj : Nat → Int64) (H : Heap) (locs : List Loc) (ls : Array Slot), wpX11_part k 0 t li lj Q → lv_has ls 2 [(0, .ref (ad 0)), (1, .int (li 1))] → Hp D A s.heap (wX cI cJ cB cZ ad t) H locs → W p l e { frames := 2, cells := 0, slots := 0, locals := 85 } s m args below meth c H locs 0 0 (MQ below (va_Qi (fun r u => Q r u) (fun u t => xEnd D ((fun u : XT => (wX cI cJ cB cZ ad u)) u) A t) A) args s 0 0 A) (F0 m 0 ls [])) ∧
      (∀ (t : XT) (li : Nat → Int32) (lj : Nat → Int64) (H : Heap) (locs : List Loc) (ls : Array Slot), wpX11_part k 1 t li lj Q → lv_has ls 2 [(0, .ref (ad 0)), (1, .int (li 1))] → Hp D A s.heap (wX cI cJ cB cZ ad t) H locs → W p l e { frames := 2, cells := 0, slots := 0, locals := 85 } s m args below meth c H locs 0 0 (MQ below (va_Qi (fun r u => Q r u) (fun u t => xEnd D ((fun u : XT => (wX cI cJ cB cZ ad u)) u) A t) A) args s 0 0 A) (F0 m 21 ls [])) := by
    intro k
    induction k with
    | zero => exact ⟨fun _ _ _ _ _ _ hR => False.elim hR, fun _ _ _ _ _ _ hR => False.elim hR⟩
    | succ k ih =>
      refine ⟨?_, ?_⟩
      · intro t li lj H locs ls hR hl h
        have hR : wbX11_part_0 (wpX11_part k) k t li lj Q := hR
        unfold wbX11_part_0 at hR
        refine lv_aload_n hx hb dX11_part_0 rfl (lv_at hl 0 rfl) ?_
        refine lv_iload_n hx hb dX11_part_1 rfl (lv_at hl 1 rfl) ?_
        refine x_cVIF (n := 1) (As := [.int (li 1)]) (rest := []) B h (wkX11_isThere l D cI cJ cB cZ ad k t (li 1) _ hR) ⟨⟨_, rfl⟩, by decide +kernel, Nat.le_of_ble_eq_true rfl, Nat.le_of_ble_eq_true rfl⟩ gX11_part_X11_isThere (show ((wX cI cJ cB cZ ad t) : va_W)[0]? = some (_, .inr (11, _)) from rfl) rfl rfl hl.1 rfl (Nat.le_of_ble_eq_true rfl) dX11_part_2 ⟨Nat.le_of_ble_eq_true rfl, Nat.le_of_ble_eq_true rfl⟩ (fun r_1 t_1 H locs hR h => ?_)
        refine lv_if_eq (tgt := 21) hx hb dX11_part_5 (by decide) (fun c_2 => ?_) (fun c_2 => ?_)
        · have hR := hR.1 c_2
          exact ih.2 t_1 li lj H locs ls hR (lv_sub hl [0, 1] rfl) h
        · have hR := hR.2 c_2
          refine lv_aload_n hx hb dX11_part_8 rfl (lv_at hl 0 rfl) ?_
          refine x_get (ci := 11) (C := RX11) (T := TX11) (N := 11) (v := .ref (ad 4)) B h hin11 0 3 rfl rfl (by decide) (by decide +kernel) rfl dX11_part_9 ?_
          refine x_get (ci := 6) (C := RX6) (T := TX6) (N := 6) (v := .ref (ad 20)) B h hin6 4 1 rfl rfl (by decide) (by decide +kernel) rfl dX11_part_12 ?_
          refine lv_iload_n hx hb dX11_part_15 rfl (lv_at hl 1 rfl) ?_
          obtain ⟨hb_3, hR⟩ := hR
          refine va_iald (f := (t_1.2.2.1 5)) hx hb B.2.1 h.1 20 0 rfl rfl hb_3 dX11_part_16 ?_
          refine lv_topi (fun v_3 ev_3 => ?_)
          have hR := hR v_3 ev_3
          refine lv_iconst (v := (-1)) hx hb dX11_part_17 (by decide) ?_
          refine lv_icmp_ne (tgt := 23) hx hb dX11_part_18 (by decide) (fun c_4 => ?_) (fun c_4 => ?_)
          · have hR := hR.1 c_4
            refine lv_aload_n hx hb dX11_part_23 rfl (lv_at hl 0 rfl) ?_
            refine x_get (ci := 11) (C := RX11) (T := TX11) (N := 11) (v := .ref (ad 9)) B h hin11 0 8 rfl rfl (by decide) (by decide +kernel) rfl dX11_part_24 ?_
            refine lv_aload_n hx hb dX11_part_27 rfl (lv_at hl 0 rfl) ?_
            refine x_get (ci := 11) (C := RX11) (T := TX11) (N := 11) (v := .ref (ad 4)) B h hin11 0 3 rfl rfl (by decide) (by decide +kernel) rfl dX11_part_28 ?_
            refine x_cVVF (n := 1) (As := [.ref (ad 4)]) (rest := []) B h (wkX3_save_c4 l D cI cJ cB cZ ad k t_1  _ hR) ⟨⟨_, rfl⟩, by decide +kernel, Nat.le_of_ble_eq_true rfl, Nat.le_of_ble_eq_true rfl⟩ gX11_part_X3_save (show ((wX cI cJ cB cZ ad t_1) : va_W)[9]? = some (_, .inr (3, _)) from rfl) rfl rfl hl.1 rfl (Nat.le_of_ble_eq_true rfl) dX11_part_31 ⟨Nat.le_of_ble_eq_true rfl, Nat.le_of_ble_eq_true rfl⟩ (fun t_5 H locs hR h => ?_)
            refine lv_aload_n hx hb dX11_part_34 rfl (lv_at hl 0 rfl) ?_
            refine x_get (ci := 11) (C := RX11) (T := TX11) (N := 11) (v := .ref (ad 4)) B h hin11 0 3 rfl rfl (by decide) (by decide +kernel) rfl dX11_part_35 ?_
            refine lv_iload_n hx hb dX11_part_38 rfl (lv_at hl 1 rfl) ?_
            refine x_cVVF (n := 1) (As := [.int (li 1)]) (rest := []) B h (wkX6_divide l D cI cJ cB cZ ad k t_5 (li 1) _ hR) ⟨⟨_, rfl⟩, by decide +kernel, Nat.le_of_ble_eq_true rfl, Nat.le_of_ble_eq_true rfl⟩ gX11_part_X6_divide (show ((wX cI cJ cB cZ ad t_5) : va_W)[4]? = some (_, .inr (6, _)) from rfl) rfl rfl hl.1 rfl (Nat.le_of_ble_eq_true rfl) dX11_part_39 ⟨Nat.le_of_ble_eq_true rfl, Nat.le_of_ble_eq_true rfl⟩ (fun t_6 H locs hR h => ?_)
            refine lv_aload_n hx hb dX11_part_42 rfl (lv_at hl 0 rfl) ?_
            refine x_cVIF (n := 0) (As := []) (rest := []) B h (wkX11_criticalOnes l D cI cJ cB cZ ad k t_6  _ hR) ⟨⟨_, rfl⟩, by decide +kernel, Nat.le_of_ble_eq_true rfl, Nat.le_of_ble_eq_true rfl⟩ gX11_part_X11_criticalOnes (show ((wX cI cJ cB cZ ad t_6) : va_W)[0]? = some (_, .inr (11, _)) from rfl) rfl rfl hl.1 rfl (Nat.le_of_ble_eq_true rfl) dX11_part_43 ⟨Nat.le_of_ble_eq_true rfl, Nat.le_of_ble_eq_true rfl⟩ (fun r_7 t_7 H locs hR h => ?_)
            exact x_iret (w1 := (fun u : XT => (wX cI cJ cB cZ ad u))) t_7 B h hr rfl hR dX11_part_46
          · have hR := hR.2 c_4
            exact ih.2 t_1 li lj H locs ls hR (lv_sub hl [0, 1] rfl) h
      · intro t li lj H locs ls hR hl h
        have hR : wbX11_part_1 (wpX11_part k) k t li lj Q := hR
        unfold wbX11_part_1 at hR
        refine lv_iconst (v := (-1)) hx hb dX11_part_21 (by decide) ?_
        exact x_iret (w1 := (fun u : XT => (wX cI cJ cB cZ ad u))) t B h hr rfl hR dX11_part_22
  exact (main k).1 t _ _ s.heap [] ls hR hl h
set_option maxRecDepth 20000 in
theorem ggX7_lookAgain_X11_lowest : GoodIn wsX7_lookAgain wsX11_lowest := goodIn_r _ [8, 9, 10, 11, 12, 13, 14, 15] (by decide +kernel) (by decide +kernel)
set_option maxRecDepth 20000 in
theorem gX7_lookAgain_X11_lowest_n41 : GoodIn wsX7_lookAgain (wsX11_lowest) := ggX7_lookAgain_X11_lowest
set_option maxRecDepth 20000 in
theorem ggX7_lookAgain_J13_bitCount_95d88 : GoodIn wsX7_lookAgain wsJ13_bitCount_95d88 := goodIn_r _ [12, 13, 14, 15] (by decide +kernel) (by decide +kernel)
set_option maxRecDepth 20000 in
theorem gX7_lookAgain_J13_bitCount_95d88 : GoodIn wsX7_lookAgain (va_wsS RX7 55 yJ13_bitCount_95d88 wsJ13_bitCount_95d88) := goodIn_app (goodIn_of _ (by decide +kernel)) ggX7_lookAgain_J13_bitCount_95d88
set_option maxRecDepth 20000 in
theorem ggX7_lookAgain_X11_bit : GoodIn wsX7_lookAgain wsX11_bit := goodIn_r _ [18] (by decide +kernel) (by decide +kernel)
set_option maxRecDepth 20000 in
theorem gX7_lookAgain_X11_bit_n26 : GoodIn wsX7_lookAgain (wsX11_bit) := ggX7_lookAgain_X11_bit
def wbX7_lookAgain_0 (rec : Nat → XT → (Nat → Int32) → (Nat → Int64) → (XT → Prop) → Prop) (k : Nat) (t : XT) (li : Nat → Int32) (lj : Nat → Int64) (Q : XT → Prop) : Prop :=
  rec 1 t (uI li 5 0) (uI lj 3 (lj 1)) Q
def wbX7_lookAgain_1 (rec : Nat → XT → (Nat → Int32) → (Nat → Int64) → (XT → Prop) → Prop) (k : Nat) (t : XT) (li : Nat → Int32) (lj : Nat → Int64) (Q : XT → Prop) : Prop :=
  (((60 : Int32) ≤ (li 5)) → Q t) ∧ (¬ ((60 : Int32) ≤ (li 5)) → (∀ v_2 : Int32, v_2 = (lg_cmp (lj 3) 0) → ((v_2 = 0) → Q t) ∧ (¬ (v_2 = 0) → (wqX11_lowest k (lj 3) (fun r_4 => (∀ v_5 : Int64, v_5 = ((lj 3) - 1) → (∀ v_6 : Int64, v_6 = ((lj 3) &&& v_5) → (vp_in r_4 64 ∧ (∀ v_7 : Int64, v_7 = (t.2.2.2 1) r_4.toNatClampNeg → (∀ v_8 : Int64, v_8 = (v_7 &&& (t.2.1 3)) → (wqJ13_bitCount_95d88 k v_8 (fun r_9 => ((¬ r_9 = 1) → (wqX11_bit k r_4 (fun r_11 => (∀ v_12 : Int64, v_12 = (r_11 ^^^ (-1)) → (∀ v_13 : Int64, v_13 = ((t.2.1 4) &&& v_12) → (∀ t_14 : XT, t_14 = sJ t 4 v_13 → rec 2 t_14 (uI li 6 r_4) (uI lj 3 v_6) Q)))))) ∧ ((r_9 = 1) → (wqX11_bit k r_4 (fun r_15 => (∀ v_16 : Int64, v_16 = ((t.2.1 4) ||| r_15) → (∀ t_17 : XT, t_17 = sJ t 4 v_16 → rec 2 t_17 (uI li 6 r_4) (uI lj 3 v_6) Q)))))))))))))))))
def wbX7_lookAgain_2 (rec : Nat → XT → (Nat → Int32) → (Nat → Int64) → (XT → Prop) → Prop) (k : Nat) (t : XT) (li : Nat → Int32) (lj : Nat → Int64) (Q : XT → Prop) : Prop :=
  (∀ v_18 : Int32, v_18 = (li 5) + Int32.ofInt 1 → rec 1 t (uI li 5 v_18) lj Q)
def wpX7_lookAgain : Nat → Nat → XT → (Nat → Int32) → (Nat → Int64) → (XT → Prop) → Prop
  | 0, _, _, _, _, _ => False
  | k + 1, 0, t, li, lj, Q => wbX7_lookAgain_0 (wpX7_lookAgain k) k t li lj Q
  | k + 1, 1, t, li, lj, Q => wbX7_lookAgain_1 (wpX7_lookAgain k) k t li lj Q
  | k + 1, 2, t, li, lj, Q => wbX7_lookAgain_2 (wpX7_lookAgain k) k t li lj Q
  | _ + 1, _, _, _, _, _ => False
def wqX7_lookAgain (k : Nat) (t : XT) (a1 : Int64) (Q : XT → Prop) : Prop := wpX7_lookAgain k 0 t (fun _ => 0) (uI (fun _ => 0) 1 a1) Q
set_option maxHeartbeats 8000000 in
set_option maxRecDepth 100000 in
theorem wkX7_lookAgain (l : Launch) (D : va_G) (cI cJ cB cZ : ClassId) (ad : Nat → Nat) (k : Nat) (t : XT) (a1 : Int64) (Q : XT → Prop) (hR : wqX7_lookAgain k t a1 Q) : MetV l yX7_lookAgain wsX7_lookAgain 2 42 0 0 D (TYS cI cJ cB cZ) (wX cI cJ cB cZ ad t) [.ref (ad 5), .long a1] (fun u => Q u) (fun u : XT => (wX cI cJ cB cZ ad u)) := by
  refine x_startV (ty := .int) (cc := cX7_lookAgain) (by decide) rfl (Nat.le_of_ble_eq_true rfl) ?_
  intro p e s m args below meth c A ls B hr hnm h hl
  have hx := B.1.1
  have hb := B.1.2.1
  have hml := B.1.2.2.1
  have hts := B.1.2.2.2.2
  have hown : s.vm.findClass RX7 = some m.cls := B.1.2.2.2.1
  have hin7 : ∀ w ∈ u_ws RX7 TX7 3, w ∈ wsX7_lookAgain := by decide +kernel
  have hin9 : ∀ w ∈ u_ws RX9 TX9 7, w ∈ wsX7_lookAgain := by decide +kernel
  have main : ∀ k : Nat, (∀ (t : XT) (li : Nat → Int32) (lj : Nat → Int64) (H : Heap) (locs : List Loc) (ls : Array Slot), wpX7_lookAgain k 0 t li lj Q → lv_has ls 7 [(0, .ref (ad 5)), (1, .long (lj 1))] → Hp D A s.heap (wX cI cJ cB cZ ad t) H locs → W p l e { frames := 2, cells := 0, slots := 0, locals := 42 } s m args below meth c H locs 0 0 (MQ below (va_Qv (fun u => Q u) (fun u t => xEnd D ((fun u : XT => (wX cI cJ cB cZ ad u)) u) A t) A) args s 0 0 A) (F0 m 0 ls [])) ∧
      (∀ (t : XT) (li : Nat → Int32) (lj : Nat → Int64) (H : Heap) (locs : List Loc) (ls : Array Slot), wpX7_lookAgain k 1 t li lj Q → lv_has ls 7 [(0, .ref (ad 5)), (1, .long (lj 1)), (3, .long (lj 3)), (5, .int (li 5))] → Hp D A s.heap (wX cI cJ cB cZ ad t) H locs → W p l e { frames := 2, cells := 0, slots := 0, locals := 42 } s m args below meth c H locs 0 0 (MQ below (va_Qv (fun u => Q u) (fun u t => xEnd D ((fun u : XT => (wX cI cJ cB cZ ad u)) u) A t) A) args s 0 0 A) (F0 m 5 ls [])) ∧
      (∀ (t : XT) (li : Nat → Int32) (lj : Nat → Int64) (H : Heap) (locs : List Loc) (ls : Array Slot), wpX7_lookAgain k 2 t li lj Q → lv_has ls 7 [(0, .ref (ad 5)), (1, .long (lj 1)), (3, .long (lj 3)), (5, .int (li 5)), (6, .int (li 6))] → Hp D A s.heap (wX cI cJ cB cZ ad t) H locs → W p l e { frames := 2, cells := 0, slots := 0, locals := 42 } s m args below meth c H locs 0 0 (MQ below (va_Qv (fun u => Q u) (fun u t => xEnd D ((fun u : XT => (wX cI cJ cB cZ ad u)) u) A t) A) args s 0 0 A) (F0 m 87 ls [])) := by
    intro k
    induction k with
    | zero => exact ⟨fun _ _ _ _ _ _ hR => False.elim hR, fun _ _ _ _ _ _ hR => False.elim hR, fun _ _ _ _ _ _ hR => False.elim hR⟩
    | succ k ih =>
      refine ⟨?_, ?_, ?_⟩
      · intro t li lj H locs ls hR hl h
        have hR : wbX7_lookAgain_0 (wpX7_lookAgain k) k t li lj Q := hR
        unfold wbX7_lookAgain_0 at hR
        refine lv_lload_n hx hb dX7_lookAgain_0 rfl (lv_at hl 1 rfl) ?_
        refine lv_lstore_n (lv' := [(3, .long (lj 1)), (0, .ref (ad 5)), (1, .long (lj 1))]) hx hb dX7_lookAgain_1 rfl hl (by decide) rfl (fun ls hl => ?_)
        refine lv_iconst (v := 0) hx hb dX7_lookAgain_2 (by decide) ?_
        refine lv_istore (lv' := [(5, .int 0), (3, .long (lj 1)), (0, .ref (ad 5)), (1, .long (lj 1))]) hx hb dX7_lookAgain_3 hl (by decide) rfl (fun ls hl => ?_)
        exact ih.2.1 t (uI li 5 0) (uI lj 3 (lj 1)) H locs ls hR (lv_sub hl [2, 3, 1, 0] rfl) h
      · intro t li lj H locs ls hR hl h
        have hR : wbX7_lookAgain_1 (wpX7_lookAgain k) k t li lj Q := hR
        unfold wbX7_lookAgain_1 at hR
        refine lv_iload hx hb dX7_lookAgain_5 (lv_at hl 3 rfl) ?_
        refine lv_bipush (v := 60) hx hb dX7_lookAgain_7 (by decide) ?_
        refine lv_icmp_ge (tgt := 93) hx hb dX7_lookAgain_9 (by decide) (fun c_1 => ?_) (fun c_1 => ?_)
        · have hR := hR.1 c_1
          exact x_vret (w1 := (fun u : XT => (wX cI cJ cB cZ ad u))) t B h hr hR dX7_lookAgain_93
        · have hR := hR.2 c_1
          refine lv_lload_n hx hb dX7_lookAgain_12 rfl (lv_at hl 2 rfl) ?_
          refine lv_lconst (v := 0) hx hb dX7_lookAgain_13 (by decide) ?_
          refine W.lcmp hx hb dX7_lookAgain_14 ?_
          refine lv_topi (fun v_2 ev_2 => ?_)
          have hR := hR v_2 ev_2
          refine lv_if_eq (tgt := 93) hx hb dX7_lookAgain_15 (by decide) (fun c_3 => ?_) (fun c_3 => ?_)
          · have hR := hR.1 c_3
            exact x_vret (w1 := (fun u : XT => (wX cI cJ cB cZ ad u))) t B h hr hR dX7_lookAgain_93
          · have hR := hR.2 c_3
            refine lv_lload_n hx hb dX7_lookAgain_18 rfl (lv_at hl 2 rfl) ?_
            refine x_cNIE (n := 1) (As := [.long (lj 3)]) (rest := []) B h (wkX11_lowest l D cI cJ cB cZ ad k (lj 3) _ hR) ⟨⟨_, rfl⟩, by decide +kernel, Nat.le_of_ble_eq_true rfl, Nat.le_of_ble_eq_true rfl⟩ gX7_lookAgain_X11_lowest_n41 (by decide +kernel) (by decide +kernel) (host := "MorseDesk") (by decide +kernel) rfl hl.1 rfl (Nat.le_of_ble_eq_true rfl) dX7_lookAgain_19 ⟨Nat.le_of_ble_eq_true rfl, Nat.le_of_ble_eq_true rfl⟩ (fun r_4 _ H locs hR h => ?_)
            refine lv_istore (lv' := [(6, .int r_4), (0, .ref (ad 5)), (1, .long (lj 1)), (3, .long (lj 3)), (5, .int (li 5))]) hx hb dX7_lookAgain_22 hl (by decide) rfl (fun ls hl => ?_)
            refine lv_lload_n hx hb dX7_lookAgain_24 rfl (lv_at hl 3 rfl) ?_
            refine lv_lload_n hx hb dX7_lookAgain_25 rfl (lv_at hl 3 rfl) ?_
            refine lv_lconst (v := 1) hx hb dX7_lookAgain_26 (by decide) ?_
            refine lv_lsub hx hb dX7_lookAgain_27 ?_
            refine lv_topl (fun v_5 ev_5 => ?_)
            have hR := hR v_5 ev_5
            refine lv_land hx hb dX7_lookAgain_28 ?_
            refine lv_topl (fun v_6 ev_6 => ?_)
            have hR := hR v_6 ev_6
            refine lv_lstore_n (lv' := [(3, .long v_6), (6, .int r_4), (0, .ref (ad 5)), (1, .long (lj 1)), (5, .int (li 5))]) hx hb dX7_lookAgain_29 rfl hl (by decide) rfl (fun ls hl => ?_)
            refine lv_aload_n hx hb dX7_lookAgain_30 rfl (lv_at hl 2 rfl) ?_
            refine x_get (ci := 7) (C := RX7) (T := TX7) (N := 3) (v := .ref (ad 3)) B h hin7 5 0 rfl rfl (by decide) (by decide +kernel) rfl dX7_lookAgain_31 ?_
            refine x_get (ci := 9) (C := RX9) (T := TX9) (N := 7) (v := .ref (ad 18)) B h hin9 3 5 rfl rfl (by decide) (by decide +kernel) rfl dX7_lookAgain_34 ?_
            refine lv_iload hx hb dX7_lookAgain_37 (lv_at hl 1 rfl) ?_
            obtain ⟨hb_7, hR⟩ := hR
            refine va_lald (f := (t.2.2.2 1)) hx hb B.2.1 h.1 18 1 rfl rfl hb_7 dX7_lookAgain_39 ?_
            refine lv_topl (fun v_7 ev_7 => ?_)
            have hR := hR v_7 ev_7
            refine lv_aload_n hx hb dX7_lookAgain_40 rfl (lv_at hl 2 rfl) ?_
            refine x_get (ci := 7) (C := RX7) (T := TX7) (N := 3) (v := .long (t.2.1 3)) B h hin7 5 1 rfl rfl (by decide) (by decide +kernel) rfl dX7_lookAgain_41 ?_
            refine lv_land hx hb dX7_lookAgain_44 ?_
            refine lv_topl (fun v_8 ev_8 => ?_)
            have hR := hR v_8 ev_8
            refine x_cSIE (n := 1) (As := [.long v_8]) (rest := []) B h (wkJ13_bitCount_95d88 l D cI cJ cB cZ ad k v_8 _ hR) ⟨⟨_, rfl⟩, by decide +kernel, Nat.le_of_ble_eq_true rfl, Nat.le_of_ble_eq_true rfl⟩ gX7_lookAgain_J13_bitCount_95d88 rfl hl.1 rfl (Nat.le_of_ble_eq_true rfl) dX7_lookAgain_45 ⟨Nat.le_of_ble_eq_true rfl, Nat.le_of_ble_eq_true rfl⟩ (fun r_9 _ H locs hR h => ?_)
            refine lv_iconst (v := 1) hx hb dX7_lookAgain_48 (by decide) ?_
            refine lv_icmp_ne (tgt := 69) hx hb dX7_lookAgain_49 (by decide) (fun c_10 => ?_) (fun c_10 => ?_)
            · have hR := hR.1 c_10
              refine lv_aload_n hx hb dX7_lookAgain_69 rfl (lv_at hl 2 rfl) ?_
              refine lv_dup hx hb dX7_lookAgain_70 rfl ?_
              refine x_get (ci := 7) (C := RX7) (T := TX7) (N := 3) (v := .long (t.2.1 4)) B h hin7 5 2 rfl rfl (by decide) (by decide +kernel) rfl dX7_lookAgain_71 ?_
              refine lv_iload hx hb dX7_lookAgain_74 (lv_at hl 1 rfl) ?_
              refine x_cNLE (n := 1) (As := [.int r_4]) (rest := [.long (t.2.1 4), .ref (ad 5)]) B h (wkX11_bit l D cI cJ cB cZ ad k r_4 _ hR) ⟨⟨_, rfl⟩, by decide +kernel, Nat.le_of_ble_eq_true rfl, Nat.le_of_ble_eq_true rfl⟩ gX7_lookAgain_X11_bit_n26 (by decide +kernel) (by decide +kernel) (host := "MorseDesk") (by decide +kernel) rfl hl.1 rfl (Nat.le_of_ble_eq_true rfl) dX7_lookAgain_76 ⟨Nat.le_of_ble_eq_true rfl, Nat.le_of_ble_eq_true rfl⟩ (fun r_11 _ H locs hR h => ?_)
              refine lv_ldc2 (v := (-1)) hx hb hown (hts (.constantLong RX7 30 (-1)) (by decide +kernel)) dX7_lookAgain_79 ?_
              refine lv_lxor hx hb dX7_lookAgain_82 ?_
              refine lv_topl (fun v_12 ev_12 => ?_)
              have hR := hR v_12 ev_12
              refine lv_land hx hb dX7_lookAgain_83 ?_
              refine lv_topl (fun v_13 ev_13 => ?_)
              have hR := hR v_13 ev_13
              refine x_put (ci := 7) (C := RX7) (T := TX7) (N := 3) (v := .long v_13) (ty := .long) B h hin7 tyX7 tyX7_ok nmX7 5 2 rfl rfl (by decide) (by decide +kernel) rfl rfl rfl rfl (Nat.le_of_ble_eq_true rfl) dX7_lookAgain_84 (fun H locs h => ?_)
              obtain ⟨t_14, et_14⟩ : ∃ v : XT, v = sJ t 4 v_13 := ⟨_, rfl⟩
              have hR := hR t_14 et_14
              have h : Hp D A s.heap (wX cI cJ cB cZ ad t_14) H locs := by rw [et_14]; exact h
              exact ih.2.2 t_14 (uI li 6 r_4) (uI lj 3 v_6) H locs ls hR (lv_sub hl [2, 3, 0, 4, 1] rfl) h
            · have hR := hR.2 c_10
              refine lv_aload_n hx hb dX7_lookAgain_52 rfl (lv_at hl 2 rfl) ?_
              refine lv_dup hx hb dX7_lookAgain_53 rfl ?_
              refine x_get (ci := 7) (C := RX7) (T := TX7) (N := 3) (v := .long (t.2.1 4)) B h hin7 5 2 rfl rfl (by decide) (by decide +kernel) rfl dX7_lookAgain_54 ?_
              refine lv_iload hx hb dX7_lookAgain_57 (lv_at hl 1 rfl) ?_
              refine x_cNLE (n := 1) (As := [.int r_4]) (rest := [.long (t.2.1 4), .ref (ad 5)]) B h (wkX11_bit l D cI cJ cB cZ ad k r_4 _ hR) ⟨⟨_, rfl⟩, by decide +kernel, Nat.le_of_ble_eq_true rfl, Nat.le_of_ble_eq_true rfl⟩ gX7_lookAgain_X11_bit_n26 (by decide +kernel) (by decide +kernel) (host := "MorseDesk") (by decide +kernel) rfl hl.1 rfl (Nat.le_of_ble_eq_true rfl) dX7_lookAgain_59 ⟨Nat.le_of_ble_eq_true rfl, Nat.le_of_ble_eq_true rfl⟩ (fun r_15 _ H locs hR h => ?_)
              refine lv_lor hx hb dX7_lookAgain_62 ?_
              refine lv_topl (fun v_16 ev_16 => ?_)
              have hR := hR v_16 ev_16
              refine x_put (ci := 7) (C := RX7) (T := TX7) (N := 3) (v := .long v_16) (ty := .long) B h hin7 tyX7 tyX7_ok nmX7 5 2 rfl rfl (by decide) (by decide +kernel) rfl rfl rfl rfl (Nat.le_of_ble_eq_true rfl) dX7_lookAgain_63 (fun H locs h => ?_)
              obtain ⟨t_17, et_17⟩ : ∃ v : XT, v = sJ t 4 v_16 := ⟨_, rfl⟩
              have hR := hR t_17 et_17
              have h : Hp D A s.heap (wX cI cJ cB cZ ad t_17) H locs := by rw [et_17]; exact h
              refine lv_goto (tgt := 87) hx hb dX7_lookAgain_66 (by decide) ?_
              exact ih.2.2 t_17 (uI li 6 r_4) (uI lj 3 v_6) H locs ls hR (lv_sub hl [2, 3, 0, 4, 1] rfl) h
      · intro t li lj H locs ls hR hl h
        have hR : wbX7_lookAgain_2 (wpX7_lookAgain k) k t li lj Q := hR
        unfold wbX7_lookAgain_2 at hR
        obtain ⟨v_18, ev_18⟩ : ∃ v : Int32, v = (li 5) + Int32.ofInt 1 := ⟨_, rfl⟩
        have hR := hR v_18 ev_18
        refine lv_iinc (v := v_18) (lv' := [(5, .int v_18), (0, .ref (ad 5)), (1, .long (lj 1)), (3, .long (lj 3)), (6, .int (li 6))]) hx hb dX7_lookAgain_87 hl (k := 3) rfl ev_18.symm (by decide) rfl (fun ls hl => ?_)
        refine lv_goto (tgt := 5) hx hb dX7_lookAgain_90 (by decide) ?_
        exact ih.2.1 t (uI li 5 v_18) lj H locs ls hR (lv_sub hl [1, 2, 3, 0] rfl) h
  exact (main k).1 t _ _ s.heap [] ls hR hl h
set_option maxRecDepth 20000 in
theorem ggX7_begin_X7_lookAgain : GoodIn wsX7_begin wsX7_lookAgain := goodIn_r _ [7, 8, 9, 1, 2, 10, 11, 12, 13, 14, 15, 16, 17, 18, 19, 20, 21, 22, 23, 24, 25, 26, 27, 28, 29, 30, 31, 32, 33] (by decide +kernel) (by decide +kernel)
set_option maxRecDepth 20000 in
theorem gX7_begin_X7_lookAgain : GoodIn wsX7_begin (wsV RX7 22 RX7 yX7_lookAgain wsX7_lookAgain) := goodIn_app (goodIn_of _ (by decide +kernel)) ggX7_begin_X7_lookAgain
def wbX7_begin_0 (rec : Nat → XT → (Nat → Int32) → (Nat → Int64) → (XT → Prop) → Prop) (k : Nat) (t : XT) (li : Nat → Int32) (lj : Nat → Int64) (Q : XT → Prop) : Prop :=
  (∀ t_1 : XT, t_1 = sJ t 3 (lj 1) → (∀ t_2 : XT, t_2 = sJ t_1 4 0 → (wqX7_lookAgain k t_2 (lj 1) (fun t_3 => Q t_3))))
def wpX7_begin : Nat → Nat → XT → (Nat → Int32) → (Nat → Int64) → (XT → Prop) → Prop
  | 0, _, _, _, _, _ => False
  | k + 1, 0, t, li, lj, Q => wbX7_begin_0 (wpX7_begin k) k t li lj Q
  | _ + 1, _, _, _, _, _ => False
def wqX7_begin (k : Nat) (t : XT) (a1 : Int64) (Q : XT → Prop) : Prop := wpX7_begin k 0 t (fun _ => 0) (uI (fun _ => 0) 1 a1) Q
set_option maxHeartbeats 8000000 in
set_option maxRecDepth 100000 in
theorem wkX7_begin (l : Launch) (D : va_G) (cI cJ cB cZ : ClassId) (ad : Nat → Nat) (k : Nat) (t : XT) (a1 : Int64) (Q : XT → Prop) (hR : wqX7_begin k t a1 Q) : MetV l yX7_begin wsX7_begin 3 68 0 0 D (TYS cI cJ cB cZ) (wX cI cJ cB cZ ad t) [.ref (ad 5), .long a1] (fun u => Q u) (fun u : XT => (wX cI cJ cB cZ ad u)) := by
  refine x_startV (ty := .int) (cc := cX7_begin) (by decide) rfl (Nat.le_of_ble_eq_true rfl) ?_
  intro p e s m args below meth c A ls B hr hnm h hl
  have hx := B.1.1
  have hb := B.1.2.1
  have hml := B.1.2.2.1
  have hts := B.1.2.2.2.2
  have hown : s.vm.findClass RX7 = some m.cls := B.1.2.2.2.1
  have hin7 : ∀ w ∈ u_ws RX7 TX7 3, w ∈ wsX7_begin := by decide +kernel
  have main : ∀ k : Nat, (∀ (t : XT) (li : Nat → Int32) (lj : Nat → Int64) (H : Heap) (locs : List Loc) (ls : Array Slot), wpX7_begin k 0 t li lj Q → lv_has ls 3 [(0, .ref (ad 5)), (1, .long (lj 1))] → Hp D A s.heap (wX cI cJ cB cZ ad t) H locs → W p l e { frames := 3, cells := 0, slots := 0, locals := 68 } s m args below meth c H locs 0 0 (MQ below (va_Qv (fun u => Q u) (fun u t => xEnd D ((fun u : XT => (wX cI cJ cB cZ ad u)) u) A t) A) args s 0 0 A) (F0 m 0 ls [])) := by
    intro k
    induction k with
    | zero => exact fun _ _ _ _ _ _ hR => False.elim hR
    | succ k ih =>
      intro t li lj H locs ls hR hl h
      have hR : wbX7_begin_0 (wpX7_begin k) k t li lj Q := hR
      unfold wbX7_begin_0 at hR
      refine lv_aload_n hx hb dX7_begin_0 rfl (lv_at hl 0 rfl) ?_
      refine lv_lload_n hx hb dX7_begin_1 rfl (lv_at hl 1 rfl) ?_
      refine x_put (ci := 7) (C := RX7) (T := TX7) (N := 3) (v := .long (lj 1)) (ty := .long) B h hin7 tyX7 tyX7_ok nmX7 5 1 rfl rfl (by decide) (by decide +kernel) rfl rfl rfl rfl (Nat.le_of_ble_eq_true rfl) dX7_begin_2 (fun H locs h => ?_)
      obtain ⟨t_1, et_1⟩ : ∃ v : XT, v = sJ t 3 (lj 1) := ⟨_, rfl⟩
      have hR := hR t_1 et_1
      have h : Hp D A s.heap (wX cI cJ cB cZ ad t_1) H locs := by rw [et_1]; exact h
      refine lv_aload_n hx hb dX7_begin_5 rfl (lv_at hl 0 rfl) ?_
      refine lv_lconst (v := 0) hx hb dX7_begin_6 (by decide) ?_
      refine x_put (ci := 7) (C := RX7) (T := TX7) (N := 3) (v := .long 0) (ty := .long) B h hin7 tyX7 tyX7_ok nmX7 5 2 rfl rfl (by decide) (by decide +kernel) rfl rfl rfl rfl (Nat.le_of_ble_eq_true rfl) dX7_begin_7 (fun H locs h => ?_)
      obtain ⟨t_2, et_2⟩ : ∃ v : XT, v = sJ t_1 4 0 := ⟨_, rfl⟩
      have hR := hR t_2 et_2
      have h : Hp D A s.heap (wX cI cJ cB cZ ad t_2) H locs := by rw [et_2]; exact h
      refine lv_aload_n hx hb dX7_begin_10 rfl (lv_at hl 0 rfl) ?_
      refine lv_lload_n hx hb dX7_begin_11 rfl (lv_at hl 1 rfl) ?_
      refine x_cVVF (n := 1) (As := [.long (lj 1)]) (rest := []) B h (wkX7_lookAgain l D cI cJ cB cZ ad k t_2 (lj 1) _ hR) ⟨⟨_, rfl⟩, by decide +kernel, Nat.le_of_ble_eq_true rfl, Nat.le_of_ble_eq_true rfl⟩ gX7_begin_X7_lookAgain (show ((wX cI cJ cB cZ ad t_2) : va_W)[5]? = some (_, .inr (7, _)) from rfl) rfl rfl hl.1 rfl (Nat.le_of_ble_eq_true rfl) dX7_begin_12 ⟨Nat.le_of_ble_eq_true rfl, Nat.le_of_ble_eq_true rfl⟩ (fun t_3 H locs hR h => ?_)
      exact x_vret (w1 := (fun u : XT => (wX cI cJ cB cZ ad u))) t_3 B h hr hR dX7_begin_15
  exact (main k) t _ _ s.heap [] ls hR hl h
set_option maxRecDepth 20000 in
theorem ggX11_nth_X11_lowest : GoodIn wsX11_nth wsX11_lowest := goodIn_r _ [4, 5, 6, 7, 8, 9, 10, 11] (by decide +kernel) (by decide +kernel)
set_option maxRecDepth 20000 in
theorem gX11_nth_X11_lowest : GoodIn wsX11_nth (va_wsS RX11 220 yX11_lowest wsX11_lowest) := goodIn_app (goodIn_of _ (by decide +kernel)) ggX11_nth_X11_lowest
def wbX11_nth_0 (rec : Nat → (Nat → Int32) → (Nat → Int64) → (Int32 → Prop) → Prop) (k : Nat) (li : Nat → Int32) (lj : Nat → Int64) (Q : Int32 → Prop) : Prop :=
  rec 1 (uI li 5 0) (uI lj 3 (lj 0)) Q
def wbX11_nth_1 (rec : Nat → (Nat → Int32) → (Nat → Int64) → (Int32 → Prop) → Prop) (k : Nat) (li : Nat → Int32) (lj : Nat → Int64) (Q : Int32 → Prop) : Prop :=
  ((((li 2) : Int32) ≤ (li 5)) → rec 2 li lj Q) ∧ (¬ (((li 2) : Int32) ≤ (li 5)) → (∀ v_2 : Int32, v_2 = (lg_cmp (lj 3) 0) → ((v_2 = 0) → rec 2 li lj Q) ∧ (¬ (v_2 = 0) → (∀ v_4 : Int64, v_4 = ((lj 3) - 1) → (∀ v_5 : Int64, v_5 = ((lj 3) &&& v_4) → (∀ v_6 : Int32, v_6 = (li 5) + Int32.ofInt 1 → rec 1 (uI li 5 v_6) (uI lj 3 v_5) Q))))))
def wbX11_nth_2 (rec : Nat → (Nat → Int32) → (Nat → Int64) → (Int32 → Prop) → Prop) (k : Nat) (li : Nat → Int32) (lj : Nat → Int64) (Q : Int32 → Prop) : Prop :=
  (wqX11_lowest k (lj 3) (fun r_7 => Q r_7))
def wpX11_nth : Nat → Nat → (Nat → Int32) → (Nat → Int64) → (Int32 → Prop) → Prop
  | 0, _, _, _, _ => False
  | k + 1, 0, li, lj, Q => wbX11_nth_0 (wpX11_nth k) k li lj Q
  | k + 1, 1, li, lj, Q => wbX11_nth_1 (wpX11_nth k) k li lj Q
  | k + 1, 2, li, lj, Q => wbX11_nth_2 (wpX11_nth k) k li lj Q
  | _ + 1, _, _, _, _ => False
def wqX11_nth (k : Nat) (a0 : Int64) (a1 : Int32) (Q : Int32 → Prop) : Prop := wpX11_nth k 0 (uI (fun _ => 0) 2 a1) (uI (fun _ => 0) 0 a0) Q
set_option maxHeartbeats 8000000 in
set_option maxRecDepth 100000 in
theorem wkX11_nth (l : Launch) (D : va_G) (cI cJ cB cZ : ClassId) (ad : Nat → Nat) (k : Nat) (a0 : Int64) (a1 : Int32) (Q : Int32 → Prop) (hR : wqX11_nth k a0 a1 Q) : MetI l yX11_nth wsX11_nth 2 42 0 0 D (TYS cI cJ cB cZ) [] [.long a0, .int a1] (fun r _ => Q r) (fun _ : Unit => []) := by
  refine x_startI (ty := .int) (cc := cX11_nth) (by decide) rfl (Nat.le_of_ble_eq_true rfl) ?_
  intro p e s m args below meth c A ls B hr hnm h hl
  have hx := B.1.1
  have hb := B.1.2.1
  have hml := B.1.2.2.1
  have hts := B.1.2.2.2.2
  have hown : s.vm.findClass RX11 = some m.cls := B.1.2.2.2.1
  have main : ∀ k : Nat, (∀ (li : Nat → Int32) (lj : Nat → Int64) (H : Heap) (locs : List Loc) (ls : Array Slot), wpX11_nth k 0 li lj Q → lv_has ls 6 [(0, .long (lj 0)), (2, .int (li 2))] → Hp D A s.heap [] H locs → W p l e { frames := 2, cells := 0, slots := 0, locals := 42 } s m args below meth c H locs 0 0 (MQ below (va_Qi (fun r _ => Q r) (fun u t => xEnd D ((fun _ : Unit => []) u) A t) A) args s 0 0 A) (F0 m 0 ls [])) ∧
      (∀ (li : Nat → Int32) (lj : Nat → Int64) (H : Heap) (locs : List Loc) (ls : Array Slot), wpX11_nth k 1 li lj Q → lv_has ls 6 [(0, .long (lj 0)), (2, .int (li 2)), (3, .long (lj 3)), (5, .int (li 5))] → Hp D A s.heap [] H locs → W p l e { frames := 2, cells := 0, slots := 0, locals := 42 } s m args below meth c H locs 0 0 (MQ below (va_Qi (fun r _ => Q r) (fun u t => xEnd D ((fun _ : Unit => []) u) A t) A) args s 0 0 A) (F0 m 5 ls [])) ∧
      (∀ (li : Nat → Int32) (lj : Nat → Int64) (H : Heap) (locs : List Loc) (ls : Array Slot), wpX11_nth k 2 li lj Q → lv_has ls 6 [(0, .long (lj 0)), (2, .int (li 2)), (3, .long (lj 3)), (5, .int (li 5))] → Hp D A s.heap [] H locs → W p l e { frames := 2, cells := 0, slots := 0, locals := 42 } s m args below meth c H locs 0 0 (MQ below (va_Qi (fun r _ => Q r) (fun u t => xEnd D ((fun _ : Unit => []) u) A t) A) args s 0 0 A) (F0 m 29 ls [])) := by
    intro k
    induction k with
    | zero => exact ⟨fun _ _ _ _ _ hR => False.elim hR, fun _ _ _ _ _ hR => False.elim hR, fun _ _ _ _ _ hR => False.elim hR⟩
    | succ k ih =>
      refine ⟨?_, ?_, ?_⟩
      · intro li lj H locs ls hR hl h
        have hR : wbX11_nth_0 (wpX11_nth k) k li lj Q := hR
        unfold wbX11_nth_0 at hR
        refine lv_lload_n hx hb dX11_nth_0 rfl (lv_at hl 0 rfl) ?_
        refine lv_lstore_n (lv' := [(3, .long (lj 0)), (0, .long (lj 0)), (2, .int (li 2))]) hx hb dX11_nth_1 rfl hl (by decide) rfl (fun ls hl => ?_)
        refine lv_iconst (v := 0) hx hb dX11_nth_2 (by decide) ?_
        refine lv_istore (lv' := [(5, .int 0), (3, .long (lj 0)), (0, .long (lj 0)), (2, .int (li 2))]) hx hb dX11_nth_3 hl (by decide) rfl (fun ls hl => ?_)
        exact ih.2.1 (uI li 5 0) (uI lj 3 (lj 0)) H locs ls hR (lv_sub hl [2, 3, 1, 0] rfl) h
      · intro li lj H locs ls hR hl h
        have hR : wbX11_nth_1 (wpX11_nth k) k li lj Q := hR
        unfold wbX11_nth_1 at hR
        refine lv_iload hx hb dX11_nth_5 (lv_at hl 3 rfl) ?_
        refine lv_iload_n hx hb dX11_nth_7 rfl (lv_at hl 1 rfl) ?_
        refine lv_icmp_ge (tgt := 29) hx hb dX11_nth_8 (by decide) (fun c_1 => ?_) (fun c_1 => ?_)
        · have hR := hR.1 c_1
          exact ih.2.2 li lj H locs ls hR (lv_sub hl [0, 1, 2, 3] rfl) h
        · have hR := hR.2 c_1
          refine lv_lload_n hx hb dX11_nth_11 rfl (lv_at hl 2 rfl) ?_
          refine lv_lconst (v := 0) hx hb dX11_nth_12 (by decide) ?_
          refine W.lcmp hx hb dX11_nth_13 ?_
          refine lv_topi (fun v_2 ev_2 => ?_)
          have hR := hR v_2 ev_2
          refine lv_if_eq (tgt := 29) hx hb dX11_nth_14 (by decide) (fun c_3 => ?_) (fun c_3 => ?_)
          · have hR := hR.1 c_3
            exact ih.2.2 li lj H locs ls hR (lv_sub hl [0, 1, 2, 3] rfl) h
          · have hR := hR.2 c_3
            refine lv_lload_n hx hb dX11_nth_17 rfl (lv_at hl 2 rfl) ?_
            refine lv_lload_n hx hb dX11_nth_18 rfl (lv_at hl 2 rfl) ?_
            refine lv_lconst (v := 1) hx hb dX11_nth_19 (by decide) ?_
            refine lv_lsub hx hb dX11_nth_20 ?_
            refine lv_topl (fun v_4 ev_4 => ?_)
            have hR := hR v_4 ev_4
            refine lv_land hx hb dX11_nth_21 ?_
            refine lv_topl (fun v_5 ev_5 => ?_)
            have hR := hR v_5 ev_5
            refine lv_lstore_n (lv' := [(3, .long v_5), (0, .long (lj 0)), (2, .int (li 2)), (5, .int (li 5))]) hx hb dX11_nth_22 rfl hl (by decide) rfl (fun ls hl => ?_)
            obtain ⟨v_6, ev_6⟩ : ∃ v : Int32, v = (li 5) + Int32.ofInt 1 := ⟨_, rfl⟩
            have hR := hR v_6 ev_6
            refine lv_iinc (v := v_6) (lv' := [(5, .int v_6), (3, .long v_5), (0, .long (lj 0)), (2, .int (li 2))]) hx hb dX11_nth_23 hl (k := 3) rfl ev_6.symm (by decide) rfl (fun ls hl => ?_)
            refine lv_goto (tgt := 5) hx hb dX11_nth_26 (by decide) ?_
            exact ih.2.1 (uI li 5 v_6) (uI lj 3 v_5) H locs ls hR (lv_sub hl [2, 3, 1, 0] rfl) h
      · intro li lj H locs ls hR hl h
        have hR : wbX11_nth_2 (wpX11_nth k) k li lj Q := hR
        unfold wbX11_nth_2 at hR
        refine lv_lload_n hx hb dX11_nth_29 rfl (lv_at hl 2 rfl) ?_
        refine x_cSIE (n := 1) (As := [.long (lj 3)]) (rest := []) B h (wkX11_lowest l D cI cJ cB cZ ad k (lj 3) _ hR) ⟨⟨_, rfl⟩, by decide +kernel, Nat.le_of_ble_eq_true rfl, Nat.le_of_ble_eq_true rfl⟩ gX11_nth_X11_lowest rfl hl.1 rfl (Nat.le_of_ble_eq_true rfl) dX11_nth_30 ⟨Nat.le_of_ble_eq_true rfl, Nat.le_of_ble_eq_true rfl⟩ (fun r_7 _ H locs hR h => ?_)
        exact x_iret (w1 := (fun _ : Unit => [])) () B h hr rfl hR dX11_nth_33
  exact (main k).1 _ _ s.heap [] ls hR hl h
set_option maxRecDepth 20000 in
theorem ggX7_close_X11_bit : GoodIn wsX7_close wsX11_bit := goodIn_r _ [8] (by decide +kernel) (by decide +kernel)
set_option maxRecDepth 20000 in
theorem gX7_close_X11_bit_n26 : GoodIn wsX7_close (wsX11_bit) := ggX7_close_X11_bit
set_option maxRecDepth 20000 in
theorem ggX7_close_X7_lookAgain : GoodIn wsX7_close wsX7_lookAgain := goodIn_r _ [13, 4, 14, 1, 3, 2, 15, 7, 16, 17, 18, 19, 20, 21, 22, 23, 24, 6, 8, 25, 26, 27, 28, 29, 30, 31, 32, 33, 34] (by decide +kernel) (by decide +kernel)
set_option maxRecDepth 20000 in
theorem gX7_close_X7_lookAgain : GoodIn wsX7_close (wsV RX7 22 RX7 yX7_lookAgain wsX7_lookAgain) := goodIn_app (goodIn_of _ (by decide +kernel)) ggX7_close_X7_lookAgain
def wbX7_close_0 (rec : Nat → XT → (Nat → Int32) → (Nat → Int64) → (XT → Prop) → Prop) (k : Nat) (t : XT) (li : Nat → Int32) (lj : Nat → Int64) (Q : XT → Prop) : Prop :=
  (wqX11_bit k (li 1) (fun r_1 => (∀ v_2 : Int64, v_2 = (r_1 ^^^ (-1)) → (∀ v_3 : Int64, v_3 = ((t.2.1 3) &&& v_2) → (∀ t_4 : XT, t_4 = sJ t 3 v_3 → (wqX11_bit k (li 1) (fun r_5 => (∀ v_6 : Int64, v_6 = (r_5 ^^^ (-1)) → (∀ v_7 : Int64, v_7 = ((t_4.2.1 4) &&& v_6) → (∀ t_8 : XT, t_8 = sJ t_4 4 v_7 → (vp_in (li 1) 64 ∧ (∀ v_9 : Int64, v_9 = (t_8.2.2.2 0) (li 1).toNatClampNeg → (∀ v_10 : Int64, v_10 = (v_9 &&& (t_8.2.1 3)) → (wqX7_lookAgain k t_8 v_10 (fun t_11 => Q t_11)))))))))))))))
def wpX7_close : Nat → Nat → XT → (Nat → Int32) → (Nat → Int64) → (XT → Prop) → Prop
  | 0, _, _, _, _, _ => False
  | k + 1, 0, t, li, lj, Q => wbX7_close_0 (wpX7_close k) k t li lj Q
  | _ + 1, _, _, _, _, _ => False
def wqX7_close (k : Nat) (t : XT) (a1 : Int32) (Q : XT → Prop) : Prop := wpX7_close k 0 t (uI (fun _ => 0) 1 a1) (fun _ => 0) Q
set_option maxHeartbeats 8000000 in
set_option maxRecDepth 100000 in
theorem wkX7_close (l : Launch) (D : va_G) (cI cJ cB cZ : ClassId) (ad : Nat → Nat) (k : Nat) (t : XT) (a1 : Int32) (Q : XT → Prop) (hR : wqX7_close k t a1 Q) : MetV l yX7_close wsX7_close 3 68 0 0 D (TYS cI cJ cB cZ) (wX cI cJ cB cZ ad t) [.ref (ad 5), .int a1] (fun u => Q u) (fun u : XT => (wX cI cJ cB cZ ad u)) := by
  refine x_startV (ty := .int) (cc := cX7_close) (by decide) rfl (Nat.le_of_ble_eq_true rfl) ?_
  intro p e s m args below meth c A ls B hr hnm h hl
  have hx := B.1.1
  have hb := B.1.2.1
  have hml := B.1.2.2.1
  have hts := B.1.2.2.2.2
  have hown : s.vm.findClass RX7 = some m.cls := B.1.2.2.2.1
  have hin7 : ∀ w ∈ u_ws RX7 TX7 3, w ∈ wsX7_close := by decide +kernel
  have hin9 : ∀ w ∈ u_ws RX9 TX9 7, w ∈ wsX7_close := by decide +kernel
  have main : ∀ k : Nat, (∀ (t : XT) (li : Nat → Int32) (lj : Nat → Int64) (H : Heap) (locs : List Loc) (ls : Array Slot), wpX7_close k 0 t li lj Q → lv_has ls 2 [(0, .ref (ad 5)), (1, .int (li 1))] → Hp D A s.heap (wX cI cJ cB cZ ad t) H locs → W p l e { frames := 3, cells := 0, slots := 0, locals := 68 } s m args below meth c H locs 0 0 (MQ below (va_Qv (fun u => Q u) (fun u t => xEnd D ((fun u : XT => (wX cI cJ cB cZ ad u)) u) A t) A) args s 0 0 A) (F0 m 0 ls [])) := by
    intro k
    induction k with
    | zero => exact fun _ _ _ _ _ _ hR => False.elim hR
    | succ k ih =>
      intro t li lj H locs ls hR hl h
      have hR : wbX7_close_0 (wpX7_close k) k t li lj Q := hR
      unfold wbX7_close_0 at hR
      refine lv_aload_n hx hb dX7_close_0 rfl (lv_at hl 0 rfl) ?_
      refine lv_dup hx hb dX7_close_1 rfl ?_
      refine x_get (ci := 7) (C := RX7) (T := TX7) (N := 3) (v := .long (t.2.1 3)) B h hin7 5 1 rfl rfl (by decide) (by decide +kernel) rfl dX7_close_2 ?_
      refine lv_iload_n hx hb dX7_close_5 rfl (lv_at hl 1 rfl) ?_
      refine x_cNLE (n := 1) (As := [.int (li 1)]) (rest := [.long (t.2.1 3), .ref (ad 5)]) B h (wkX11_bit l D cI cJ cB cZ ad k (li 1) _ hR) ⟨⟨_, rfl⟩, by decide +kernel, Nat.le_of_ble_eq_true rfl, Nat.le_of_ble_eq_true rfl⟩ gX7_close_X11_bit_n26 (by decide +kernel) (by decide +kernel) (host := "MorseDesk") (by decide +kernel) rfl hl.1 rfl (Nat.le_of_ble_eq_true rfl) dX7_close_6 ⟨Nat.le_of_ble_eq_true rfl, Nat.le_of_ble_eq_true rfl⟩ (fun r_1 _ H locs hR h => ?_)
      refine lv_ldc2 (v := (-1)) hx hb hown (hts (.constantLong RX7 30 (-1)) (by decide +kernel)) dX7_close_9 ?_
      refine lv_lxor hx hb dX7_close_12 ?_
      refine lv_topl (fun v_2 ev_2 => ?_)
      have hR := hR v_2 ev_2
      refine lv_land hx hb dX7_close_13 ?_
      refine lv_topl (fun v_3 ev_3 => ?_)
      have hR := hR v_3 ev_3
      refine x_put (ci := 7) (C := RX7) (T := TX7) (N := 3) (v := .long v_3) (ty := .long) B h hin7 tyX7 tyX7_ok nmX7 5 1 rfl rfl (by decide) (by decide +kernel) rfl rfl rfl rfl (Nat.le_of_ble_eq_true rfl) dX7_close_14 (fun H locs h => ?_)
      obtain ⟨t_4, et_4⟩ : ∃ v : XT, v = sJ t 3 v_3 := ⟨_, rfl⟩
      have hR := hR t_4 et_4
      have h : Hp D A s.heap (wX cI cJ cB cZ ad t_4) H locs := by rw [et_4]; exact h
      refine lv_aload_n hx hb dX7_close_17 rfl (lv_at hl 0 rfl) ?_
      refine lv_dup hx hb dX7_close_18 rfl ?_
      refine x_get (ci := 7) (C := RX7) (T := TX7) (N := 3) (v := .long (t_4.2.1 4)) B h hin7 5 2 rfl rfl (by decide) (by decide +kernel) rfl dX7_close_19 ?_
      refine lv_iload_n hx hb dX7_close_22 rfl (lv_at hl 1 rfl) ?_
      refine x_cNLE (n := 1) (As := [.int (li 1)]) (rest := [.long (t_4.2.1 4), .ref (ad 5)]) B h (wkX11_bit l D cI cJ cB cZ ad k (li 1) _ hR) ⟨⟨_, rfl⟩, by decide +kernel, Nat.le_of_ble_eq_true rfl, Nat.le_of_ble_eq_true rfl⟩ gX7_close_X11_bit_n26 (by decide +kernel) (by decide +kernel) (host := "MorseDesk") (by decide +kernel) rfl hl.1 rfl (Nat.le_of_ble_eq_true rfl) dX7_close_23 ⟨Nat.le_of_ble_eq_true rfl, Nat.le_of_ble_eq_true rfl⟩ (fun r_5 _ H locs hR h => ?_)
      refine lv_ldc2 (v := (-1)) hx hb hown (hts (.constantLong RX7 30 (-1)) (by decide +kernel)) dX7_close_26 ?_
      refine lv_lxor hx hb dX7_close_29 ?_
      refine lv_topl (fun v_6 ev_6 => ?_)
      have hR := hR v_6 ev_6
      refine lv_land hx hb dX7_close_30 ?_
      refine lv_topl (fun v_7 ev_7 => ?_)
      have hR := hR v_7 ev_7
      refine x_put (ci := 7) (C := RX7) (T := TX7) (N := 3) (v := .long v_7) (ty := .long) B h hin7 tyX7 tyX7_ok nmX7 5 2 rfl rfl (by decide) (by decide +kernel) rfl rfl rfl rfl (Nat.le_of_ble_eq_true rfl) dX7_close_31 (fun H locs h => ?_)
      obtain ⟨t_8, et_8⟩ : ∃ v : XT, v = sJ t_4 4 v_7 := ⟨_, rfl⟩
      have hR := hR t_8 et_8
      have h : Hp D A s.heap (wX cI cJ cB cZ ad t_8) H locs := by rw [et_8]; exact h
      refine lv_aload_n hx hb dX7_close_34 rfl (lv_at hl 0 rfl) ?_
      refine lv_aload_n hx hb dX7_close_35 rfl (lv_at hl 0 rfl) ?_
      refine x_get (ci := 7) (C := RX7) (T := TX7) (N := 3) (v := .ref (ad 3)) B h hin7 5 0 rfl rfl (by decide) (by decide +kernel) rfl dX7_close_36 ?_
      refine x_get (ci := 9) (C := RX9) (T := TX9) (N := 7) (v := .ref (ad 17)) B h hin9 3 4 rfl rfl (by decide) (by decide +kernel) rfl dX7_close_39 ?_
      refine lv_iload_n hx hb dX7_close_42 rfl (lv_at hl 1 rfl) ?_
      obtain ⟨hb_9, hR⟩ := hR
      refine va_lald (f := (t_8.2.2.2 0)) hx hb B.2.1 h.1 17 1 rfl rfl hb_9 dX7_close_43 ?_
      refine lv_topl (fun v_9 ev_9 => ?_)
      have hR := hR v_9 ev_9
      refine lv_aload_n hx hb dX7_close_44 rfl (lv_at hl 0 rfl) ?_
      refine x_get (ci := 7) (C := RX7) (T := TX7) (N := 3) (v := .long (t_8.2.1 3)) B h hin7 5 1 rfl rfl (by decide) (by decide +kernel) rfl dX7_close_45 ?_
      refine lv_land hx hb dX7_close_48 ?_
      refine lv_topl (fun v_10 ev_10 => ?_)
      have hR := hR v_10 ev_10
      refine x_cVVF (n := 1) (As := [.long v_10]) (rest := []) B h (wkX7_lookAgain l D cI cJ cB cZ ad k t_8 v_10 _ hR) ⟨⟨_, rfl⟩, by decide +kernel, Nat.le_of_ble_eq_true rfl, Nat.le_of_ble_eq_true rfl⟩ gX7_close_X7_lookAgain (show ((wX cI cJ cB cZ ad t_8) : va_W)[5]? = some (_, .inr (7, _)) from rfl) rfl rfl hl.1 rfl (Nat.le_of_ble_eq_true rfl) dX7_close_49 ⟨Nat.le_of_ble_eq_true rfl, Nat.le_of_ble_eq_true rfl⟩ (fun t_11 H locs hR h => ?_)
      exact x_vret (w1 := (fun u : XT => (wX cI cJ cB cZ ad u))) t_11 B h hr hR dX7_close_52
  exact (main k) t _ _ s.heap [] ls hR hl h
set_option maxRecDepth 20000 in
theorem ggX7_above_X11_lowest : GoodIn wsX7_above wsX11_lowest := goodIn_r _ [6, 7, 8, 9, 10, 11, 12, 13] (by decide +kernel) (by decide +kernel)
set_option maxRecDepth 20000 in
theorem gX7_above_X11_lowest_n41 : GoodIn wsX7_above (wsX11_lowest) := ggX7_above_X11_lowest
def wbX7_above_0 (rec : Nat → XT → (Nat → Int32) → (Nat → Int64) → (Int32 → XT → Prop) → Prop) (k : Nat) (t : XT) (li : Nat → Int32) (lj : Nat → Int64) (Q : Int32 → XT → Prop) : Prop :=
  (vp_in (li 1) 64 ∧ (∀ v_1 : Int64, v_1 = (t.2.2.2 1) (li 1).toNatClampNeg → (∀ v_2 : Int64, v_2 = (v_1 &&& (t.2.1 3)) → (wqX11_lowest k v_2 (fun r_3 => Q r_3 t)))))
def wpX7_above : Nat → Nat → XT → (Nat → Int32) → (Nat → Int64) → (Int32 → XT → Prop) → Prop
  | 0, _, _, _, _, _ => False
  | k + 1, 0, t, li, lj, Q => wbX7_above_0 (wpX7_above k) k t li lj Q
  | _ + 1, _, _, _, _, _ => False
def wqX7_above (k : Nat) (t : XT) (a1 : Int32) (Q : Int32 → XT → Prop) : Prop := wpX7_above k 0 t (uI (fun _ => 0) 1 a1) (fun _ => 0) Q
set_option maxHeartbeats 8000000 in
set_option maxRecDepth 100000 in
theorem wkX7_above (l : Launch) (D : va_G) (cI cJ cB cZ : ClassId) (ad : Nat → Nat) (k : Nat) (t : XT) (a1 : Int32) (Q : Int32 → XT → Prop) (hR : wqX7_above k t a1 Q) : MetI l yX7_above wsX7_above 2 42 0 0 D (TYS cI cJ cB cZ) (wX cI cJ cB cZ ad t) [.ref (ad 5), .int a1] (fun r u => Q r u) (fun u : XT => (wX cI cJ cB cZ ad u)) := by
  refine x_startI (ty := .int) (cc := cX7_above) (by decide) rfl (Nat.le_of_ble_eq_true rfl) ?_
  intro p e s m args below meth c A ls B hr hnm h hl
  have hx := B.1.1
  have hb := B.1.2.1
  have hml := B.1.2.2.1
  have hts := B.1.2.2.2.2
  have hown : s.vm.findClass RX7 = some m.cls := B.1.2.2.2.1
  have hin7 : ∀ w ∈ u_ws RX7 TX7 3, w ∈ wsX7_above := by decide +kernel
  have hin9 : ∀ w ∈ u_ws RX9 TX9 7, w ∈ wsX7_above := by decide +kernel
  have main : ∀ k : Nat, (∀ (t : XT) (li : Nat → Int32) (lj : Nat → Int64) (H : Heap) (locs : List Loc) (ls : Array Slot), wpX7_above k 0 t li lj Q → lv_has ls 2 [(0, .ref (ad 5)), (1, .int (li 1))] → Hp D A s.heap (wX cI cJ cB cZ ad t) H locs → W p l e { frames := 2, cells := 0, slots := 0, locals := 42 } s m args below meth c H locs 0 0 (MQ below (va_Qi (fun r u => Q r u) (fun u t => xEnd D ((fun u : XT => (wX cI cJ cB cZ ad u)) u) A t) A) args s 0 0 A) (F0 m 0 ls [])) := by
    intro k
    induction k with
    | zero => exact fun _ _ _ _ _ _ hR => False.elim hR
    | succ k ih =>
      intro t li lj H locs ls hR hl h
      have hR : wbX7_above_0 (wpX7_above k) k t li lj Q := hR
      unfold wbX7_above_0 at hR
      refine lv_aload_n hx hb dX7_above_0 rfl (lv_at hl 0 rfl) ?_
      refine x_get (ci := 7) (C := RX7) (T := TX7) (N := 3) (v := .ref (ad 3)) B h hin7 5 0 rfl rfl (by decide) (by decide +kernel) rfl dX7_above_1 ?_
      refine x_get (ci := 9) (C := RX9) (T := TX9) (N := 7) (v := .ref (ad 18)) B h hin9 3 5 rfl rfl (by decide) (by decide +kernel) rfl dX7_above_4 ?_
      refine lv_iload_n hx hb dX7_above_7 rfl (lv_at hl 1 rfl) ?_
      obtain ⟨hb_1, hR⟩ := hR
      refine va_lald (f := (t.2.2.2 1)) hx hb B.2.1 h.1 18 1 rfl rfl hb_1 dX7_above_8 ?_
      refine lv_topl (fun v_1 ev_1 => ?_)
      have hR := hR v_1 ev_1
      refine lv_aload_n hx hb dX7_above_9 rfl (lv_at hl 0 rfl) ?_
      refine x_get (ci := 7) (C := RX7) (T := TX7) (N := 3) (v := .long (t.2.1 3)) B h hin7 5 1 rfl rfl (by decide) (by decide +kernel) rfl dX7_above_10 ?_
      refine lv_land hx hb dX7_above_13 ?_
      refine lv_topl (fun v_2 ev_2 => ?_)
      have hR := hR v_2 ev_2
      refine x_cNIE (n := 1) (As := [.long v_2]) (rest := []) B h (wkX11_lowest l D cI cJ cB cZ ad k v_2 _ hR) ⟨⟨_, rfl⟩, by decide +kernel, Nat.le_of_ble_eq_true rfl, Nat.le_of_ble_eq_true rfl⟩ gX7_above_X11_lowest_n41 (by decide +kernel) (by decide +kernel) (host := "MorseDesk") (by decide +kernel) rfl hl.1 rfl (Nat.le_of_ble_eq_true rfl) dX7_above_14 ⟨Nat.le_of_ble_eq_true rfl, Nat.le_of_ble_eq_true rfl⟩ (fun r_3 _ H locs hR h => ?_)
      exact x_iret (w1 := (fun u : XT => (wX cI cJ cB cZ ad u))) t B h hr rfl hR dX7_above_17
  exact (main k) t _ _ s.heap [] ls hR hl h
set_option maxRecDepth 20000 in
theorem ggX11_pairByPeeling_X7_begin : GoodIn wsX11_pairByPeeling wsX7_begin := goodIn_r _ [10, 11, 12, 13, 14, 15, 9, 16, 17, 18, 19, 20, 21, 22, 23, 24, 25, 26, 27, 28, 29, 30, 31, 32, 72, 73, 74, 75, 76, 77, 78, 79, 80, 81] (by decide +kernel) (by decide +kernel)
set_option maxRecDepth 20000 in
theorem gX11_pairByPeeling_X7_begin : GoodIn wsX11_pairByPeeling (wsV RX11 332 RX7 yX7_begin wsX7_begin) := goodIn_app (goodIn_of _ (by decide +kernel)) ggX11_pairByPeeling_X7_begin
set_option maxRecDepth 20000 in
theorem ggX11_pairByPeeling_X11_lowest : GoodIn wsX11_pairByPeeling wsX11_lowest := goodIn_r _ [22, 23, 24, 25, 26, 27, 28, 29] (by decide +kernel) (by decide +kernel)
set_option maxRecDepth 20000 in
theorem gX11_pairByPeeling_X11_lowest : GoodIn wsX11_pairByPeeling (va_wsS RX11 220 yX11_lowest wsX11_lowest) := goodIn_app (goodIn_of _ (by decide +kernel)) ggX11_pairByPeeling_X11_lowest
set_option maxRecDepth 20000 in
theorem ggX11_pairByPeeling_X7_above : GoodIn wsX11_pairByPeeling wsX7_above := goodIn_r _ [37, 17, 18, 11, 20, 21, 22, 23, 24, 25, 26, 27, 28, 29, 72, 73, 74, 75, 76, 77, 78, 79, 80, 81] (by decide +kernel) (by decide +kernel)
set_option maxRecDepth 20000 in
theorem gX11_pairByPeeling_X7_above : GoodIn wsX11_pairByPeeling (wsV RX11 341 RX7 yX7_above wsX7_above) := goodIn_app (goodIn_of _ (by decide +kernel)) ggX11_pairByPeeling_X7_above
set_option maxRecDepth 20000 in
theorem ggX11_pairByPeeling_X6_unite : GoodIn wsX11_pairByPeeling wsX6_unite := goodIn_r _ [42, 43, 44, 45, 46, 31, 21, 32, 66, 67, 68, 69, 70, 71] (by decide +kernel) (by decide +kernel)
set_option maxRecDepth 20000 in
theorem gX11_pairByPeeling_X6_unite : GoodIn wsX11_pairByPeeling (wsV RX11 183 RX6 yX6_unite wsX6_unite) := goodIn_app (goodIn_of _ (by decide +kernel)) ggX11_pairByPeeling_X6_unite
set_option maxRecDepth 20000 in
theorem ggX11_pairByPeeling_X7_close : GoodIn wsX11_pairByPeeling wsX7_close := goodIn_r _ [50, 11, 19, 12, 17, 51, 31, 21, 32, 13, 14, 15, 9, 16, 18, 20, 22, 23, 24, 25, 26, 27, 28, 29, 30, 72, 73, 74, 75, 76, 77, 78, 79, 80, 81] (by decide +kernel) (by decide +kernel)
set_option maxRecDepth 20000 in
theorem gX11_pairByPeeling_X7_close : GoodIn wsX11_pairByPeeling (wsV RX11 344 RX7 yX7_close wsX7_close) := goodIn_app (goodIn_of _ (by decide +kernel)) ggX11_pairByPeeling_X7_close
set_option maxRecDepth 20000 in
theorem ggX11_pairByPeeling_J13_bitCount_95d88 : GoodIn wsX11_pairByPeeling wsJ13_bitCount_95d88 := goodIn_r _ [26, 27, 28, 29] (by decide +kernel) (by decide +kernel)
set_option maxRecDepth 20000 in
theorem gX11_pairByPeeling_J13_bitCount_95d88 : GoodIn wsX11_pairByPeeling (va_wsS RX11 151 yJ13_bitCount_95d88 wsJ13_bitCount_95d88) := goodIn_app (goodIn_of _ (by decide +kernel)) ggX11_pairByPeeling_J13_bitCount_95d88
set_option maxRecDepth 20000 in
theorem ggX11_pairByPeeling_X11_nth : GoodIn wsX11_pairByPeeling wsX11_nth := goodIn_r _ [54, 33, 20, 21, 22, 23, 24, 25, 26, 27, 28, 29] (by decide +kernel) (by decide +kernel)
set_option maxRecDepth 20000 in
theorem gX11_pairByPeeling_X11_nth : GoodIn wsX11_pairByPeeling (va_wsS RX11 329 yX11_nth wsX11_nth) := goodIn_app (goodIn_of _ (by decide +kernel)) ggX11_pairByPeeling_X11_nth
def wbX11_pairByPeeling_0 (rec : Nat → XT → (Nat → Int32) → (Nat → Int64) → (XT → Prop) → Prop) (k : Nat) (t : XT) (li : Nat → Int32) (lj : Nat → Int64) (Q : XT → Prop) : Prop :=
  (wqX7_begin k t (t.2.1 0) (fun t_1 => rec 1 t_1 (uI li 1 0) lj Q))
def wbX11_pairByPeeling_1 (rec : Nat → XT → (Nat → Int32) → (Nat → Int64) → (XT → Prop) → Prop) (k : Nat) (t : XT) (li : Nat → Int32) (lj : Nat → Int64) (Q : XT → Prop) : Prop :=
  (((60 : Int32) ≤ (li 1)) → Q t) ∧ (¬ ((60 : Int32) ≤ (li 1)) → (∀ v_3 : Int32, v_3 = (lg_cmp (t.2.1 3) 0) → ((v_3 = 0) → Q t) ∧ (¬ (v_3 = 0) → (∀ v_5 : Int32, v_5 = (lg_cmp (t.2.1 4) 0) → ((v_5 = 0) → (wqJ13_bitCount_95d88 k (t.2.1 3) (fun r_7 => (∀ v_8 : Int32, v_8 = (r_7 - 1) → (wqX11_nth k (t.2.1 3) v_8 (fun r_9 => (wqX7_close k t r_9 (fun t_10 => rec 2 t_10 li lj Q)))))))) ∧ (¬ (v_5 = 0) → (wqX11_lowest k (t.2.1 4) (fun r_11 => (wqX7_above k t r_11 (fun r_12 t_12 => (wqX6_unite k t_12 r_11 r_12 (fun t_13 => (wqX7_close k t_13 r_12 (fun t_14 => (wqX7_close k t_14 r_11 (fun t_15 => rec 2 t_15 li lj Q)))))))))))))))
def wbX11_pairByPeeling_2 (rec : Nat → XT → (Nat → Int32) → (Nat → Int64) → (XT → Prop) → Prop) (k : Nat) (t : XT) (li : Nat → Int32) (lj : Nat → Int64) (Q : XT → Prop) : Prop :=
  (∀ v_16 : Int32, v_16 = (li 1) + Int32.ofInt 1 → rec 1 t (uI li 1 v_16) lj Q)
def wpX11_pairByPeeling : Nat → Nat → XT → (Nat → Int32) → (Nat → Int64) → (XT → Prop) → Prop
  | 0, _, _, _, _, _ => False
  | k + 1, 0, t, li, lj, Q => wbX11_pairByPeeling_0 (wpX11_pairByPeeling k) k t li lj Q
  | k + 1, 1, t, li, lj, Q => wbX11_pairByPeeling_1 (wpX11_pairByPeeling k) k t li lj Q
  | k + 1, 2, t, li, lj, Q => wbX11_pairByPeeling_2 (wpX11_pairByPeeling k) k t li lj Q
  | _ + 1, _, _, _, _, _ => False
def wqX11_pairByPeeling (k : Nat) (t : XT)  (Q : XT → Prop) : Prop := wpX11_pairByPeeling k 0 t (fun _ => 0) (fun _ => 0) Q
set_option maxHeartbeats 8000000 in
set_option maxRecDepth 100000 in
theorem wkX11_pairByPeeling (l : Launch) (D : va_G) (cI cJ cB cZ : ClassId) (ad : Nat → Nat) (k : Nat) (t : XT)  (Q : XT → Prop) (hR : wqX11_pairByPeeling k t  Q) : MetV l yX11_pairByPeeling wsX11_pairByPeeling 4 90 0 0 D (TYS cI cJ cB cZ) (wX cI cJ cB cZ ad t) [.ref (ad 0)] (fun u => Q u) (fun u : XT => (wX cI cJ cB cZ ad u)) := by
  refine x_startV (ty := .int) (cc := cX11_pairByPeeling) (by decide) rfl (Nat.le_of_ble_eq_true rfl) ?_
  intro p e s m args below meth c A ls B hr hnm h hl
  have hx := B.1.1
  have hb := B.1.2.1
  have hml := B.1.2.2.1
  have hts := B.1.2.2.2.2
  have hown : s.vm.findClass RX11 = some m.cls := B.1.2.2.2.1
  have hin6 : ∀ w ∈ u_ws RX6 TX6 6, w ∈ wsX11_pairByPeeling := by decide +kernel
  have hin7 : ∀ w ∈ u_ws RX7 TX7 3, w ∈ wsX11_pairByPeeling := by decide +kernel
  have hin11 : ∀ w ∈ u_ws RX11 TX11 11, w ∈ wsX11_pairByPeeling := by decide +kernel
  have main : ∀ k : Nat, (∀ (t : XT) (li : Nat → Int32) (lj : Nat → Int64) (H : Heap) (locs : List Loc) (ls : Array Slot), wpX11_pairByPeeling k 0 t li lj Q → lv_has ls 4 [(0, .ref (ad 0))] → Hp D A s.heap (wX cI cJ cB cZ ad t) H locs → W p l e { frames := 4, cells := 0, slots := 0, locals := 90 } s m args below meth c H locs 0 0 (MQ below (va_Qv (fun u => Q u) (fun u t => xEnd D ((fun u : XT => (wX cI cJ cB cZ ad u)) u) A t) A) args s 0 0 A) (F0 m 0 ls [])) ∧
      (∀ (t : XT) (li : Nat → Int32) (lj : Nat → Int64) (H : Heap) (locs : List Loc) (ls : Array Slot), wpX11_pairByPeeling k 1 t li lj Q → lv_has ls 4 [(0, .ref (ad 0)), (1, .int (li 1))] → Hp D A s.heap (wX cI cJ cB cZ ad t) H locs → W p l e { frames := 4, cells := 0, slots := 0, locals := 90 } s m args below meth c H locs 0 0 (MQ below (va_Qv (fun u => Q u) (fun u t => xEnd D ((fun u : XT => (wX cI cJ cB cZ ad u)) u) A t) A) args s 0 0 A) (F0 m 16 ls [])) ∧
      (∀ (t : XT) (li : Nat → Int32) (lj : Nat → Int64) (H : Heap) (locs : List Loc) (ls : Array Slot), wpX11_pairByPeeling k 2 t li lj Q → lv_has ls 4 [(0, .ref (ad 0)), (1, .int (li 1))] → Hp D A s.heap (wX cI cJ cB cZ ad t) H locs → W p l e { frames := 4, cells := 0, slots := 0, locals := 90 } s m args below meth c H locs 0 0 (MQ below (va_Qv (fun u => Q u) (fun u t => xEnd D ((fun u : XT => (wX cI cJ cB cZ ad u)) u) A t) A) args s 0 0 A) (F0 m 123 ls [])) := by
    intro k
    induction k with
    | zero => exact ⟨fun _ _ _ _ _ _ hR => False.elim hR, fun _ _ _ _ _ _ hR => False.elim hR, fun _ _ _ _ _ _ hR => False.elim hR⟩
    | succ k ih =>
      refine ⟨?_, ?_, ?_⟩
      · intro t li lj H locs ls hR hl h
        have hR : wbX11_pairByPeeling_0 (wpX11_pairByPeeling k) k t li lj Q := hR
        unfold wbX11_pairByPeeling_0 at hR
        refine lv_aload_n hx hb dX11_pairByPeeling_0 rfl (lv_at hl 0 rfl) ?_
        refine x_get (ci := 11) (C := RX11) (T := TX11) (N := 11) (v := .ref (ad 5)) B h hin11 0 4 rfl rfl (by decide) (by decide +kernel) rfl dX11_pairByPeeling_1 ?_
        refine lv_aload_n hx hb dX11_pairByPeeling_4 rfl (lv_at hl 0 rfl) ?_
        refine x_get (ci := 11) (C := RX11) (T := TX11) (N := 11) (v := .ref (ad 4)) B h hin11 0 3 rfl rfl (by decide) (by decide +kernel) rfl dX11_pairByPeeling_5 ?_
        refine x_get (ci := 6) (C := RX6) (T := TX6) (N := 6) (v := .long (t.2.1 0)) B h hin6 4 2 rfl rfl (by decide) (by decide +kernel) rfl dX11_pairByPeeling_8 ?_
        refine x_cVVF (n := 1) (As := [.long (t.2.1 0)]) (rest := []) B h (wkX7_begin l D cI cJ cB cZ ad k t (t.2.1 0) _ hR) ⟨⟨_, rfl⟩, by decide +kernel, Nat.le_of_ble_eq_true rfl, Nat.le_of_ble_eq_true rfl⟩ gX11_pairByPeeling_X7_begin (show ((wX cI cJ cB cZ ad t) : va_W)[5]? = some (_, .inr (7, _)) from rfl) rfl rfl hl.1 rfl (Nat.le_of_ble_eq_true rfl) dX11_pairByPeeling_11 ⟨Nat.le_of_ble_eq_true rfl, Nat.le_of_ble_eq_true rfl⟩ (fun t_1 H locs hR h => ?_)
        refine lv_iconst (v := 0) hx hb dX11_pairByPeeling_14 (by decide) ?_
        refine lv_istore_n (lv' := [(1, .int 0), (0, .ref (ad 0))]) hx hb dX11_pairByPeeling_15 rfl hl (by decide) rfl (fun ls hl => ?_)
        exact ih.2.1 t_1 (uI li 1 0) lj H locs ls hR (lv_sub hl [1, 0] rfl) h
      · intro t li lj H locs ls hR hl h
        have hR : wbX11_pairByPeeling_1 (wpX11_pairByPeeling k) k t li lj Q := hR
        unfold wbX11_pairByPeeling_1 at hR
        refine lv_iload_n hx hb dX11_pairByPeeling_16 rfl (lv_at hl 1 rfl) ?_
        refine lv_bipush (v := 60) hx hb dX11_pairByPeeling_17 (by decide) ?_
        refine lv_icmp_ge (tgt := 129) hx hb dX11_pairByPeeling_19 (by decide) (fun c_2 => ?_) (fun c_2 => ?_)
        · have hR := hR.1 c_2
          exact x_vret (w1 := (fun u : XT => (wX cI cJ cB cZ ad u))) t B h hr hR dX11_pairByPeeling_129
        · have hR := hR.2 c_2
          refine lv_aload_n hx hb dX11_pairByPeeling_22 rfl (lv_at hl 0 rfl) ?_
          refine x_get (ci := 11) (C := RX11) (T := TX11) (N := 11) (v := .ref (ad 5)) B h hin11 0 4 rfl rfl (by decide) (by decide +kernel) rfl dX11_pairByPeeling_23 ?_
          refine x_get (ci := 7) (C := RX7) (T := TX7) (N := 3) (v := .long (t.2.1 3)) B h hin7 5 1 rfl rfl (by decide) (by decide +kernel) rfl dX11_pairByPeeling_26 ?_
          refine lv_lconst (v := 0) hx hb dX11_pairByPeeling_29 (by decide) ?_
          refine W.lcmp hx hb dX11_pairByPeeling_30 ?_
          refine lv_topi (fun v_3 ev_3 => ?_)
          have hR := hR v_3 ev_3
          refine lv_if_eq (tgt := 129) hx hb dX11_pairByPeeling_31 (by decide) (fun c_4 => ?_) (fun c_4 => ?_)
          · have hR := hR.1 c_4
            exact x_vret (w1 := (fun u : XT => (wX cI cJ cB cZ ad u))) t B h hr hR dX11_pairByPeeling_129
          · have hR := hR.2 c_4
            refine lv_aload_n hx hb dX11_pairByPeeling_34 rfl (lv_at hl 0 rfl) ?_
            refine x_get (ci := 11) (C := RX11) (T := TX11) (N := 11) (v := .ref (ad 5)) B h hin11 0 4 rfl rfl (by decide) (by decide +kernel) rfl dX11_pairByPeeling_35 ?_
            refine x_get (ci := 7) (C := RX7) (T := TX7) (N := 3) (v := .long (t.2.1 4)) B h hin7 5 2 rfl rfl (by decide) (by decide +kernel) rfl dX11_pairByPeeling_38 ?_
            refine lv_lconst (v := 0) hx hb dX11_pairByPeeling_41 (by decide) ?_
            refine W.lcmp hx hb dX11_pairByPeeling_42 ?_
            refine lv_topi (fun v_5 ev_5 => ?_)
            have hR := hR v_5 ev_5
            refine lv_if_eq (tgt := 94) hx hb dX11_pairByPeeling_43 (by decide) (fun c_6 => ?_) (fun c_6 => ?_)
            · have hR := hR.1 c_6
              refine lv_aload_n hx hb dX11_pairByPeeling_94 rfl (lv_at hl 0 rfl) ?_
              refine x_get (ci := 11) (C := RX11) (T := TX11) (N := 11) (v := .ref (ad 5)) B h hin11 0 4 rfl rfl (by decide) (by decide +kernel) rfl dX11_pairByPeeling_95 ?_
              refine lv_aload_n hx hb dX11_pairByPeeling_98 rfl (lv_at hl 0 rfl) ?_
              refine x_get (ci := 11) (C := RX11) (T := TX11) (N := 11) (v := .ref (ad 5)) B h hin11 0 4 rfl rfl (by decide) (by decide +kernel) rfl dX11_pairByPeeling_99 ?_
              refine x_get (ci := 7) (C := RX7) (T := TX7) (N := 3) (v := .long (t.2.1 3)) B h hin7 5 1 rfl rfl (by decide) (by decide +kernel) rfl dX11_pairByPeeling_102 ?_
              refine lv_aload_n hx hb dX11_pairByPeeling_105 rfl (lv_at hl 0 rfl) ?_
              refine x_get (ci := 11) (C := RX11) (T := TX11) (N := 11) (v := .ref (ad 5)) B h hin11 0 4 rfl rfl (by decide) (by decide +kernel) rfl dX11_pairByPeeling_106 ?_
              refine x_get (ci := 7) (C := RX7) (T := TX7) (N := 3) (v := .long (t.2.1 3)) B h hin7 5 1 rfl rfl (by decide) (by decide +kernel) rfl dX11_pairByPeeling_109 ?_
              refine x_cSIE (n := 1) (As := [.long (t.2.1 3)]) (rest := [.long (t.2.1 3), .ref (ad 5)]) B h (wkJ13_bitCount_95d88 l D cI cJ cB cZ ad k (t.2.1 3) _ hR) ⟨⟨_, rfl⟩, by decide +kernel, Nat.le_of_ble_eq_true rfl, Nat.le_of_ble_eq_true rfl⟩ gX11_pairByPeeling_J13_bitCount_95d88 rfl hl.1 rfl (Nat.le_of_ble_eq_true rfl) dX11_pairByPeeling_112 ⟨Nat.le_of_ble_eq_true rfl, Nat.le_of_ble_eq_true rfl⟩ (fun r_7 _ H locs hR h => ?_)
              refine lv_iconst (v := 1) hx hb dX11_pairByPeeling_115 (by decide) ?_
              refine lv_isub hx hb dX11_pairByPeeling_116 ?_
              refine lv_topi (fun v_8 ev_8 => ?_)
              have hR := hR v_8 ev_8
              refine x_cSIE (n := 2) (As := [.long (t.2.1 3), .int v_8]) (rest := [.ref (ad 5)]) B h (wkX11_nth l D cI cJ cB cZ ad k (t.2.1 3) v_8 _ hR) ⟨⟨_, rfl⟩, by decide +kernel, Nat.le_of_ble_eq_true rfl, Nat.le_of_ble_eq_true rfl⟩ gX11_pairByPeeling_X11_nth rfl hl.1 rfl (Nat.le_of_ble_eq_true rfl) dX11_pairByPeeling_117 ⟨Nat.le_of_ble_eq_true rfl, Nat.le_of_ble_eq_true rfl⟩ (fun r_9 _ H locs hR h => ?_)
              refine x_cVVF (n := 1) (As := [.int r_9]) (rest := []) B h (wkX7_close l D cI cJ cB cZ ad k t r_9 _ hR) ⟨⟨_, rfl⟩, by decide +kernel, Nat.le_of_ble_eq_true rfl, Nat.le_of_ble_eq_true rfl⟩ gX11_pairByPeeling_X7_close (show ((wX cI cJ cB cZ ad t) : va_W)[5]? = some (_, .inr (7, _)) from rfl) rfl rfl hl.1 rfl (Nat.le_of_ble_eq_true rfl) dX11_pairByPeeling_120 ⟨Nat.le_of_ble_eq_true rfl, Nat.le_of_ble_eq_true rfl⟩ (fun t_10 H locs hR h => ?_)
              exact ih.2.2 t_10 li lj H locs ls hR (lv_sub hl [0, 1] rfl) h
            · have hR := hR.2 c_6
              refine lv_aload_n hx hb dX11_pairByPeeling_46 rfl (lv_at hl 0 rfl) ?_
              refine x_get (ci := 11) (C := RX11) (T := TX11) (N := 11) (v := .ref (ad 5)) B h hin11 0 4 rfl rfl (by decide) (by decide +kernel) rfl dX11_pairByPeeling_47 ?_
              refine x_get (ci := 7) (C := RX7) (T := TX7) (N := 3) (v := .long (t.2.1 4)) B h hin7 5 2 rfl rfl (by decide) (by decide +kernel) rfl dX11_pairByPeeling_50 ?_
              refine x_cSIE (n := 1) (As := [.long (t.2.1 4)]) (rest := []) B h (wkX11_lowest l D cI cJ cB cZ ad k (t.2.1 4) _ hR) ⟨⟨_, rfl⟩, by decide +kernel, Nat.le_of_ble_eq_true rfl, Nat.le_of_ble_eq_true rfl⟩ gX11_pairByPeeling_X11_lowest rfl hl.1 rfl (Nat.le_of_ble_eq_true rfl) dX11_pairByPeeling_53 ⟨Nat.le_of_ble_eq_true rfl, Nat.le_of_ble_eq_true rfl⟩ (fun r_11 _ H locs hR h => ?_)
              refine lv_istore_n (lv' := [(2, .int r_11), (0, .ref (ad 0)), (1, .int (li 1))]) hx hb dX11_pairByPeeling_56 rfl hl (by decide) rfl (fun ls hl => ?_)
              refine lv_aload_n hx hb dX11_pairByPeeling_57 rfl (lv_at hl 1 rfl) ?_
              refine x_get (ci := 11) (C := RX11) (T := TX11) (N := 11) (v := .ref (ad 5)) B h hin11 0 4 rfl rfl (by decide) (by decide +kernel) rfl dX11_pairByPeeling_58 ?_
              refine lv_iload_n hx hb dX11_pairByPeeling_61 rfl (lv_at hl 0 rfl) ?_
              refine x_cVIF (n := 1) (As := [.int r_11]) (rest := []) B h (wkX7_above l D cI cJ cB cZ ad k t r_11 _ hR) ⟨⟨_, rfl⟩, by decide +kernel, Nat.le_of_ble_eq_true rfl, Nat.le_of_ble_eq_true rfl⟩ gX11_pairByPeeling_X7_above (show ((wX cI cJ cB cZ ad t) : va_W)[5]? = some (_, .inr (7, _)) from rfl) rfl rfl hl.1 rfl (Nat.le_of_ble_eq_true rfl) dX11_pairByPeeling_62 ⟨Nat.le_of_ble_eq_true rfl, Nat.le_of_ble_eq_true rfl⟩ (fun r_12 t_12 H locs hR h => ?_)
              refine lv_istore_n (lv' := [(3, .int r_12), (2, .int r_11), (0, .ref (ad 0)), (1, .int (li 1))]) hx hb dX11_pairByPeeling_65 rfl hl (by decide) rfl (fun ls hl => ?_)
              refine lv_aload_n hx hb dX11_pairByPeeling_66 rfl (lv_at hl 2 rfl) ?_
              refine x_get (ci := 11) (C := RX11) (T := TX11) (N := 11) (v := .ref (ad 4)) B h hin11 0 3 rfl rfl (by decide) (by decide +kernel) rfl dX11_pairByPeeling_67 ?_
              refine lv_iload_n hx hb dX11_pairByPeeling_70 rfl (lv_at hl 1 rfl) ?_
              refine lv_iload_n hx hb dX11_pairByPeeling_71 rfl (lv_at hl 0 rfl) ?_
              refine x_cVVF (n := 2) (As := [.int r_11, .int r_12]) (rest := []) B h (wkX6_unite l D cI cJ cB cZ ad k t_12 r_11 r_12 _ hR) ⟨⟨_, rfl⟩, by decide +kernel, Nat.le_of_ble_eq_true rfl, Nat.le_of_ble_eq_true rfl⟩ gX11_pairByPeeling_X6_unite (show ((wX cI cJ cB cZ ad t_12) : va_W)[4]? = some (_, .inr (6, _)) from rfl) rfl rfl hl.1 rfl (Nat.le_of_ble_eq_true rfl) dX11_pairByPeeling_72 ⟨Nat.le_of_ble_eq_true rfl, Nat.le_of_ble_eq_true rfl⟩ (fun t_13 H locs hR h => ?_)
              refine lv_aload_n hx hb dX11_pairByPeeling_75 rfl (lv_at hl 2 rfl) ?_
              refine x_get (ci := 11) (C := RX11) (T := TX11) (N := 11) (v := .ref (ad 5)) B h hin11 0 4 rfl rfl (by decide) (by decide +kernel) rfl dX11_pairByPeeling_76 ?_
              refine lv_iload_n hx hb dX11_pairByPeeling_79 rfl (lv_at hl 0 rfl) ?_
              refine x_cVVF (n := 1) (As := [.int r_12]) (rest := []) B h (wkX7_close l D cI cJ cB cZ ad k t_13 r_12 _ hR) ⟨⟨_, rfl⟩, by decide +kernel, Nat.le_of_ble_eq_true rfl, Nat.le_of_ble_eq_true rfl⟩ gX11_pairByPeeling_X7_close (show ((wX cI cJ cB cZ ad t_13) : va_W)[5]? = some (_, .inr (7, _)) from rfl) rfl rfl hl.1 rfl (Nat.le_of_ble_eq_true rfl) dX11_pairByPeeling_80 ⟨Nat.le_of_ble_eq_true rfl, Nat.le_of_ble_eq_true rfl⟩ (fun t_14 H locs hR h => ?_)
              refine lv_aload_n hx hb dX11_pairByPeeling_83 rfl (lv_at hl 2 rfl) ?_
              refine x_get (ci := 11) (C := RX11) (T := TX11) (N := 11) (v := .ref (ad 5)) B h hin11 0 4 rfl rfl (by decide) (by decide +kernel) rfl dX11_pairByPeeling_84 ?_
              refine lv_iload_n hx hb dX11_pairByPeeling_87 rfl (lv_at hl 1 rfl) ?_
              refine x_cVVF (n := 1) (As := [.int r_11]) (rest := []) B h (wkX7_close l D cI cJ cB cZ ad k t_14 r_11 _ hR) ⟨⟨_, rfl⟩, by decide +kernel, Nat.le_of_ble_eq_true rfl, Nat.le_of_ble_eq_true rfl⟩ gX11_pairByPeeling_X7_close (show ((wX cI cJ cB cZ ad t_14) : va_W)[5]? = some (_, .inr (7, _)) from rfl) rfl rfl hl.1 rfl (Nat.le_of_ble_eq_true rfl) dX11_pairByPeeling_88 ⟨Nat.le_of_ble_eq_true rfl, Nat.le_of_ble_eq_true rfl⟩ (fun t_15 H locs hR h => ?_)
              refine lv_goto (tgt := 123) hx hb dX11_pairByPeeling_91 (by decide) ?_
              exact ih.2.2 t_15 li lj H locs ls hR (lv_sub hl [2, 3] rfl) h
      · intro t li lj H locs ls hR hl h
        have hR : wbX11_pairByPeeling_2 (wpX11_pairByPeeling k) k t li lj Q := hR
        unfold wbX11_pairByPeeling_2 at hR
        obtain ⟨v_16, ev_16⟩ : ∃ v : Int32, v = (li 1) + Int32.ofInt 1 := ⟨_, rfl⟩
        have hR := hR v_16 ev_16
        refine lv_iinc (v := v_16) (lv' := [(1, .int v_16), (0, .ref (ad 0))]) hx hb dX11_pairByPeeling_123 hl (k := 1) rfl ev_16.symm (by decide) rfl (fun ls hl => ?_)
        refine lv_goto (tgt := 16) hx hb dX11_pairByPeeling_126 (by decide) ?_
        exact ih.2.1 t (uI li 1 v_16) lj H locs ls hR (lv_sub hl [1, 0] rfl) h
  exact (main k).1 t _ _ s.heap [] ls hR hl h
