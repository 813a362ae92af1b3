set_option maxRecDepth 20000 in
theorem ggX9_all_X11_bit : GoodIn wsX9_all wsX11_bit := goodIn_r _ [4] (by decide +kernel) (by decide +kernel)
set_option maxRecDepth 20000 in
theorem gX9_all_X11_bit_n41 : GoodIn wsX9_all (wsX11_bit) := ggX9_all_X11_bit
def wbX9_all_0 (rec : Nat → XT → (Nat → Int32) → (Nat → Int64) → (Int64 → XT → Prop) → Prop) (k : Nat) (t : XT) (li : Nat → Int32) (lj : Nat → Int64) (Q : Int64 → XT → Prop) : Prop :=
  (wqX11_bit k (t.1 4) (fun r_1 => (∀ v_2 : Int64, v_2 = (r_1 - 1) → Q v_2 t)))
def wpX9_all : Nat → Nat → XT → (Nat → Int32) → (Nat → Int64) → (Int64 → XT → Prop) → Prop
  | 0, _, _, _, _, _ => False
  | k + 1, 0, t, li, lj, Q => wbX9_all_0 (wpX9_all k) k t li lj Q
  | _ + 1, _, _, _, _, _ => False
def wqX9_all (k : Nat) (t : XT)  (Q : Int64 → XT → Prop) : Prop := wpX9_all k 0 t (fun _ => 0) (fun _ => 0) Q
set_option maxHeartbeats 8000000 in
set_option maxRecDepth 100000 in
theorem wkX9_all (l : Launch) (D : va_G) (cI cJ cB cZ : ClassId) (ad : Nat → Nat) (k : Nat) (t : XT)  (Q : Int64 → XT → Prop) (hR : wqX9_all k t  Q) : MetL l yX9_all wsX9_all 1 20 0 0 D (TYS cI cJ cB cZ) (wX cI cJ cB cZ ad t) [.ref (ad 3)] (fun r u => Q r u) (fun u : XT => (wX cI cJ cB cZ ad u)) := by
  refine x_startL (ty := .long) (cc := cX9_all) (by decide) rfl (Nat.le_of_ble_eq_true rfl) ?_
  intro p e s m args below meth c A ls B hr hnm h hl
  have hx := B.1.1
  have hb := B.1.2.1
  have hml := B.1.2.2.1
  have hts := B.1.2.2.2.2
  have hown : s.vm.findClass RX9 = some m.cls := B.1.2.2.2.1
  have hin9 : ∀ w ∈ u_ws RX9 TX9 7, w ∈ wsX9_all := by decide +kernel
  have main : ∀ k : Nat, (∀ (t : XT) (li : Nat → Int32) (lj : Nat → Int64) (H : Heap) (locs : List Loc) (ls : Array Slot), wpX9_all k 0 t li lj Q → lv_has ls 1 [(0, .ref (ad 3))] → Hp D A s.heap (wX cI cJ cB cZ ad t) H locs → W p l e { frames := 1, cells := 0, slots := 0, locals := 20 } s m args below meth c H locs 0 0 (MQ below (va_Ql (fun r u => Q r u) (fun u t => xEnd D ((fun u : XT => (wX cI cJ cB cZ ad u)) u) A t) A) args s 0 0 A) (F0 m 0 ls [])) := by
    intro k
    induction k with
    | zero => exact fun _ _ _ _ _ _ hR => False.elim hR
    | succ k ih =>
      intro t li lj H locs ls hR hl h
      have hR : wbX9_all_0 (wpX9_all k) k t li lj Q := hR
      unfold wbX9_all_0 at hR
      refine lv_aload_n hx hb dX9_all_0 rfl (lv_at hl 0 rfl) ?_
      refine x_get (ci := 9) (C := RX9) (T := TX9) (N := 7) (v := .int (t.1 4)) B h hin9 3 0 rfl rfl (by decide) (by decide +kernel) rfl dX9_all_1 ?_
      refine x_cNLE (n := 1) (As := [.int (t.1 4)]) (rest := []) B h (wkX11_bit l D cI cJ cB cZ ad k (t.1 4) _ hR) ⟨⟨_, rfl⟩, by decide +kernel, Nat.le_of_ble_eq_true rfl, Nat.le_of_ble_eq_true rfl⟩ gX9_all_X11_bit_n41 (by decide +kernel) (by decide +kernel) (host := "MorseDesk") (by decide +kernel) rfl hl.1 rfl (Nat.le_of_ble_eq_true rfl) dX9_all_4 ⟨Nat.le_of_ble_eq_true rfl, Nat.le_of_ble_eq_true rfl⟩ (fun r_1 _ H locs hR h => ?_)
      refine lv_lconst (v := 1) hx hb dX9_all_7 (by decide) ?_
      refine lv_lsub hx hb dX9_all_8 ?_
      refine lv_topl (fun v_2 ev_2 => ?_)
      have hR := hR v_2 ev_2
      exact x_lret (w1 := (fun u : XT => (wX cI cJ cB cZ ad u))) t B h hr hR dX9_all_9
  exact (main k) t _ _ s.heap [] ls hR hl h
set_option maxRecDepth 20000 in
theorem ggX6_restart_J7_fill_53178 : GoodIn wsX6_restart wsJ7_fill_53178 := goodIn_r _ [9] (by decide +kernel) (by decide +kernel)
set_option maxRecDepth 20000 in
theorem gX6_restart_J7_fill_53178 : GoodIn wsX6_restart (va_wsS RX6 19 yJ7_fill_53178 wsJ7_fill_53178) := goodIn_app (goodIn_of _ (by decide +kernel)) ggX6_restart_J7_fill_53178
def wbX6_restart_0 (rec : Nat → XT → (Nat → Int32) → (Nat → Int64) → (XT → Prop) → Prop) (k : Nat) (t : XT) (li : Nat → Int32) (lj : Nat → Int64) (Q : XT → Prop) : Prop :=
  (∀ t_1 : XT, t_1 = sA t 5 (fun _ => (-1)) → (∀ t_2 : XT, t_2 = sJ t_1 0 (lj 1) → (∀ t_3 : XT, t_3 = sJ t_2 1 0 → (∀ t_4 : XT, t_4 = sJ t_3 2 0 → (∀ v_5 : Int32, v_5 = ((t_4.1 5) + 1) → (∀ t_6 : XT, t_6 = sI t_4 5 v_5 → Q t_6))))))
def wpX6_restart : Nat → Nat → XT → (Nat → Int32) → (Nat → Int64) → (XT → Prop) → Prop
  | 0, _, _, _, _, _ => False
  | k + 1, 0, t, li, lj, Q => wbX6_restart_0 (wpX6_restart k) k t li lj Q
  | _ + 1, _, _, _, _, _ => False
def wqX6_restart (k : Nat) (t : XT) (a1 : Int64) (Q : XT → Prop) : Prop := wpX6_restart k 0 t (fun _ => 0) (uI (fun _ => 0) 1 a1) Q
set_option maxHeartbeats 8000000 in
set_option maxRecDepth 100000 in
theorem wkX6_restart (l : Launch) (D : va_G) (cI cJ cB cZ : ClassId) (ad : Nat → Nat) (k : Nat) (t : XT) (a1 : Int64) (Q : XT → Prop) (hR : wqX6_restart k t a1 Q) : MetV l yX6_restart wsX6_restart 1 23 0 0 D (TYS cI cJ cB cZ) (wX cI cJ cB cZ ad t) [.ref (ad 4), .long a1] (fun u => Q u) (fun u : XT => (wX cI cJ cB cZ ad u)) := by
  refine x_startV (ty := .int) (cc := cX6_restart) (by decide) rfl (Nat.le_of_ble_eq_true rfl) ?_
  intro p e s m args below meth c A ls B hr hnm h hl
  have hx := B.1.1
  have hb := B.1.2.1
  have hml := B.1.2.2.1
  have hts := B.1.2.2.2.2
  have hown : s.vm.findClass RX6 = some m.cls := B.1.2.2.2.1
  have hin6 : ∀ w ∈ u_ws RX6 TX6 6, w ∈ wsX6_restart := by decide +kernel
  have main : ∀ k : Nat, (∀ (t : XT) (li : Nat → Int32) (lj : Nat → Int64) (H : Heap) (locs : List Loc) (ls : Array Slot), wpX6_restart k 0 t li lj Q → lv_has ls 3 [(0, .ref (ad 4)), (1, .long (lj 1))] → Hp D A s.heap (wX cI cJ cB cZ ad t) H locs → W p l e { frames := 1, cells := 0, slots := 0, locals := 23 } s m args below meth c H locs 0 0 (MQ below (va_Qv (fun u => Q u) (fun u t => xEnd D ((fun u : XT => (wX cI cJ cB cZ ad u)) u) A t) A) args s 0 0 A) (F0 m 0 ls [])) := by
    intro k
    induction k with
    | zero => exact fun _ _ _ _ _ _ hR => False.elim hR
    | succ k ih =>
      intro t li lj H locs ls hR hl h
      have hR : wbX6_restart_0 (wpX6_restart k) k t li lj Q := hR
      unfold wbX6_restart_0 at hR
      refine lv_aload_n hx hb dX6_restart_0 rfl (lv_at hl 0 rfl) ?_
      refine x_get (ci := 6) (C := RX6) (T := TX6) (N := 6) (v := .ref (ad 20)) B h hin6 4 1 rfl rfl (by decide) (by decide +kernel) rfl dX6_restart_1 ?_
      refine lv_iconst (v := (-1)) hx hb dX6_restart_4 (by decide) ?_
      refine x_cSV (n := 2) (pre := ((wX cI cJ cB cZ ad t) : va_W).take 20) (post := ((wX cI cJ cB cZ ad t) : va_W).drop 21) (wc := [((ad 20), .inl (cI, 64, .inl (t.2.2.1 5)))]) (As := [.ref (ad 20), .int (-1)]) (rest := []) B h (c_fillI l D (TYS cI cJ cB cZ) cI 0 rfl (ad 20) 64 (by decide) (t.2.2.1 5) (-1)) ⟨⟨_, rfl⟩, by decide +kernel, Nat.le_of_ble_eq_true rfl, Nat.le_of_ble_eq_true rfl⟩ gX6_restart_J7_fill_53178 rfl hl.1 rfl (Nat.le_of_ble_eq_true rfl) dX6_restart_5 ⟨Nat.le_of_ble_eq_true rfl, Nat.le_of_ble_eq_true rfl⟩ (fun _ H locs _ h => ?_)
      obtain ⟨t_1, et_1⟩ : ∃ v : XT, v = sA t 5 (fun _ => (-1)) := ⟨_, rfl⟩
      have hR := hR t_1 et_1
      have h : Hp D A s.heap (wX cI cJ cB cZ ad t_1) H locs := by rw [et_1]; exact h
      refine lv_aload_n hx hb dX6_restart_8 rfl (lv_at hl 0 rfl) ?_
      refine lv_lload_n hx hb dX6_restart_9 rfl (lv_at hl 1 rfl) ?_
      refine x_put (ci := 6) (C := RX6) (T := TX6) (N := 6) (v := .long (lj 1)) (ty := .long) B h hin6 tyX6 tyX6_ok nmX6 4 2 rfl rfl (by decide) (by decide +kernel) rfl rfl rfl rfl (Nat.le_of_ble_eq_true rfl) dX6_restart_10 (fun H locs h => ?_)
      obtain ⟨t_2, et_2⟩ : ∃ v : XT, v = sJ t_1 0 (lj 1) := ⟨_, rfl⟩
      have hR := hR t_2 et_2
      have h : Hp D A s.heap (wX cI cJ cB cZ ad t_2) H locs := by rw [et_2]; exact h
      refine lv_aload_n hx hb dX6_restart_13 rfl (lv_at hl 0 rfl) ?_
      refine lv_lconst (v := 0) hx hb dX6_restart_14 (by decide) ?_
      refine x_put (ci := 6) (C := RX6) (T := TX6) (N := 6) (v := .long 0) (ty := .long) B h hin6 tyX6 tyX6_ok nmX6 4 3 rfl rfl (by decide) (by decide +kernel) rfl rfl rfl rfl (Nat.le_of_ble_eq_true rfl) dX6_restart_15 (fun H locs h => ?_)
      obtain ⟨t_3, et_3⟩ : ∃ v : XT, v = sJ t_2 1 0 := ⟨_, rfl⟩
      have hR := hR t_3 et_3
      have h : Hp D A s.heap (wX cI cJ cB cZ ad t_3) H locs := by rw [et_3]; exact h
      refine lv_aload_n hx hb dX6_restart_18 rfl (lv_at hl 0 rfl) ?_
      refine lv_lconst (v := 0) hx hb dX6_restart_19 (by decide) ?_
      refine x_put (ci := 6) (C := RX6) (T := TX6) (N := 6) (v := .long 0) (ty := .long) B h hin6 tyX6 tyX6_ok nmX6 4 4 rfl rfl (by decide) (by decide +kernel) rfl rfl rfl rfl (Nat.le_of_ble_eq_true rfl) dX6_restart_20 (fun H locs h => ?_)
      obtain ⟨t_4, et_4⟩ : ∃ v : XT, v = sJ t_3 2 0 := ⟨_, rfl⟩
      have hR := hR t_4 et_4
      have h : Hp D A s.heap (wX cI cJ cB cZ ad t_4) H locs := by rw [et_4]; exact h
      refine lv_aload_n hx hb dX6_restart_23 rfl (lv_at hl 0 rfl) ?_
      refine lv_dup hx hb dX6_restart_24 rfl ?_
      refine x_get (ci := 6) (C := RX6) (T := TX6) (N := 6) (v := .int (t_4.1 5)) B h hin6 4 5 rfl rfl (by decide) (by decide +kernel) rfl dX6_restart_25 ?_
      refine lv_iconst (v := 1) hx hb dX6_restart_28 (by decide) ?_
      refine lv_iadd hx hb dX6_restart_29 ?_
      refine lv_topi (fun v_5 ev_5 => ?_)
      have hR := hR v_5 ev_5
      refine x_put (ci := 6) (C := RX6) (T := TX6) (N := 6) (v := .int v_5) (ty := .int) B h hin6 tyX6 tyX6_ok nmX6 4 5 rfl rfl (by decide) (by decide +kernel) rfl rfl rfl rfl (Nat.le_of_ble_eq_true rfl) dX6_restart_30 (fun H locs h => ?_)
      obtain ⟨t_6, et_6⟩ : ∃ v : XT, v = sI t_4 5 v_5 := ⟨_, rfl⟩
      have hR := hR t_6 et_6
      have h : Hp D A s.heap (wX cI cJ cB cZ ad t_6) H locs := by rw [et_6]; exact h
      exact x_vret (w1 := (fun u : XT => (wX cI cJ cB cZ ad u))) t_6 B h hr hR dX6_restart_33
  exact (main k) t _ _ s.heap [] ls hR hl h
def wbX4_forget_0 (rec : Nat → XT → (Nat → Int32) → (Nat → Int64) → (XT → Prop) → Prop) (k : Nat) (t : XT) (li : Nat → Int32) (lj : Nat → Int64) (Q : XT → Prop) : Prop :=
  (∀ t_1 : XT, t_1 = sJ t 6 0 → Q t_1)
def wpX4_forget : Nat → Nat → XT → (Nat → Int32) → (Nat → Int64) → (XT → Prop) → Prop
  | 0, _, _, _, _, _ => False
  | k + 1, 0, t, li, lj, Q => wbX4_forget_0 (wpX4_forget k) k t li lj Q
  | _ + 1, _, _, _, _, _ => False
def wqX4_forget (k : Nat) (t : XT)  (Q : XT → Prop) : Prop := wpX4_forget k 0 t (fun _ => 0) (fun _ => 0) Q
set_option maxHeartbeats 8000000 in
set_option maxRecDepth 100000 in
theorem wkX4_forget (l : Launch) (D : va_G) (cI cJ cB cZ : ClassId) (ad : Nat → Nat) (k : Nat) (t : XT)  (Q : XT → Prop) (hR : wqX4_forget k t  Q) : MetV l yX4_forget wsX4_forget 0 0 0 0 D (TYS cI cJ cB cZ) (wX cI cJ cB cZ ad t) [.ref (ad 10)] (fun u => Q u) (fun u : XT => (wX cI cJ cB cZ ad u)) := by
  refine x_startV (ty := .int) (cc := cX4_forget) (by decide) rfl (Nat.le_of_ble_eq_true rfl) ?_
  intro p e s m args below meth c A ls B hr hnm h hl
  have hx := B.1.1
  have hb := B.1.2.1
  have hml := B.1.2.2.1
  have hts := B.1.2.2.2.2
  have hown : s.vm.findClass RX4 = some m.cls := B.1.2.2.2.1
  have hin4 : ∀ w ∈ u_ws RX4 TX4 2, w ∈ wsX4_forget := by decide +kernel
  have main : ∀ k : Nat, (∀ (t : XT) (li : Nat → Int32) (lj : Nat → Int64) (H : Heap) (locs : List Loc) (ls : Array Slot), wpX4_forget k 0 t li lj Q → lv_has ls 1 [(0, .ref (ad 10))] → Hp D A s.heap (wX cI cJ cB cZ ad t) H locs → W p l e { frames := 0, cells := 0, slots := 0, locals := 0 } s m args below meth c H locs 0 0 (MQ below (va_Qv (fun u => Q u) (fun u t => xEnd D ((fun u : XT => (wX cI cJ cB cZ ad u)) u) A t) A) args s 0 0 A) (F0 m 0 ls [])) := by
    intro k
    induction k with
    | zero => exact fun _ _ _ _ _ _ hR => False.elim hR
    | succ k ih =>
      intro t li lj H locs ls hR hl h
      have hR : wbX4_forget_0 (wpX4_forget k) k t li lj Q := hR
      unfold wbX4_forget_0 at hR
      refine lv_aload_n hx hb dX4_forget_0 rfl (lv_at hl 0 rfl) ?_
      refine lv_lconst (v := 0) hx hb dX4_forget_1 (by decide) ?_
      refine x_put (ci := 4) (C := RX4) (T := TX4) (N := 2) (v := .long 0) (ty := .long) B h hin4 tyX4 tyX4_ok nmX4 10 1 rfl rfl (by decide) (by decide +kernel) rfl rfl rfl rfl (Nat.le_of_ble_eq_true rfl) dX4_forget_2 (fun H locs h => ?_)
      obtain ⟨t_1, et_1⟩ : ∃ v : XT, v = sJ t 6 0 := ⟨_, rfl⟩
      have hR := hR t_1 et_1
      have h : Hp D A s.heap (wX cI cJ cB cZ ad t_1) H locs := by rw [et_1]; exact h
      exact x_vret (w1 := (fun u : XT => (wX cI cJ cB cZ ad u))) t_1 B h hr hR dX4_forget_5
  exact (main k) t _ _ s.heap [] ls hR hl h
set_option maxRecDepth 20000 in
theorem ggX11_complex_X8_read : GoodIn wsX11_complex wsX8_read := goodIn_r _ [15, 16, 17, 18, 19, 20, 21, 22, 23, 24, 25, 26, 14, 27, 28, 29, 30, 31, 32, 33, 34, 35, 36, 37, 38, 39, 40, 41, 42, 43, 44, 45, 46, 47, 48, 49, 50, 51, 52, 53, 54, 55, 114, 115, 116, 112, 113] (by decide +kernel) (by decide +kernel)
set_option maxRecDepth 20000 in
theorem gX11_complex_X8_read : GoodIn wsX11_complex (wsV RX11 95 RX8 yX8_read wsX8_read) := goodIn_app (goodIn_of _ (by decide +kernel)) ggX11_complex_X8_read
set_option maxRecDepth 20000 in
theorem ggX11_complex_X9_build : GoodIn wsX11_complex wsX9_build := goodIn_r _ [60, 61, 62, 63, 64, 65, 66, 21, 22, 23, 67, 68, 69, 70, 46, 47, 48, 49, 50, 51, 71, 72, 73, 59, 74, 75, 76, 77, 78, 79, 121, 122, 123, 124, 125, 126, 127] (by decide +kernel) (by decide +kernel)
set_option maxRecDepth 20000 in
theorem gX11_complex_X9_build : GoodIn wsX11_complex (wsV RX11 103 RX9 yX9_build wsX9_build) := goodIn_app (goodIn_of _ (by decide +kernel)) ggX11_complex_X9_build
set_option maxRecDepth 20000 in
theorem ggX11_complex_X9_all : GoodIn wsX11_complex wsX9_all := goodIn_r _ [83, 61, 77, 78, 79, 121, 122, 123, 124, 125, 126, 127] (by decide +kernel) (by decide +kernel)
set_option maxRecDepth 20000 in
theorem gX11_complex_X9_all : GoodIn wsX11_complex (wsV RX11 107 RX9 yX9_all wsX9_all) := goodIn_app (goodIn_of _ (by decide +kernel)) ggX11_complex_X9_all
set_option maxRecDepth 20000 in
theorem ggX11_complex_X6_restart : GoodIn wsX11_complex wsX6_restart := goodIn_r _ [88, 89, 90, 91, 92, 93, 94, 21, 22, 23, 128, 129, 130, 131, 132, 133] (by decide +kernel) (by decide +kernel)
set_option maxRecDepth 20000 in
theorem gX11_complex_X6_restart : GoodIn wsX11_complex (wsV RX11 111 RX6 yX6_restart wsX6_restart) := goodIn_app (goodIn_of _ (by decide +kernel)) ggX11_complex_X6_restart
set_option maxRecDepth 20000 in
theorem ggX11_complex_X4_forget : GoodIn wsX11_complex wsX4_forget := goodIn_r _ [99, 100, 134, 135] (by decide +kernel) (by decide +kernel)
set_option maxRecDepth 20000 in
theorem gX11_complex_X4_forget : GoodIn wsX11_complex (wsV RX11 116 RX4 yX4_forget wsX4_forget) := goodIn_app (goodIn_of _ (by decide +kernel)) ggX11_complex_X4_forget
def wbX11_complex_0 (rec : Nat → XT → (Nat → Int32) → (Nat → Int64) → (Int32 → XT → Prop) → Prop) (k : Nat) (t : XT) (li : Nat → Int32) (lj : Nat → Int64) (Q : Int32 → XT → Prop) : Prop :=
  (wqX8_read_c1 k t  (fun r_1 t_1 => (∀ t_2 : XT, t_2 = sI t_1 1 0 → ((r_1 = 0) → (wqX9_build_c13 k t_2  (fun t_4 => (wqX9_all k t_4  (fun r_5 t_5 => (wqX6_restart k t_5 r_5 (fun t_6 => (∀ t_7 : XT, t_7 = sI t_6 8 0 → (wqX4_forget k t_7  (fun t_8 => Q (t_8.1 4) t_8)))))))))) ∧ (¬ (r_1 = 0) → (∀ v_9 : Int32, v_9 = ((-2) - r_1) → Q v_9 t_2)))))
def wpX11_complex : Nat → Nat → XT → (Nat → Int32) → (Nat → Int64) → (Int32 → XT → Prop) → Prop
  | 0, _, _, _, _, _ => False
  | k + 1, 0, t, li, lj, Q => wbX11_complex_0 (wpX11_complex k) k t li lj Q
  | _ + 1, _, _, _, _, _ => False
def wqX11_complex (k : Nat) (t : XT)  (Q : Int32 → XT → Prop) : Prop := wpX11_complex k 0 t (fun _ => 0) (fun _ => 0) Q
set_option maxHeartbeats 8000000 in
set_option maxRecDepth 100000 in
theorem wkX11_complex (l : Launch) (D : va_G) (cI cJ cB cZ : ClassId) (ad : Nat → Nat) (k : Nat) (t : XT)  (Q : Int32 → XT → Prop) (hR : wqX11_complex k t  Q) : MetI l yX11_complex wsX11_complex 3 70 0 0 D (TYS cI cJ cB cZ) (wX cI cJ cB cZ ad t) [.ref (ad 0)] (fun r u => Q r u) (fun u : XT => (wX cI cJ cB cZ ad u)) := by
  refine x_startI (ty := .int) (cc := cX11_complex) (by decide) rfl (Nat.le_of_ble_eq_true rfl) ?_
  intro p e s m args below meth c A ls B hr hnm h hl
  have hx := B.1.1
  have hb := B.1.2.1
  have hml := B.1.2.2.1
  have hts := B.1.2.2.2.2
  have hown : s.vm.findClass RX11 = some m.cls := B.1.2.2.2.1
  have hin3 : ∀ w ∈ u_ws RX3 TX3 4, w ∈ wsX11_complex := by decide +kernel
  have hin8 : ∀ w ∈ u_ws RX8 TX8 3, w ∈ wsX11_complex := by decide +kernel
  have hin9 : ∀ w ∈ u_ws RX9 TX9 7, w ∈ wsX11_complex := by decide +kernel
  have hin10 : ∀ w ∈ u_ws RX10 TX10 2, w ∈ wsX11_complex := by decide +kernel
  have hin11 : ∀ w ∈ u_ws RX11 TX11 11, w ∈ wsX11_complex := by decide +kernel
  have main : ∀ k : Nat, (∀ (t : XT) (li : Nat → Int32) (lj : Nat → Int64) (H : Heap) (locs : List Loc) (ls : Array Slot), wpX11_complex k 0 t li lj Q → lv_has ls 2 [(0, .ref (ad 0))] → Hp D A s.heap (wX cI cJ cB cZ ad t) H locs → W p l e { frames := 3, cells := 0, slots := 0, locals := 70 } s m args below meth c H locs 0 0 (MQ below (va_Qi (fun r u => Q r u) (fun u t => xEnd D ((fun u : XT => (wX cI cJ cB cZ ad u)) u) A t) A) args s 0 0 A) (F0 m 0 ls [])) := by
    intro k
    induction k with
    | zero => exact fun _ _ _ _ _ _ hR => False.elim hR
    | succ k ih =>
      intro t li lj H locs ls hR hl h
      have hR : wbX11_complex_0 (wpX11_complex k) k t li lj Q := hR
      unfold wbX11_complex_0 at hR
      refine lv_aload_n hx hb dX11_complex_0 rfl (lv_at hl 0 rfl) ?_
      refine x_get (ci := 11) (C := RX11) (T := TX11) (N := 11) (v := .ref (ad 2)) B h hin11 0 1 rfl rfl (by decide) (by decide +kernel) rfl dX11_complex_1 ?_
      refine lv_aload_n hx hb dX11_complex_4 rfl (lv_at hl 0 rfl) ?_
      refine x_get (ci := 11) (C := RX11) (T := TX11) (N := 11) (v := .ref (ad 1)) B h hin11 0 0 rfl rfl (by decide) (by decide +kernel) rfl dX11_complex_5 ?_
      refine x_cVIF (n := 1) (As := [.ref (ad 1)]) (rest := []) B h (wkX8_read_c1 l D cI cJ cB cZ ad k t  _ hR) ⟨⟨_, rfl⟩, by decide +kernel, Nat.le_of_ble_eq_true rfl, Nat.le_of_ble_eq_true rfl⟩ gX11_complex_X8_read (show ((wX cI cJ cB cZ ad t) : va_W)[2]? = some (_, .inr (8, _)) from rfl) rfl rfl hl.1 rfl (Nat.le_of_ble_eq_true rfl) dX11_complex_8 ⟨Nat.le_of_ble_eq_true rfl, Nat.le_of_ble_eq_true rfl⟩ (fun r_1 t_1 H locs hR h => ?_)
      refine lv_istore_n (lv' := [(1, .int r_1), (0, .ref (ad 0))]) hx hb dX11_complex_11 rfl hl (by decide) rfl (fun ls hl => ?_)
      refine lv_aload_n hx hb dX11_complex_12 rfl (lv_at hl 1 rfl) ?_
      refine x_get (ci := 11) (C := RX11) (T := TX11) (N := 11) (v := .ref (ad 1)) B h hin11 0 0 rfl rfl (by decide) (by decide +kernel) rfl dX11_complex_13 ?_
      refine lv_iconst (v := 0) hx hb dX11_complex_16 (by decide) ?_
      refine x_put (ci := 10) (C := RX10) (T := TX10) (N := 2) (v := .int 0) (ty := .int) B h hin10 tyX10 tyX10_ok nmX10 1 1 rfl rfl (by decide) (by decide +kernel) rfl rfl rfl rfl (Nat.le_of_ble_eq_true rfl) dX11_complex_17 (fun H locs h => ?_)
      obtain ⟨t_2, et_2⟩ : ∃ v : XT, v = sI t_1 1 0 := ⟨_, rfl⟩
      have hR := hR t_2 et_2
      have h : Hp D A s.heap (wX cI cJ cB cZ ad t_2) H locs := by rw [et_2]; exact h
      refine lv_iload_n hx hb dX11_complex_20 rfl (lv_at hl 0 rfl) ?_
      refine lv_if_eq (tgt := 29) hx hb dX11_complex_21 (by decide) (fun c_3 => ?_) (fun c_3 => ?_)
      · have hR := hR.1 c_3
        refine lv_aload_n hx hb dX11_complex_29 rfl (lv_at hl 1 rfl) ?_
        refine x_get (ci := 11) (C := RX11) (T := TX11) (N := 11) (v := .ref (ad 3)) B h hin11 0 2 rfl rfl (by decide) (by decide +kernel) rfl dX11_complex_30 ?_
        refine lv_aload_n hx hb dX11_complex_33 rfl (lv_at hl 1 rfl) ?_
        refine x_get (ci := 11) (C := RX11) (T := TX11) (N := 11) (v := .ref (ad 2)) B h hin11 0 1 rfl rfl (by decide) (by decide +kernel) rfl dX11_complex_34 ?_
        refine x_get (ci := 8) (C := RX8) (T := TX8) (N := 3) (v := .ref (ad 13)) B h hin8 2 0 rfl rfl (by decide) (by decide +kernel) rfl dX11_complex_37 ?_
        refine x_cVVF (n := 1) (As := [.ref (ad 13)]) (rest := []) B h (wkX9_build_c13 l D cI cJ cB cZ ad k t_2  _ hR) ⟨⟨_, rfl⟩, by decide +kernel, Nat.le_of_ble_eq_true rfl, Nat.le_of_ble_eq_true rfl⟩ gX11_complex_X9_build (show ((wX cI cJ cB cZ ad t_2) : va_W)[3]? = some (_, .inr (9, _)) from rfl) rfl rfl hl.1 rfl (Nat.le_of_ble_eq_true rfl) dX11_complex_40 ⟨Nat.le_of_ble_eq_true rfl, Nat.le_of_ble_eq_true rfl⟩ (fun t_4 H locs hR h => ?_)
        refine lv_aload_n hx hb dX11_complex_43 rfl (lv_at hl 1 rfl) ?_
        refine x_get (ci := 11) (C := RX11) (T := TX11) (N := 11) (v := .ref (ad 4)) B h hin11 0 3 rfl rfl (by decide) (by decide +kernel) rfl dX11_complex_44 ?_
        refine lv_aload_n hx hb dX11_complex_47 rfl (lv_at hl 1 rfl) ?_
        refine x_get (ci := 11) (C := RX11) (T := TX11) (N := 11) (v := .ref (ad 3)) B h hin11 0 2 rfl rfl (by decide) (by decide +kernel) rfl dX11_complex_48 ?_
        refine x_cVLF (n := 0) (As := []) (rest := [.ref (ad 4)]) B h (wkX9_all l D cI cJ cB cZ ad k t_4  _ hR) ⟨⟨_, rfl⟩, by decide +kernel, Nat.le_of_ble_eq_true rfl, Nat.le_of_ble_eq_true rfl⟩ gX11_complex_X9_all (show ((wX cI cJ cB cZ ad t_4) : va_W)[3]? = some (_, .inr (9, _)) from rfl) rfl rfl hl.1 rfl (Nat.le_of_ble_eq_true rfl) dX11_complex_51 ⟨Nat.le_of_ble_eq_true rfl, Nat.le_of_ble_eq_true rfl⟩ (fun r_5 t_5 H locs hR h => ?_)
        refine x_cVVF (n := 1) (As := [.long r_5]) (rest := []) B h (wkX6_restart l D cI cJ cB cZ ad k t_5 r_5 _ hR) ⟨⟨_, rfl⟩, by decide +kernel, Nat.le_of_ble_eq_true rfl, Nat.le_of_ble_eq_true rfl⟩ gX11_complex_X6_restart (show ((wX cI cJ cB cZ ad t_5) : va_W)[4]? = some (_, .inr (6, _)) from rfl) rfl rfl hl.1 rfl (Nat.le_of_ble_eq_true rfl) dX11_complex_54 ⟨Nat.le_of_ble_eq_true rfl, Nat.le_of_ble_eq_true rfl⟩ (fun t_6 H locs hR h => ?_)
        refine lv_aload_n hx hb dX11_complex_57 rfl (lv_at hl 1 rfl) ?_
        refine x_get (ci := 11) (C := RX11) (T := TX11) (N := 11) (v := .ref (ad 9)) B h hin11 0 8 rfl rfl (by decide) (by decide +kernel) rfl dX11_complex_58 ?_
        refine lv_iconst (v := 0) hx hb dX11_complex_61 (by decide) ?_
        refine x_put (ci := 3) (C := RX3) (T := TX3) (N := 4) (v := .int 0) (ty := .int) B h hin3 tyX3 tyX3_ok nmX3 9 2 rfl rfl (by decide) (by decide +kernel) rfl rfl rfl rfl (Nat.le_of_ble_eq_true rfl) dX11_complex_62 (fun H locs h => ?_)
        obtain ⟨t_7, et_7⟩ : ∃ v : XT, v = sI t_6 8 0 := ⟨_, rfl⟩
        have hR := hR t_7 et_7
        have h : Hp D A s.heap (wX cI cJ cB cZ ad t_7) H locs := by rw [et_7]; exact h
        refine lv_aload_n hx hb dX11_complex_65 rfl (lv_at hl 1 rfl) ?_
        refine x_get (ci := 11) (C := RX11) (T := TX11) (N := 11) (v := .ref (ad 10)) B h hin11 0 9 rfl rfl (by decide) (by decide +kernel) rfl dX11_complex_66 ?_
        refine x_cVVF (n := 0) (As := []) (rest := []) B h (wkX4_forget l D cI cJ cB cZ ad k t_7  _ hR) ⟨⟨_, rfl⟩, by decide +kernel, Nat.le_of_ble_eq_true rfl, Nat.le_of_ble_eq_true rfl⟩ gX11_complex_X4_forget (show ((wX cI cJ cB cZ ad t_7) : va_W)[10]? = some (_, .inr (4, _)) from rfl) rfl rfl hl.1 rfl (Nat.le_of_ble_eq_true rfl) dX11_complex_69 ⟨Nat.le_of_ble_eq_true rfl, Nat.le_of_ble_eq_true rfl⟩ (fun t_8 H locs hR h => ?_)
        refine lv_aload_n hx hb dX11_complex_72 rfl (lv_at hl 1 rfl) ?_
        refine x_get (ci := 11) (C := RX11) (T := TX11) (N := 11) (v := .ref (ad 3)) B h hin11 0 2 rfl rfl (by decide) (by decide +kernel) rfl dX11_complex_73 ?_
        refine x_get (ci := 9) (C := RX9) (T := TX9) (N := 7) (v := .int (t_8.1 4)) B h hin9 3 0 rfl rfl (by decide) (by decide +kernel) rfl dX11_complex_76 ?_
        exact x_iret (w1 := (fun u : XT => (wX cI cJ cB cZ ad u))) t_8 B h hr rfl hR dX11_complex_79
      · have hR := hR.2 c_3
        refine lv_bipush (v := (-2)) hx hb dX11_complex_24 (by decide) ?_
        refine lv_iload_n hx hb dX11_complex_26 rfl (lv_at hl 0 rfl) ?_
        refine lv_isub hx hb dX11_complex_27 ?_
        refine lv_topi (fun v_9 ev_9 => ?_)
        have hR := hR v_9 ev_9
        exact x_iret (w1 := (fun u : XT => (wX cI cJ cB cZ ad u))) t_2 B h hr rfl hR dX11_complex_28
  exact (main k) t _ _ s.heap [] ls hR hl h
def wbX9_has_0 (rec : Nat → XT → (Nat → Int32) → (Nat → Int64) → (Int32 → XT → Prop) → Prop) (k : Nat) (t : XT) (li : Nat → Int32) (lj : Nat → Int64) (Q : Int32 → XT → Prop) : Prop :=
  (((li 1) < 0) → rec 1 t li lj Q) ∧ (¬ ((li 1) < 0) → ((((t.1 4) : Int32) ≤ (li 1)) → rec 1 t li lj Q) ∧ (¬ (((t.1 4) : Int32) ≤ (li 1)) → Q 1 t))
def wbX9_has_1 (rec : Nat → XT → (Nat → Int32) → (Nat → Int64) → (Int32 → XT → Prop) → Prop) (k : Nat) (t : XT) (li : Nat → Int32) (lj : Nat → Int64) (Q : Int32 → XT → Prop) : Prop :=
  Q 0 t
def wpX9_has : Nat → Nat → XT → (Nat → Int32) → (Nat → Int64) → (Int32 → XT → Prop) → Prop
  | 0, _, _, _, _, _ => False
  | k + 1, 0, t, li, lj, Q => wbX9_has_0 (wpX9_has k) k t li lj Q
  | k + 1, 1, t, li, lj, Q => wbX9_has_1 (wpX9_has k) k t li lj Q
  | _ + 1, _, _, _, _, _ => False
def wqX9_has (k : Nat) (t : XT) (a1 : Int32) (Q : Int32 → XT → Prop) : Prop := wpX9_has k 0 t (uI (fun _ => 0) 1 a1) (fun _ => 0) Q
set_option maxHeartbeats 8000000 in
set_option maxRecDepth 100000 in
theorem wkX9_has (l : Launch) (D : va_G) (cI cJ cB cZ : ClassId) (ad : Nat → Nat) (k : Nat) (t : XT) (a1 : Int32) (Q : Int32 → XT → Prop) (hR : wqX9_has k t a1 Q) : MetI l yX9_has wsX9_has 0 0 0 0 D (TYS cI cJ cB cZ) (wX cI cJ cB cZ ad t) [.ref (ad 3), .int a1] (fun r u => Q r u) (fun u : XT => (wX cI cJ cB cZ ad u)) := by
  refine x_startI (ty := .boolean) (cc := cX9_has) (by decide) rfl (Nat.le_of_ble_eq_true rfl) ?_
  intro p e s m args below meth c A ls B hr hnm h hl
  have hx := B.1.1
  have hb := B.1.2.1
  have hml := B.1.2.2.1
  have hts := B.1.2.2.2.2
  have hown : s.vm.findClass RX9 = some m.cls := B.1.2.2.2.1
  have hin9 : ∀ w ∈ u_ws RX9 TX9 7, w ∈ wsX9_has := by decide +kernel
  have main : ∀ k : Nat, (∀ (t : XT) (li : Nat → Int32) (lj : Nat → Int64) (H : Heap) (locs : List Loc) (ls : Array Slot), wpX9_has k 0 t li lj Q → lv_has ls 2 [(0, .ref (ad 3)), (1, .int (li 1))] → Hp D A s.heap (wX cI cJ cB cZ ad t) H locs → W p l e { frames := 0, cells := 0, slots := 0, locals := 0 } s m args below meth c H locs 0 0 (MQ below (va_Qi (fun r u => Q r u) (fun u t => xEnd D ((fun u : XT => (wX cI cJ cB cZ ad u)) u) A t) A) args s 0 0 A) (F0 m 0 ls [])) ∧
      (∀ (t : XT) (li : Nat → Int32) (lj : Nat → Int64) (H : Heap) (locs : List Loc) (ls : Array Slot), wpX9_has k 1 t li lj Q → lv_has ls 2 [(0, .ref (ad 3)), (1, .int (li 1))] → Hp D A s.heap (wX cI cJ cB cZ ad t) H locs → W p l e { frames := 0, cells := 0, slots := 0, locals := 0 } s m args below meth c H locs 0 0 (MQ below (va_Qi (fun r u => Q r u) (fun u t => xEnd D ((fun u : XT => (wX cI cJ cB cZ ad u)) u) A t) A) args s 0 0 A) (F0 m 16 ls [])) := by
    intro k
    induction k with
    | zero => exact ⟨fun _ _ _ _ _ _ hR => False.elim hR, fun _ _ _ _ _ _ hR => False.elim hR⟩
    | succ k ih =>
      refine ⟨?_, ?_⟩
      · intro t li lj H locs ls hR hl h
        have hR : wbX9_has_0 (wpX9_has k) k t li lj Q := hR
        unfold wbX9_has_0 at hR
        refine lv_iload_n hx hb dX9_has_0 rfl (lv_at hl 1 rfl) ?_
        refine lv_if_lt (tgt := 16) hx hb dX9_has_1 (by decide) (fun c_1 => ?_) (fun c_1 => ?_)
        · have hR := hR.1 c_1
          exact ih.2 t li lj H locs ls hR (lv_sub hl [0, 1] rfl) h
        · have hR := hR.2 c_1
          refine lv_iload_n hx hb dX9_has_4 rfl (lv_at hl 1 rfl) ?_
          refine lv_aload_n hx hb dX9_has_5 rfl (lv_at hl 0 rfl) ?_
          refine x_get (ci := 9) (C := RX9) (T := TX9) (N := 7) (v := .int (t.1 4)) B h hin9 3 0 rfl rfl (by decide) (by decide +kernel) rfl dX9_has_6 ?_
          refine lv_icmp_ge (tgt := 16) hx hb dX9_has_9 (by decide) (fun c_2 => ?_) (fun c_2 => ?_)
          · have hR := hR.1 c_2
            exact ih.2 t li lj H locs ls hR (lv_sub hl [0, 1] rfl) h
          · have hR := hR.2 c_2
            refine lv_iconst (v := 1) hx hb dX9_has_12 (by decide) ?_
            refine lv_goto (tgt := 17) hx hb dX9_has_13 (by decide) ?_
            exact x_iret (w1 := (fun u : XT => (wX cI cJ cB cZ ad u))) t B h hr rfl hR dX9_has_17
      · intro t li lj H locs ls hR hl h
        have hR : wbX9_has_1 (wpX9_has k) k t li lj Q := hR
        unfold wbX9_has_1 at hR
        refine lv_iconst (v := 0) hx hb dX9_has_16 (by decide) ?_
        exact x_iret (w1 := (fun u : XT => (wX cI cJ cB cZ ad u))) t B h hr rfl hR dX9_has_17
  exact (main k).1 t _ _ s.heap [] ls hR hl h
def wbX11_isIn_0 (rec : Nat → (Nat → Int32) → (Nat → Int64) → (Int32 → Prop) → Prop) (k : Nat) (li : Nat → Int32) (lj : Nat → Int64) (Q : Int32 → Prop) : Prop :=
  (∀ v_1 : Int64, v_1 = ((lj 0).toUInt64 >>> ((li 2).toInt64.toUInt64 &&& Int64.toUInt64 63)).toInt64 → (∀ v_2 : Int64, v_2 = (v_1 &&& 1) → (∀ v_3 : Int32, v_3 = (lg_cmp v_2 0) → ((v_3 = 0) → Q 0) ∧ (¬ (v_3 = 0) → Q 1))))
def wpX11_isIn : Nat → Nat → (Nat → Int32) → (Nat → Int64) → (Int32 → Prop) → Prop
  | 0, _, _, _, _ => False
  | k + 1, 0, li, lj, Q => wbX11_isIn_0 (wpX11_isIn k) k li lj Q
  | _ + 1, _, _, _, _ => False
def wqX11_isIn (k : Nat) (a0 : Int64) (a1 : Int32) (Q : Int32 → Prop) : Prop := wpX11_isIn k 0 (uI (fun _ => 0) 2 a1) (uI (fun _ => 0) 0 a0) Q
set_option maxHeartbeats 8000000 in
set_option maxRecDepth 100000 in
theorem wkX11_isIn (l : Launch) (D : va_G) (cI cJ cB cZ : ClassId) (ad : Nat → Nat) (k : Nat) (a0 : Int64) (a1 : Int32) (Q : Int32 → Prop) (hR : wqX11_isIn k a0 a1 Q) : MetI l yX11_isIn wsX11_isIn 0 0 0 0 D (TYS cI cJ cB cZ) [] [.long a0, .int a1] (fun r _ => Q r) (fun _ : Unit => []) := by
  refine x_startI (ty := .boolean) (cc := cX11_isIn) (by decide) rfl (Nat.le_of_ble_eq_true rfl) ?_
  intro p e s m args below meth c A ls B hr hnm h hl
  have hx := B.1.1
  have hb := B.1.2.1
  have hml := B.1.2.2.1
  have hts := B.1.2.2.2.2
  have hown : s.vm.findClass RX11 = some m.cls := B.1.2.2.2.1
  have main : ∀ k : Nat, (∀ (li : Nat → Int32) (lj : Nat → Int64) (H : Heap) (locs : List Loc) (ls : Array Slot), wpX11_isIn k 0 li lj Q → lv_has ls 3 [(0, .long (lj 0)), (2, .int (li 2))] → Hp D A s.heap [] H locs → W p l e { frames := 0, cells := 0, slots := 0, locals := 0 } s m args below meth c H locs 0 0 (MQ below (va_Qi (fun r _ => Q r) (fun u t => xEnd D ((fun _ : Unit => []) u) A t) A) args s 0 0 A) (F0 m 0 ls [])) := by
    intro k
    induction k with
    | zero => exact fun _ _ _ _ _ hR => False.elim hR
    | succ k ih =>
      intro li lj H locs ls hR hl h
      have hR : wbX11_isIn_0 (wpX11_isIn k) k li lj Q := hR
      unfold wbX11_isIn_0 at hR
      refine lv_lload_n hx hb dX11_isIn_0 rfl (lv_at hl 0 rfl) ?_
      refine lv_iload_n hx hb dX11_isIn_1 rfl (lv_at hl 1 rfl) ?_
      obtain ⟨v_1, ev_1⟩ : ∃ v : Int64, v = ((lj 0).toUInt64 >>> ((li 2).toInt64.toUInt64 &&& Int64.toUInt64 63)).toInt64 := ⟨_, rfl⟩
      have hR := hR v_1 ev_1
      refine lv_lushr (v := v_1) hx hb dX11_isIn_2 ev_1.symm ?_
      refine lv_lconst (v := 1) hx hb dX11_isIn_3 (by decide) ?_
      refine lv_land hx hb dX11_isIn_4 ?_
      refine lv_topl (fun v_2 ev_2 => ?_)
      have hR := hR v_2 ev_2
      refine lv_lconst (v := 0) hx hb dX11_isIn_5 (by decide) ?_
      refine W.lcmp hx hb dX11_isIn_6 ?_
      refine lv_topi (fun v_3 ev_3 => ?_)
      have hR := hR v_3 ev_3
      refine lv_if_eq (tgt := 14) hx hb dX11_isIn_7 (by decide) (fun c_4 => ?_) (fun c_4 => ?_)
      · have hR := hR.1 c_4
        refine lv_iconst (v := 0) hx hb dX11_isIn_14 (by decide) ?_
        exact x_iret (w1 := (fun _ : Unit => [])) () B h hr rfl hR dX11_isIn_15
      · have hR := hR.2 c_4
        refine lv_iconst (v := 1) hx hb dX11_isIn_10 (by decide) ?_
        refine lv_goto (tgt := 15) hx hb dX11_isIn_11 (by decide) ?_
        exact x_iret (w1 := (fun _ : Unit => [])) () B h hr rfl hR dX11_isIn_15
  exact (main k) _ _ s.heap [] ls hR hl h
set_option maxRecDepth 20000 in
theorem ggX11_isThere_X9_has : GoodIn wsX11_isThere wsX9_has := goodIn_r _ [8, 9, 31, 32, 33, 34, 35, 36, 37] (by decide +kernel) (by decide +kernel)
set_option maxRecDepth 20000 in
theorem gX11_isThere_X9_has : GoodIn wsX11_isThere (wsV RX11 120 RX9 yX9_has wsX9_has) := goodIn_app (goodIn_of _ (by decide +kernel)) ggX11_isThere_X9_has
set_option maxRecDepth 20000 in
theorem ggX11_isThere_X11_isIn : GoodIn wsX11_isThere wsX11_isIn := goodIn_r _ [13] (by decide +kernel) (by decide +kernel)
set_option maxRecDepth 20000 in
theorem gX11_isThere_X11_isIn : GoodIn wsX11_isThere (va_wsS RX11 168 yX11_isIn wsX11_isIn) := goodIn_app (goodIn_of _ (by decide +kernel)) ggX11_isThere_X11_isIn
def wbX11_isThere_0 (rec : Nat → XT → (Nat → Int32) → (Nat → Int64) → (Int32 → XT → Prop) → Prop) (k : Nat) (t : XT) (li : Nat → Int32) (lj : Nat → Int64) (Q : Int32 → XT → Prop) : Prop :=
  (wqX9_has k t (li 1) (fun r_1 t_1 => ((r_1 = 0) → rec 1 t_1 li lj Q) ∧ (¬ (r_1 = 0) → (wqX11_isIn k (t_1.2.1 0) (li 1) (fun r_3 => ((r_3 = 0) → rec 1 t_1 li lj Q) ∧ (¬ (r_3 = 0) → Q 1 t_1))))))
def wbX11_isThere_1 (rec : Nat → XT → (Nat → Int32) → (Nat → Int64) → (Int32 → XT → Prop) → Prop) (k : Nat) (t : XT) (li : Nat → Int32) (lj : Nat → Int64) (Q : Int32 → XT → Prop) : Prop :=
  Q 0 t
def wpX11_isThere : Nat → Nat → XT → (Nat → Int32) → (Nat → Int64) → (Int32 → XT → Prop) → Prop
  | 0, _, _, _, _, _ => False
  | k + 1, 0, t, li, lj, Q => wbX11_isThere_0 (wpX11_isThere k) k t li lj Q
  | k + 1, 1, t, li, lj, Q => wbX11_isThere_1 (wpX11_isThere k) k t li lj Q
  | _ + 1, _, _, _, _, _ => False
def wqX11_isThere (k : Nat) (t : XT) (a1 : Int32) (Q : Int32 → XT → Prop) : Prop := wpX11_isThere k 0 t (uI (fun _ => 0) 1 a1) (fun _ => 0) Q
set_option maxHeartbeats 8000000 in
set_option maxRecDepth 100000 in
theorem wkX11_isThere (l : Launch) (D : va_G) (cI cJ cB cZ : ClassId) (ad : Nat → Nat) (k : Nat) (t : XT) (a1 : Int32) (Q : Int32 → XT → Prop) (hR : wqX11_isThere k t a1 Q) : MetI l yX11_isThere wsX11_isThere 1 22 0 0 D (TYS cI cJ cB cZ) (wX cI cJ cB cZ ad t) [.ref (ad 0), .int a1] (fun r u => Q r u) (fun u : XT => (wX cI cJ cB cZ ad u)) := by
  refine x_startI (ty := .boolean) (cc := cX11_isThere) (by decide) rfl (Nat.le_of_ble_eq_true rfl) ?_
  intro p e s m args below meth c A ls B hr hnm h hl
  have hx := B.1.1
  have hb := B.1.2.1
  have hml := B.1.2.2.1
  have hts := B.1.2.2.2.2
  have hown : s.vm.findClass RX11 = some m.cls := B.1.2.2.2.1
  have hin6 : ∀ w ∈ u_ws RX6 TX6 6, w ∈ wsX11_isThere := by decide +kernel
  have hin11 : ∀ w ∈ u_ws RX11 TX11 11, w ∈ wsX11_isThere := by decide +kernel
  have main : ∀ k : Nat, (∀ (t : XT) (li : Nat → Int32) (lj : Nat → Int64) (H : Heap) (locs : List Loc) (ls : Array Slot), wpX11_isThere k 0 t li lj Q → lv_has ls 2 [(0, .ref (ad 0)), (1, .int (li 1))] → Hp D A s.heap (wX cI cJ cB cZ ad t) H locs → W p l e { frames := 1, cells := 0, slots := 0, locals := 22 } s m args below meth c H locs 0 0 (MQ below (va_Qi (fun r u => Q r u) (fun u t => xEnd D ((fun u : XT => (wX cI cJ cB cZ ad u)) u) A t) A) args s 0 0 A) (F0 m 0 ls [])) ∧
      (∀ (t : XT) (li : Nat → Int32) (lj : Nat → Int64) (H : Heap) (locs : List Loc) (ls : Array Slot), wpX11_isThere k 1 t li lj Q → lv_has ls 2 [(0, .ref (ad 0)), (1, .int (li 1))] → Hp D A s.heap (wX cI cJ cB cZ ad t) H locs → W p l e { frames := 1, cells := 0, slots := 0, locals := 22 } s m args below meth c H locs 0 0 (MQ below (va_Qi (fun r u => Q r u) (fun u t => xEnd D ((fun u : XT => (wX cI cJ cB cZ ad u)) u) A t) A) args s 0 0 A) (F0 m 29 ls [])) := by
    intro k
    induction k with
    | zero => exact ⟨fun _ _ _ _ _ _ hR => False.elim hR, fun _ _ _ _ _ _ hR => False.elim hR⟩
    | succ k ih =>
      refine ⟨?_, ?_⟩
      · intro t li lj H locs ls hR hl h
        have hR : wbX11_isThere_0 (wpX11_isThere k) k t li lj Q := hR
        unfold wbX11_isThere_0 at hR
        refine lv_aload_n hx hb dX11_isThere_0 rfl (lv_at hl 0 rfl) ?_
        refine x_get (ci := 11) (C := RX11) (T := TX11) (N := 11) (v := .ref (ad 3)) B h hin11 0 2 rfl rfl (by decide) (by decide +kernel) rfl dX11_isThere_1 ?_
        refine lv_iload_n hx hb dX11_isThere_4 rfl (lv_at hl 1 rfl) ?_
        refine x_cVIF (n := 1) (As := [.int (li 1)]) (rest := []) B h (wkX9_has l D cI cJ cB cZ ad k t (li 1) _ hR) ⟨⟨_, rfl⟩, by decide +kernel, Nat.le_of_ble_eq_true rfl, Nat.le_of_ble_eq_true rfl⟩ gX11_isThere_X9_has (show ((wX cI cJ cB cZ ad t) : va_W)[3]? = some (_, .inr (9, _)) from rfl) rfl rfl hl.1 rfl (Nat.le_of_ble_eq_true rfl) dX11_isThere_5 ⟨Nat.le_of_ble_eq_true rfl, Nat.le_of_ble_eq_true rfl⟩ (fun r_1 t_1 H locs hR h => ?_)
        refine lv_if_eq (tgt := 29) hx hb dX11_isThere_8 (by decide) (fun c_2 => ?_) (fun c_2 => ?_)
        · have hR := hR.1 c_2
          exact ih.2 t_1 li lj H locs ls hR (lv_sub hl [0, 1] rfl) h
        · have hR := hR.2 c_2
          refine lv_aload_n hx hb dX11_isThere_11 rfl (lv_at hl 0 rfl) ?_
          refine x_get (ci := 11) (C := RX11) (T := TX11) (N := 11) (v := .ref (ad 4)) B h hin11 0 3 rfl rfl (by decide) (by decide +kernel) rfl dX11_isThere_12 ?_
          refine x_get (ci := 6) (C := RX6) (T := TX6) (N := 6) (v := .long (t_1.2.1 0)) B h hin6 4 2 rfl rfl (by decide) (by decide +kernel) rfl dX11_isThere_15 ?_
          refine lv_iload_n hx hb dX11_isThere_18 rfl (lv_at hl 1 rfl) ?_
          refine x_cSIE (n := 2) (As := [.long (t_1.2.1 0), .int (li 1)]) (rest := []) B h (wkX11_isIn l D cI cJ cB cZ ad k (t_1.2.1 0) (li 1) _ hR) ⟨⟨_, rfl⟩, by decide +kernel, Nat.le_of_ble_eq_true rfl, Nat.le_of_ble_eq_true rfl⟩ gX11_isThere_X11_isIn rfl hl.1 rfl (Nat.le_of_ble_eq_true rfl) dX11_isThere_19 ⟨Nat.le_of_ble_eq_true rfl, Nat.le_of_ble_eq_true rfl⟩ (fun r_3 _ H locs hR h => ?_)
          refine lv_if_eq (tgt := 29) hx hb dX11_isThere_22 (by decide) (fun c_4 => ?_) (fun c_4 => ?_)
          · have hR := hR.1 c_4
            exact ih.2 t_1 li lj H locs ls hR (lv_sub hl [0, 1] rfl) h
          · have hR := hR.2 c_4
            refine lv_iconst (v := 1) hx hb dX11_isThere_25 (by decide) ?_
            refine lv_goto (tgt := 30) hx hb dX11_isThere_26 (by decide) ?_
            exact x_iret (w1 := (fun u : XT => (wX cI cJ cB cZ ad u))) t_1 B h hr rfl hR dX11_isThere_30
      · intro t li lj H locs ls hR hl h
        have hR : wbX11_isThere_1 (wpX11_isThere k) k t li lj Q := hR
        unfold wbX11_isThere_1 at hR
        refine lv_iconst (v := 0) hx hb dX11_isThere_29 (by decide) ?_
        exact x_iret (w1 := (fun u : XT => (wX cI cJ cB cZ ad u))) t B h hr rfl hR dX11_isThere_30
  exact (main k).1 t _ _ s.heap [] ls hR hl h
set_option maxRecDepth 20000 in
theorem ggX6_side_X11_isIn : GoodIn wsX6_side wsX11_isIn := goodIn_r _ [5] (by decide +kernel) (by decide +kernel)
set_option maxRecDepth 20000 in
theorem gX6_side_X11_isIn_n61 : GoodIn wsX6_side (wsX11_isIn) := ggX6_side_X11_isIn
def wbX6_side_0 (rec : Nat → XT → (Nat → Int32) → (Nat → Int64) → (Int32 → XT → Prop) → Prop) (k : Nat) (t : XT) (li : Nat → Int32) (lj : Nat → Int64) (Q : Int32 → XT → Prop) : Prop :=
  (vp_in (li 1) 64 ∧ (∀ v_1 : Int32, v_1 = (t.2.2.1 5) (li 1).toNatClampNeg → ((¬ v_1 = (-1)) → (wqX11_isIn k (t.2.1 1) (li 1) (fun r_3 => ((r_3 = 0) → Q 0 t) ∧ (¬ (r_3 = 0) → Q 1 t)))) ∧ ((v_1 = (-1)) → Q (-1) t)))
def wpX6_side : Nat → Nat → XT → (Nat → Int32) → (Nat → Int64) → (Int32 → XT → Prop) → Prop
  | 0, _, _, _, _, _ => False
  | k + 1, 0, t, li, lj, Q => wbX6_side_0 (wpX6_side k) k t li lj Q
  | _ + 1, _, _, _, _, _ => False
def wqX6_side (k : Nat) (t : XT) (a1 : Int32) (Q : Int32 → XT → Prop) : Prop := wpX6_side k 0 t (uI (fun _ => 0) 1 a1) (fun _ => 0) Q
set_option maxHeartbeats 8000000 in
set_option maxRecDepth 100000 in
theorem wkX6_side (l : Launch) (D : va_G) (cI cJ cB cZ : ClassId) (ad : Nat → Nat) (k : Nat) (t : XT) (a1 : Int32) (Q : Int32 → XT → Prop) (hR : wqX6_side k t a1 Q) : MetI l yX6_side wsX6_side 1 22 0 0 D (TYS cI cJ cB cZ) (wX cI cJ cB cZ ad t) [.ref (ad 4), .int a1] (fun r u => Q r u) (fun u : XT => (wX cI cJ cB cZ ad u)) := by
  refine x_startI (ty := .int) (cc := cX6_side) (by decide) rfl (Nat.le_of_ble_eq_true rfl) ?_
  intro p e s m args below meth c A ls B hr hnm h hl
  have hx := B.1.1
  have hb := B.1.2.1
  have hml := B.1.2.2.1
  have hts := B.1.2.2.2.2
  have hown : s.vm.findClass RX6 = some m.cls := B.1.2.2.2.1
  have hin6 : ∀ w ∈ u_ws RX6 TX6 6, w ∈ wsX6_side := by decide +kernel
  have main : ∀ k : Nat, (∀ (t : XT) (li : Nat → Int32) (lj : Nat → Int64) (H : Heap) (locs : List Loc) (ls : Array Slot), wpX6_side k 0 t li lj Q → lv_has ls 2 [(0, .ref (ad 4)), (1, .int (li 1))] → Hp D A s.heap (wX cI cJ cB cZ ad t) H locs → W p l e { frames := 1, cells := 0, slots := 0, locals := 22 } s m args below meth c H locs 0 0 (MQ below (va_Qi (fun r u => Q r u) (fun u t => xEnd D ((fun u : XT => (wX cI cJ cB cZ ad u)) u) A t) A) args s 0 0 A) (F0 m 0 ls [])) := by
    intro k
    induction k with
    | zero => exact fun _ _ _ _ _ _ hR => False.elim hR
    | succ k ih =>
      intro t li lj H locs ls hR hl h
      have hR : wbX6_side_0 (wpX6_side k) k t li lj Q := hR
      unfold wbX6_side_0 at hR
      refine lv_aload_n hx hb dX6_side_0 rfl (lv_at hl 0 rfl) ?_
      refine x_get (ci := 6) (C := RX6) (T := TX6) (N := 6) (v := .ref (ad 20)) B h hin6 4 1 rfl rfl (by decide) (by decide +kernel) rfl dX6_side_1 ?_
      refine lv_iload_n hx hb dX6_side_4 rfl (lv_at hl 1 rfl) ?_
      obtain ⟨hb_1, hR⟩ := hR
      refine va_iald (f := (t.2.2.1 5)) hx hb B.2.1 h.1 20 0 rfl rfl hb_1 dX6_side_5 ?_
      refine lv_topi (fun v_1 ev_1 => ?_)
      have hR := hR v_1 ev_1
      refine lv_iconst (v := (-1)) hx hb dX6_side_6 (by decide) ?_
      refine lv_icmp_ne (tgt := 12) hx hb dX6_side_7 (by decide) (fun c_2 => ?_) (fun c_2 => ?_)
      · have hR := hR.1 c_2
        refine lv_aload_n hx hb dX6_side_12 rfl (lv_at hl 0 rfl) ?_
        refine x_get (ci := 6) (C := RX6) (T := TX6) (N := 6) (v := .long (t.2.1 1)) B h hin6 4 3 rfl rfl (by decide) (by decide +kernel) rfl dX6_side_13 ?_
        refine lv_iload_n hx hb dX6_side_16 rfl (lv_at hl 1 rfl) ?_
        refine x_cNIE (n := 2) (As := [.long (t.2.1 1), .int (li 1)]) (rest := []) B h (wkX11_isIn l D cI cJ cB cZ ad k (t.2.1 1) (li 1) _ hR) ⟨⟨_, rfl⟩, by decide +kernel, Nat.le_of_ble_eq_true rfl, Nat.le_of_ble_eq_true rfl⟩ gX6_side_X11_isIn_n61 (by decide +kernel) (by decide +kernel) (host := "MorseDesk") (by decide +kernel) rfl hl.1 rfl (Nat.le_of_ble_eq_true rfl) dX6_side_17 ⟨Nat.le_of_ble_eq_true rfl, Nat.le_of_ble_eq_true rfl⟩ (fun r_3 _ H locs hR h => ?_)
        refine lv_if_eq (tgt := 27) hx hb dX6_side_20 (by decide) (fun c_4 => ?_) (fun c_4 => ?_)
        · have hR := hR.1 c_4
          refine lv_iconst (v := 0) hx hb dX6_side_27 (by decide) ?_
          exact x_iret (w1 := (fun u : XT => (wX cI cJ cB cZ ad u))) t B h hr rfl hR dX6_side_28
        · have hR := hR.2 c_4
          refine lv_iconst (v := 1) hx hb dX6_side_23 (by decide) ?_
          refine lv_goto (tgt := 28) hx hb dX6_side_24 (by decide) ?_
          exact x_iret (w1 := (fun u : XT => (wX cI cJ cB cZ ad u))) t B h hr rfl hR dX6_side_28
      · have hR := hR.2 c_2
        refine lv_iconst (v := (-1)) hx hb dX6_side_10 (by decide) ?_
        exact x_iret (w1 := (fun u : XT => (wX cI cJ cB cZ ad u))) t B h hr rfl hR dX6_side_11
  exact (main k) t _ _ s.heap [] ls hR hl h
def wbX6_steps_0 (rec : Nat → XT → (Nat → Int32) → (Nat → Int64) → (Int64 → XT → Prop) → Prop) (k : Nat) (t : XT) (li : Nat → Int32) (lj : Nat → Int64) (Q : Int64 → XT → Prop) : Prop :=
  (vp_in (li 1) 64 ∧ (∀ v_1 : Int32, v_1 = (t.2.2.1 5) (li 1).toNatClampNeg → ((¬ v_1 = (-1)) → (vp_in (li 1) 64 ∧ (∀ v_3 : Int64, v_3 = (t.2.2.2 0) (li 1).toNatClampNeg → (vp_in (li 1) 64 ∧ (∀ v_4 : Int32, v_4 = (t.2.2.1 5) (li 1).toNatClampNeg → (∀ v_5 : Int64, v_5 = ((1 : Int64) <<< (v_4.toInt64 &&& 63)) → (∀ v_6 : Int64, v_6 = (v_3 ^^^ v_5) → Q v_6 t))))))) ∧ ((v_1 = (-1)) → (vp_in (li 1) 64 ∧ (∀ v_7 : Int64, v_7 = (t.2.2.2 0) (li 1).toNatClampNeg → Q v_7 t)))))
def wpX6_steps : Nat → Nat → XT → (Nat → Int32) → (Nat → Int64) → (Int64 → XT → Prop) → Prop
  | 0, _, _, _, _, _ => False
  | k + 1, 0, t, li, lj, Q => wbX6_steps_0 (wpX6_steps k) k t li lj Q
  | _ + 1, _, _, _, _, _ => False
def wqX6_steps (k : Nat) (t : XT) (a1 : Int32) (Q : Int64 → XT → Prop) : Prop := wpX6_steps k 0 t (uI (fun _ => 0) 1 a1) (fun _ => 0) Q
set_option maxHeartbeats 8000000 in
set_option maxRecDepth 100000 in
theorem wkX6_steps (l : Launch) (D : va_G) (cI cJ cB cZ : ClassId) (ad : Nat → Nat) (k : Nat) (t : XT) (a1 : Int32) (Q : Int64 → XT → Prop) (hR : wqX6_steps k t a1 Q) : MetL l yX6_steps wsX6_steps 0 0 0 0 D (TYS cI cJ cB cZ) (wX cI cJ cB cZ ad t) [.ref (ad 4), .int a1] (fun r u => Q r u) (fun u : XT => (wX cI cJ cB cZ ad u)) := by
  refine x_startL (ty := .long) (cc := cX6_steps) (by decide) rfl (Nat.le_of_ble_eq_true rfl) ?_
  intro p e s m args below meth c A ls B hr hnm h hl
  have hx := B.1.1
  have hb := B.1.2.1
  have hml := B.1.2.2.1
  have hts := B.1.2.2.2.2
  have hown : s.vm.findClass RX6 = some m.cls := B.1.2.2.2.1
  have hin6 : ∀ w ∈ u_ws RX6 TX6 6, w ∈ wsX6_steps := by decide +kernel
  have hin9 : ∀ w ∈ u_ws RX9 TX9 7, w ∈ wsX6_steps := by decide +kernel
  have main : ∀ k : Nat, (∀ (t : XT) (li : Nat → Int32) (lj : Nat → Int64) (H : Heap) (locs : List Loc) (ls : Array Slot), wpX6_steps k 0 t li lj Q → lv_has ls 2 [(0, .ref (ad 4)), (1, .int (li 1))] → Hp D A s.heap (wX cI cJ cB cZ ad t) H locs → W p l e { frames := 0, cells := 0, slots := 0, locals := 0 } s m args below meth c H locs 0 0 (MQ below (va_Ql (fun r u => Q r u) (fun u t => xEnd D ((fun u : XT => (wX cI cJ cB cZ ad u)) u) A t) A) args s 0 0 A) (F0 m 0 ls [])) := by
    intro k
    induction k with
    | zero => exact fun _ _ _ _ _ _ hR => False.elim hR
    | succ k ih =>
      intro t li lj H locs ls hR hl h
      have hR : wbX6_steps_0 (wpX6_steps k) k t li lj Q := hR
      unfold wbX6_steps_0 at hR
      refine lv_aload_n hx hb dX6_steps_0 rfl (lv_at hl 0 rfl) ?_
      refine x_get (ci := 6) (C := RX6) (T := TX6) (N := 6) (v := .ref (ad 20)) B h hin6 4 1 rfl rfl (by decide) (by decide +kernel) rfl dX6_steps_1 ?_
      refine lv_iload_n hx hb dX6_steps_4 rfl (lv_at hl 1 rfl) ?_
      obtain ⟨hb_1, hR⟩ := hR
      refine va_iald (f := (t.2.2.1 5)) hx hb B.2.1 h.1 20 0 rfl rfl hb_1 dX6_steps_5 ?_
      refine lv_topi (fun v_1 ev_1 => ?_)
      have hR := hR v_1 ev_1
      refine lv_iconst (v := (-1)) hx hb dX6_steps_6 (by decide) ?_
      refine lv_icmp_ne (tgt := 22) hx hb dX6_steps_7 (by decide) (fun c_2 => ?_) (fun c_2 => ?_)
      · have hR := hR.1 c_2
        refine lv_aload_n hx hb dX6_steps_22 rfl (lv_at hl 0 rfl) ?_
        refine x_get (ci := 6) (C := RX6) (T := TX6) (N := 6) (v := .ref (ad 3)) B h hin6 4 0 rfl rfl (by decide) (by decide +kernel) rfl dX6_steps_23 ?_
        refine x_get (ci := 9) (C := RX9) (T := TX9) (N := 7) (v := .ref (ad 17)) B h hin9 3 4 rfl rfl (by decide) (by decide +kernel) rfl dX6_steps_26 ?_
        refine lv_iload_n hx hb dX6_steps_29 rfl (lv_at hl 1 rfl) ?_
        obtain ⟨hb_3, hR⟩ := hR
        refine va_lald (f := (t.2.2.2 0)) hx hb B.2.1 h.1 17 1 rfl rfl hb_3 dX6_steps_30 ?_
        refine lv_topl (fun v_3 ev_3 => ?_)
        have hR := hR v_3 ev_3
        refine lv_lconst (v := 1) hx hb dX6_steps_31 (by decide) ?_
        refine lv_aload_n hx hb dX6_steps_32 rfl (lv_at hl 0 rfl) ?_
        refine x_get (ci := 6) (C := RX6) (T := TX6) (N := 6) (v := .ref (ad 20)) B h hin6 4 1 rfl rfl (by decide) (by decide +kernel) rfl dX6_steps_33 ?_
        refine lv_iload_n hx hb dX6_steps_36 rfl (lv_at hl 1 rfl) ?_
        obtain ⟨hb_4, hR⟩ := hR
        refine va_iald (f := (t.2.2.1 5)) hx hb B.2.1 h.1 20 0 rfl rfl hb_4 dX6_steps_37 ?_
        refine lv_topi (fun v_4 ev_4 => ?_)
        have hR := hR v_4 ev_4
        obtain ⟨v_5, ev_5⟩ : ∃ v : Int64, v = ((1 : Int64) <<< (v_4.toInt64 &&& 63)) := ⟨_, rfl⟩
        have hR := hR v_5 ev_5
        refine lv_lshl (v := v_5) hx hb dX6_steps_38 ev_5.symm ?_
        refine lv_lxor hx hb dX6_steps_39 ?_
        refine lv_topl (fun v_6 ev_6 => ?_)
        have hR := hR v_6 ev_6
        exact x_lret (w1 := (fun u : XT => (wX cI cJ cB cZ ad u))) t B h hr hR dX6_steps_40
      · have hR := hR.2 c_2
        refine lv_aload_n hx hb dX6_steps_10 rfl (lv_at hl 0 rfl) ?_
        refine x_get (ci := 6) (C := RX6) (T := TX6) (N := 6) (v := .ref (ad 3)) B h hin6 4 0 rfl rfl (by decide) (by decide +kernel) rfl dX6_steps_11 ?_
        refine x_get (ci := 9) (C := RX9) (T := TX9) (N := 7) (v := .ref (ad 17)) B h hin9 3 4 rfl rfl (by decide) (by decide +kernel) rfl dX6_steps_14 ?_
        refine lv_iload_n hx hb dX6_steps_17 rfl (lv_at hl 1 rfl) ?_
        obtain ⟨hb_7, hR⟩ := hR
        refine va_lald (f := (t.2.2.2 0)) hx hb B.2.1 h.1 17 1 rfl rfl hb_7 dX6_steps_18 ?_
        refine lv_topl (fun v_7 ev_7 => ?_)
        have hR := hR v_7 ev_7
        refine lv_goto (tgt := 40) hx hb dX6_steps_19 (by decide) ?_
        exact x_lret (w1 := (fun u : XT => (wX cI cJ cB cZ ad u))) t B h hr hR dX6_steps_40
  exact (main k) t _ _ s.heap [] ls hR hl h
set_option maxRecDepth 20000 in
theorem ggX2_give_X11_isIn : GoodIn wsX2_give wsX11_isIn := goodIn_r _ [9] (by decide +kernel) (by decide +kernel)
set_option maxRecDepth 20000 in
theorem gX2_give_X11_isIn_n66 : GoodIn wsX2_give (wsX11_isIn) := ggX2_give_X11_isIn
set_option maxRecDepth 20000 in
theorem ggX2_give_X6_steps : GoodIn wsX2_give wsX6_steps := goodIn_r _ [14, 15, 16, 17, 33, 34, 35, 36, 37, 38, 26, 27, 28, 29, 30, 31, 32] (by decide +kernel) (by decide +kernel)
set_option maxRecDepth 20000 in
theorem gX2_give_X6_steps : GoodIn wsX2_give (wsV RX2 70 RX6 yX6_steps wsX6_steps) := goodIn_app (goodIn_of _ (by decide +kernel)) ggX2_give_X6_steps
set_option maxRecDepth 20000 in
theorem ggX2_give_X11_bit : GoodIn wsX2_give wsX11_bit := goodIn_r _ [19] (by decide +kernel) (by decide +kernel)
set_option maxRecDepth 20000 in
theorem gX2_give_X11_bit_n36 : GoodIn wsX2_give (wsX11_bit) := ggX2_give_X11_bit
def wbX2_give_0 (rec : Nat → XT → (Nat → Int32) → (Nat → Int64) → (Int64 → XT → Prop) → Prop) (k : Nat) (t : XT) (li : Nat → Int32) (lj : Nat → Int64) (Q : Int64 → XT → Prop) : Prop :=
  rec 1 t (uI li 6 0) (uI lj 4 0) Q
def wbX2_give_1 (rec : Nat → XT → (Nat → Int32) → (Nat → Int64) → (Int64 → XT → Prop) → Prop) (k : Nat) (t : XT) (li : Nat → Int32) (lj : Nat → Int64) (Q : Int64 → XT → Prop) : Prop :=
  ((((t.1 4) : Int32) ≤ (li 6)) → rec 3 t li lj Q) ∧ (¬ (((t.1 4) : Int32) ≤ (li 6)) → (((64 : Int32) ≤ (t.1 6)) → rec 3 t li lj Q) ∧ (¬ ((64 : Int32) ≤ (t.1 6)) → (wqX11_isIn k (lj 2) (li 6) (fun r_3 => ((r_3 = 0) → rec 2 t li lj Q) ∧ (¬ (r_3 = 0) → (wqX6_steps k t (li 6) (fun r_5 t_5 => (∀ v_6 : Int64, v_6 = (r_5 &&& (lj 2)) → (∀ v_7 : Int32, v_7 = (lg_cmp v_6 0) → ((¬ v_7 = 0) → rec 2 t_5 li lj Q) ∧ ((v_7 = 0) → (wqX11_bit k (li 6) (fun r_9 => (∀ v_10 : Int64, v_10 = ((lj 4) ||| r_9) → (vp_in (li 6) 64 ∧ (∀ t_11 : XT, t_11 = sA t_5 6 (upd (t_5.2.2.1 6) (li 6).toNatClampNeg (li 1)) → (vp_in (t_11.1 6) 64 ∧ (∀ t_12 : XT, t_12 = sA t_11 7 (upd (t_11.2.2.1 7) (t_11.1 6).toNatClampNeg (li 6)) → (∀ v_13 : Int32, v_13 = ((t_12.1 6) + 1) → (∀ t_14 : XT, t_14 = sI t_12 6 v_13 → rec 2 t_14 li (uI lj 4 v_10) Q)))))))))))))))))))
def wbX2_give_2 (rec : Nat → XT → (Nat → Int32) → (Nat → Int64) → (Int64 → XT → Prop) → Prop) (k : Nat) (t : XT) (li : Nat → Int32) (lj : Nat → Int64) (Q : Int64 → XT → Prop) : Prop :=
  (∀ v_15 : Int32, v_15 = (li 6) + Int32.ofInt 1 → rec 1 t (uI li 6 v_15) lj Q)
def wbX2_give_3 (rec : Nat → XT → (Nat → Int32) → (Nat → Int64) → (Int64 → XT → Prop) → Prop) (k : Nat) (t : XT) (li : Nat → Int32) (lj : Nat → Int64) (Q : Int64 → XT → Prop) : Prop :=
  Q (lj 4) t
def wpX2_give : Nat → Nat → XT → (Nat → Int32) → (Nat → Int64) → (Int64 → XT → Prop) → Prop
  | 0, _, _, _, _, _ => False
  | k + 1, 0, t, li, lj, Q => wbX2_give_0 (wpX2_give k) k t li lj Q
  | k + 1, 1, t, li, lj, Q => wbX2_give_1 (wpX2_give k) k t li lj Q
  | k + 1, 2, t, li, lj, Q => wbX2_give_2 (wpX2_give k) k t li lj Q
  | k + 1, 3, t, li, lj, Q => wbX2_give_3 (wpX2_give k) k t li lj Q
  | _ + 1, _, _, _, _, _ => False
def wqX2_give (k : Nat) (t : XT) (a1 : Int32) (a2 : Int64) (Q : Int64 → XT → Prop) : Prop := wpX2_give k 0 t (uI (fun _ => 0) 1 a1) (uI (fun _ => 0) 2 a2) Q
set_option maxHeartbeats 8000000 in
set_option maxRecDepth 100000 in
theorem wkX2_give (l : Launch) (D : va_G) (cI cJ cB cZ : ClassId) (ad : Nat → Nat) (k : Nat) (t : XT) (a1 : Int32) (a2 : Int64) (Q : Int64 → XT → Prop) (hR : wqX2_give k t a1 a2 Q) : MetL l yX2_give wsX2_give 1 22 0 0 D (TYS cI cJ cB cZ) (wX cI cJ cB cZ ad t) [.ref (ad 6), .int a1, .long a2] (fun r u => Q r u) (fun u : XT => (wX cI cJ cB cZ ad u)) := by
  refine x_startL (ty := .long) (cc := cX2_give) (by decide) rfl (Nat.le_of_ble_eq_true rfl) ?_
  intro p e s m args below meth c A ls B hr hnm h hl
  have hx := B.1.1
  have hb := B.1.2.1
  have hml := B.1.2.2.1
  have hts := B.1.2.2.2.2
  have hown : s.vm.findClass RX2 = some m.cls := B.1.2.2.2.1
  have hin2 : ∀ w ∈ u_ws RX2 TX2 6, w ∈ wsX2_give := by decide +kernel
  have hin9 : ∀ w ∈ u_ws RX9 TX9 7, w ∈ wsX2_give := by decide +kernel
  have main : ∀ k : Nat, (∀ (t : XT) (li : Nat → Int32) (lj : Nat → Int64) (H : Heap) (locs : List Loc) (ls : Array Slot), wpX2_give k 0 t li lj Q → lv_has ls 7 [(0, .ref (ad 6)), (1, .int (li 1)), (2, .long (lj 2))] → Hp D A s.heap (wX cI cJ cB cZ ad t) H locs → W p l e { frames := 1, cells := 0, slots := 0, locals := 22 } s m args below meth c H locs 0 0 (MQ below (va_Ql (fun r u => Q r u) (fun u t => xEnd D ((fun u : XT => (wX cI cJ cB cZ ad u)) u) A t) A) args s 0 0 A) (F0 m 0 ls [])) ∧
      (∀ (t : XT) (li : Nat → Int32) (lj : Nat → Int64) (H : Heap) (locs : List Loc) (ls : Array Slot), wpX2_give k 1 t li lj Q → lv_has ls 7 [(0, .ref (ad 6)), (1, .int (li 1)), (2, .long (lj 2)), (4, .long (lj 4)), (6, .int (li 6))] → Hp D A s.heap (wX cI cJ cB cZ ad t) H locs → W p l e { frames := 1, cells := 0, slots := 0, locals := 22 } s m args below meth c H locs 0 0 (MQ below (va_Ql (fun r u => Q r u) (fun u t => xEnd D ((fun u : XT => (wX cI cJ cB cZ ad u)) u) A t) A) args s 0 0 A) (F0 m 6 ls [])) ∧
      (∀ (t : XT) (li : Nat → Int32) (lj : Nat → Int64) (H : Heap) (locs : List Loc) (ls : Array Slot), wpX2_give k 2 t li lj Q → lv_has ls 7 [(0, .ref (ad 6)), (1, .int (li 1)), (2, .long (lj 2)), (4, .long (lj 4)), (6, .int (li 6))] → Hp D A s.heap (wX cI cJ cB cZ ad t) H locs → W p l e { frames := 1, cells := 0, slots := 0, locals := 22 } s m args below meth c H locs 0 0 (MQ below (va_Ql (fun r u => Q r u) (fun u t => xEnd D ((fun u : XT => (wX cI cJ cB cZ ad u)) u) A t) A) args s 0 0 A) (F0 m 91 ls [])) ∧
      (∀ (t : XT) (li : Nat → Int32) (lj : Nat → Int64) (H : Heap) (locs : List Loc) (ls : Array Slot), wpX2_give k 3 t li lj Q → lv_has ls 7 [(0, .ref (ad 6)), (1, .int (li 1)), (2, .long (lj 2)), (4, .long (lj 4)), (6, .int (li 6))] → Hp D A s.heap (wX cI cJ cB cZ ad t) H locs → W p l e { frames := 1, cells := 0, slots := 0, locals := 22 } s m args below meth c H locs 0 0 (MQ below (va_Ql (fun r u => Q r u) (fun u t => xEnd D ((fun u : XT => (wX cI cJ cB cZ ad u)) u) A t) A) args s 0 0 A) (F0 m 97 ls [])) := by
    intro k
    induction k with
    | zero => exact ⟨fun _ _ _ _ _ _ hR => False.elim hR, fun _ _ _ _ _ _ hR => False.elim hR, fun _ _ _ _ _ _ hR => False.elim hR, fun _ _ _ _ _ _ hR => False.elim hR⟩
    | succ k ih =>
      refine ⟨?_, ?_, ?_, ?_⟩
      · intro t li lj H locs ls hR hl h
        have hR : wbX2_give_0 (wpX2_give k) k t li lj Q := hR
        unfold wbX2_give_0 at hR
        refine lv_lconst (v := 0) hx hb dX2_give_0 (by decide) ?_
        refine lv_lstore (lv' := [(4, .long 0), (0, .ref (ad 6)), (1, .int (li 1)), (2, .long (lj 2))]) hx hb dX2_give_1 hl (by decide) rfl (fun ls hl => ?_)
        refine lv_iconst (v := 0) hx hb dX2_give_3 (by decide) ?_
        refine lv_istore (lv' := [(6, .int 0), (4, .long 0), (0, .ref (ad 6)), (1, .int (li 1)), (2, .long (lj 2))]) hx hb dX2_give_4 hl (by decide) rfl (fun ls hl => ?_)
        exact ih.2.1 t (uI li 6 0) (uI lj 4 0) H locs ls hR (lv_sub hl [2, 3, 4, 1, 0] rfl) h
      · intro t li lj H locs ls hR hl h
        have hR : wbX2_give_1 (wpX2_give k) k t li lj Q := hR
        unfold wbX2_give_1 at hR
        refine lv_iload hx hb dX2_give_6 (lv_at hl 4 rfl) ?_
        refine lv_aload_n hx hb dX2_give_8 rfl (lv_at hl 0 rfl) ?_
        refine x_get (ci := 2) (C := RX2) (T := TX2) (N := 6) (v := .ref (ad 3)) B h hin2 6 0 rfl rfl (by decide) (by decide +kernel) rfl dX2_give_9 ?_
        refine x_get (ci := 9) (C := RX9) (T := TX9) (N := 7) (v := .int (t.1 4)) B h hin9 3 0 rfl rfl (by decide) (by decide +kernel) rfl dX2_give_12 ?_
        refine lv_icmp_ge (tgt := 97) hx hb dX2_give_15 (by decide) (fun c_1 => ?_) (fun c_1 => ?_)
        · have hR := hR.1 c_1
          exact ih.2.2.2 t li lj H locs ls hR (lv_sub hl [0, 1, 2, 3, 4] rfl) h
        · have hR := hR.2 c_1
          refine lv_aload_n hx hb dX2_give_18 rfl (lv_at hl 0 rfl) ?_
          refine x_get (ci := 2) (C := RX2) (T := TX2) (N := 6) (v := .int (t.1 6)) B h hin2 6 4 rfl rfl (by decide) (by decide +kernel) rfl dX2_give_19 ?_
          refine lv_bipush (v := 64) hx hb dX2_give_22 (by decide) ?_
          refine lv_icmp_ge (tgt := 97) hx hb dX2_give_24 (by decide) (fun c_2 => ?_) (fun c_2 => ?_)
          · have hR := hR.1 c_2
            exact ih.2.2.2 t li lj H locs ls hR (lv_sub hl [0, 1, 2, 3, 4] rfl) h
          · have hR := hR.2 c_2
            refine lv_lload_n hx hb dX2_give_27 rfl (lv_at hl 2 rfl) ?_
            refine lv_iload hx hb dX2_give_28 (lv_at hl 4 rfl) ?_
            refine x_cNIE (n := 2) (As := [.long (lj 2), .int (li 6)]) (rest := []) B h (wkX11_isIn l D cI cJ cB cZ ad k (lj 2) (li 6) _ hR) ⟨⟨_, rfl⟩, by decide +kernel, Nat.le_of_ble_eq_true rfl, Nat.le_of_ble_eq_true rfl⟩ gX2_give_X11_isIn_n66 (by decide +kernel) (by decide +kernel) (host := "MorseDesk") (by decide +kernel) rfl hl.1 rfl (Nat.le_of_ble_eq_true rfl) dX2_give_30 ⟨Nat.le_of_ble_eq_true rfl, Nat.le_of_ble_eq_true rfl⟩ (fun r_3 _ H locs hR h => ?_)
            refine lv_if_eq (tgt := 91) hx hb dX2_give_33 (by decide) (fun c_4 => ?_) (fun c_4 => ?_)
            · have hR := hR.1 c_4
              exact ih.2.2.1 t li lj H locs ls hR (lv_sub hl [0, 1, 2, 3, 4] rfl) h
            · have hR := hR.2 c_4
              refine lv_aload_n hx hb dX2_give_36 rfl (lv_at hl 0 rfl) ?_
              refine x_get (ci := 2) (C := RX2) (T := TX2) (N := 6) (v := .ref (ad 4)) B h hin2 6 1 rfl rfl (by decide) (by decide +kernel) rfl dX2_give_37 ?_
              refine lv_iload hx hb dX2_give_40 (lv_at hl 4 rfl) ?_
              refine x_cVLF (n := 1) (As := [.int (li 6)]) (rest := []) B h (wkX6_steps l D cI cJ cB cZ ad k t (li 6) _ hR) ⟨⟨_, rfl⟩, by decide +kernel, Nat.le_of_ble_eq_true rfl, Nat.le_of_ble_eq_true rfl⟩ gX2_give_X6_steps (show ((wX cI cJ cB cZ ad t) : va_W)[4]? = some (_, .inr (6, _)) from rfl) rfl rfl hl.1 rfl (Nat.le_of_ble_eq_true rfl) dX2_give_42 ⟨Nat.le_of_ble_eq_true rfl, Nat.le_of_ble_eq_true rfl⟩ (fun r_5 t_5 H locs hR h => ?_)
              refine lv_lload_n hx hb dX2_give_45 rfl (lv_at hl 2 rfl) ?_
              refine lv_land hx hb dX2_give_46 ?_
              refine lv_topl (fun v_6 ev_6 => ?_)
              have hR := hR v_6 ev_6
              refine lv_lconst (v := 0) hx hb dX2_give_47 (by decide) ?_
              refine W.lcmp hx hb dX2_give_48 ?_
              refine lv_topi (fun v_7 ev_7 => ?_)
              have hR := hR v_7 ev_7
              refine lv_if_ne (tgt := 91) hx hb dX2_give_49 (by decide) (fun c_8 => ?_) (fun c_8 => ?_)
              · have hR := hR.1 c_8
                exact ih.2.2.1 t_5 li lj H locs ls hR (lv_sub hl [0, 1, 2, 3, 4] rfl) h
              · have hR := hR.2 c_8
                refine lv_lload hx hb dX2_give_52 (lv_at hl 3 rfl) ?_
                refine lv_iload hx hb dX2_give_54 (lv_at hl 4 rfl) ?_
                refine x_cNLE (n := 1) (As := [.int (li 6)]) (rest := [.long (lj 4)]) B h (wkX11_bit l D cI cJ cB cZ ad k (li 6) _ hR) ⟨⟨_, rfl⟩, by decide +kernel, Nat.le_of_ble_eq_true rfl, Nat.le_of_ble_eq_true rfl⟩ gX2_give_X11_bit_n36 (by decide +kernel) (by decide +kernel) (host := "MorseDesk") (by decide +kernel) rfl hl.1 rfl (Nat.le_of_ble_eq_true rfl) dX2_give_56 ⟨Nat.le_of_ble_eq_true rfl, Nat.le_of_ble_eq_true rfl⟩ (fun r_9 _ H locs hR h => ?_)
                refine lv_lor hx hb dX2_give_59 ?_
                refine lv_topl (fun v_10 ev_10 => ?_)
                have hR := hR v_10 ev_10
                refine lv_lstore (lv' := [(4, .long v_10), (0, .ref (ad 6)), (1, .int (li 1)), (2, .long (lj 2)), (6, .int (li 6))]) hx hb dX2_give_60 hl (by decide) rfl (fun ls hl => ?_)
                refine lv_aload_n hx hb dX2_give_62 rfl (lv_at hl 1 rfl) ?_
                refine x_get (ci := 2) (C := RX2) (T := TX2) (N := 6) (v := .ref (ad 21)) B h hin2 6 2 rfl rfl (by decide) (by decide +kernel) rfl dX2_give_63 ?_
                refine lv_iload hx hb dX2_give_66 (lv_at hl 4 rfl) ?_
                refine lv_iload_n hx hb dX2_give_68 rfl (lv_at hl 2 rfl) ?_
                obtain ⟨hb_11, hR⟩ := hR
                refine z_iast (f := (t_5.2.2.1 6)) B h 21 0 rfl rfl hb_11 dX2_give_69 (fun H locs h => ?_)
                obtain ⟨t_11, et_11⟩ : ∃ v : XT, v = sA t_5 6 (upd (t_5.2.2.1 6) (li 6).toNatClampNeg (li 1)) := ⟨_, rfl⟩
                have hR := hR t_11 et_11
                have h : Hp D A s.heap (wX cI cJ cB cZ ad t_11) H locs := by rw [et_11]; exact h
                refine lv_aload_n hx hb dX2_give_70 rfl (lv_at hl 1 rfl) ?_
                refine x_get (ci := 2) (C := RX2) (T := TX2) (N := 6) (v := .ref (ad 22)) B h hin2 6 3 rfl rfl (by decide) (by decide +kernel) rfl dX2_give_71 ?_
                refine lv_aload_n hx hb dX2_give_74 rfl (lv_at hl 1 rfl) ?_
                refine x_get (ci := 2) (C := RX2) (T := TX2) (N := 6) (v := .int (t_11.1 6)) B h hin2 6 4 rfl rfl (by decide) (by decide +kernel) rfl dX2_give_75 ?_
                refine lv_iload hx hb dX2_give_78 (lv_at hl 4 rfl) ?_
                obtain ⟨hb_12, hR⟩ := hR
                refine z_iast (f := (t_11.2.2.1 7)) B h 22 0 rfl rfl hb_12 dX2_give_80 (fun H locs h => ?_)
                obtain ⟨t_12, et_12⟩ : ∃ v : XT, v = sA t_11 7 (upd (t_11.2.2.1 7) (t_11.1 6).toNatClampNeg (li 6)) := ⟨_, rfl⟩
                have hR := hR t_12 et_12
                have h : Hp D A s.heap (wX cI cJ cB cZ ad t_12) H locs := by rw [et_12]; exact h
                refine lv_aload_n hx hb dX2_give_81 rfl (lv_at hl 1 rfl) ?_
                refine lv_dup hx hb dX2_give_82 rfl ?_
                refine x_get (ci := 2) (C := RX2) (T := TX2) (N := 6) (v := .int (t_12.1 6)) B h hin2 6 4 rfl rfl (by decide) (by decide +kernel) rfl dX2_give_83 ?_
                refine lv_iconst (v := 1) hx hb dX2_give_86 (by decide) ?_
                refine lv_iadd hx hb dX2_give_87 ?_
                refine lv_topi (fun v_13 ev_13 => ?_)
                have hR := hR v_13 ev_13
                refine x_put (ci := 2) (C := RX2) (T := TX2) (N := 6) (v := .int v_13) (ty := .int) B h hin2 tyX2 tyX2_ok nmX2 6 4 rfl rfl (by decide) (by decide +kernel) rfl rfl rfl rfl (Nat.le_of_ble_eq_true rfl) dX2_give_88 (fun H locs h => ?_)
                obtain ⟨t_14, et_14⟩ : ∃ v : XT, v = sI t_12 6 v_13 := ⟨_, rfl⟩
                have hR := hR t_14 et_14
                have h : Hp D A s.heap (wX cI cJ cB cZ ad t_14) H locs := by rw [et_14]; exact h
                exact ih.2.2.1 t_14 li (uI lj 4 v_10) H locs ls hR (lv_sub hl [1, 2, 3, 0, 4] rfl) h
      · intro t li lj H locs ls hR hl h
        have hR : wbX2_give_2 (wpX2_give k) k t li lj Q := hR
        unfold wbX2_give_2 at hR
        obtain ⟨v_15, ev_15⟩ : ∃ v : Int32, v = (li 6) + Int32.ofInt 1 := ⟨_, rfl⟩
        have hR := hR v_15 ev_15
        refine lv_iinc (v := v_15) (lv' := [(6, .int v_15), (0, .ref (ad 6)), (1, .int (li 1)), (2, .long (lj 2)), (4, .long (lj 4))]) hx hb dX2_give_91 hl (k := 4) rfl ev_15.symm (by decide) rfl (fun ls hl => ?_)
        refine lv_goto (tgt := 6) hx hb dX2_give_94 (by decide) ?_
        exact ih.2.1 t (uI li 6 v_15) lj H locs ls hR (lv_sub hl [1, 2, 3, 4, 0] rfl) h
      · intro t li lj H locs ls hR hl h
        have hR : wbX2_give_3 (wpX2_give k) k t li lj Q := hR
        unfold wbX2_give_3 at hR
        refine lv_lload hx hb dX2_give_97 (lv_at hl 3 rfl) ?_
        exact x_lret (w1 := (fun u : XT => (wX cI cJ cB cZ ad u))) t B h hr hR dX2_give_99
  exact (main k).1 t _ _ s.heap [] ls hR hl h
