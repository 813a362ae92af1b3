def wbX6_unpaired_0 (rec : Nat → XT → (Nat → Int32) → (Nat → Int64) → (Int64 → XT → Prop) → Prop) (k : Nat) (t : XT) (li : Nat → Int32) (lj : Nat → Int64) (Q : Int64 → XT → Prop) : Prop :=
  (∀ v_1 : Int64, v_1 = ((t.2.1 1) ||| (t.2.1 2)) → (∀ v_2 : Int64, v_2 = (v_1 ^^^ (-1)) → (∀ v_3 : Int64, v_3 = ((t.2.1 0) &&& v_2) → Q v_3 t)))
def wpX6_unpaired : Nat → Nat → XT → (Nat → Int32) → (Nat → Int64) → (Int64 → XT → Prop) → Prop
  | 0, _, _, _, _, _ => False
  | k + 1, 0, t, li, lj, Q => wbX6_unpaired_0 (wpX6_unpaired k) k t li lj Q
  | _ + 1, _, _, _, _, _ => False
def wqX6_unpaired (k : Nat) (t : XT)  (Q : Int64 → XT → Prop) : Prop := wpX6_unpaired k 0 t (fun _ => 0) (fun _ => 0) Q
set_option maxHeartbeats 8000000 in
set_option maxRecDepth 100000 in
theorem wkX6_unpaired (l : Launch) (D : va_G) (cI cJ cB cZ : ClassId) (ad : Nat → Nat) (k : Nat) (t : XT)  (Q : Int64 → XT → Prop) (hR : wqX6_unpaired k t  Q) : MetL l yX6_unpaired wsX6_unpaired 0 0 0 0 D (TYS cI cJ cB cZ) (wX cI cJ cB cZ ad t) [.ref (ad 4)] (fun r u => Q r u) (fun u : XT => (wX cI cJ cB cZ ad u)) := by
  refine x_startL (ty := .long) (cc := cX6_unpaired) (by decide) rfl (Nat.le_of_ble_eq_true rfl) ?_
  intro p e s m args below meth c A ls B hr hnm h hl
  have hx := B.1.1
  have hb := B.1.2.1
  have hml := B.1.2.2.1
  have hts := B.1.2.2.2.2
  have hown : s.vm.findClass RX6 = some m.cls := B.1.2.2.2.1
  have hin6 : ∀ w ∈ u_ws RX6 TX6 6, w ∈ wsX6_unpaired := by decide +kernel
  have main : ∀ k : Nat, (∀ (t : XT) (li : Nat → Int32) (lj : Nat → Int64) (H : Heap) (locs : List Loc) (ls : Array Slot), wpX6_unpaired k 0 t li lj Q → lv_has ls 1 [(0, .ref (ad 4))] → Hp D A s.heap (wX cI cJ cB cZ ad t) H locs → W p l e { frames := 0, cells := 0, slots := 0, locals := 0 } s m args below meth c H locs 0 0 (MQ below (va_Ql (fun r u => Q r u) (fun u t => xEnd D ((fun u : XT => (wX cI cJ cB cZ ad u)) u) A t) A) args s 0 0 A) (F0 m 0 ls [])) := by
    intro k
    induction k with
    | zero => exact fun _ _ _ _ _ _ hR => False.elim hR
    | succ k ih =>
      intro t li lj H locs ls hR hl h
      have hR : wbX6_unpaired_0 (wpX6_unpaired k) k t li lj Q := hR
      unfold wbX6_unpaired_0 at hR
      refine lv_aload_n hx hb dX6_unpaired_0 rfl (lv_at hl 0 rfl) ?_
      refine x_get (ci := 6) (C := RX6) (T := TX6) (N := 6) (v := .long (t.2.1 0)) B h hin6 4 2 rfl rfl (by decide) (by decide +kernel) rfl dX6_unpaired_1 ?_
      refine lv_aload_n hx hb dX6_unpaired_4 rfl (lv_at hl 0 rfl) ?_
      refine x_get (ci := 6) (C := RX6) (T := TX6) (N := 6) (v := .long (t.2.1 1)) B h hin6 4 3 rfl rfl (by decide) (by decide +kernel) rfl dX6_unpaired_5 ?_
      refine lv_aload_n hx hb dX6_unpaired_8 rfl (lv_at hl 0 rfl) ?_
      refine x_get (ci := 6) (C := RX6) (T := TX6) (N := 6) (v := .long (t.2.1 2)) B h hin6 4 4 rfl rfl (by decide) (by decide +kernel) rfl dX6_unpaired_9 ?_
      refine lv_lor hx hb dX6_unpaired_12 ?_
      refine lv_topl (fun v_1 ev_1 => ?_)
      have hR := hR v_1 ev_1
      refine lv_ldc2 (v := (-1)) hx hb hown (hts (.constantLong RX6 43 (-1)) (by decide +kernel)) dX6_unpaired_13 ?_
      refine lv_lxor hx hb dX6_unpaired_16 ?_
      refine lv_topl (fun v_2 ev_2 => ?_)
      have hR := hR v_2 ev_2
      refine lv_land hx hb dX6_unpaired_17 ?_
      refine lv_topl (fun v_3 ev_3 => ?_)
      have hR := hR v_3 ev_3
      exact x_lret (w1 := (fun u : XT => (wX cI cJ cB cZ ad u))) t B h hr hR dX6_unpaired_18
  exact (main k) t _ _ s.heap [] ls hR hl h
set_option maxRecDepth 20000 in
theorem ggX6_isCritical_X6_unpaired : GoodIn wsX6_isCritical wsX6_unpaired := goodIn_r _ [5, 6, 7, 8, 9, 13, 14, 15, 16, 17, 18] (by decide +kernel) (by decide +kernel)
set_option maxRecDepth 20000 in
theorem gX6_isCritical_X6_unpaired : GoodIn wsX6_isCritical (wsV RX6 57 RX6 yX6_unpaired wsX6_unpaired) := goodIn_app (goodIn_of _ (by decide +kernel)) ggX6_isCritical_X6_unpaired
set_option maxRecDepth 20000 in
theorem ggX6_isCritical_X11_isIn : GoodIn wsX6_isCritical wsX11_isIn := goodIn_r _ [12] (by decide +kernel) (by decide +kernel)
set_option maxRecDepth 20000 in
theorem gX6_isCritical_X11_isIn_n61 : GoodIn wsX6_isCritical (wsX11_isIn) := ggX6_isCritical_X11_isIn
def wbX6_isCritical_0 (rec : Nat → XT → (Nat → Int32) → (Nat → Int64) → (Int32 → XT → Prop) → Prop) (k : Nat) (t : XT) (li : Nat → Int32) (lj : Nat → Int64) (Q : Int32 → XT → Prop) : Prop :=
  (wqX6_unpaired k t  (fun r_1 t_1 => (wqX11_isIn k r_1 (li 1) (fun r_2 => ((r_2 = 0 ∨ r_2 = 1) ∧ Q r_2 t_1)))))
def wpX6_isCritical : Nat → Nat → XT → (Nat → Int32) → (Nat → Int64) → (Int32 → XT → Prop) → Prop
  | 0, _, _, _, _, _ => False
  | k + 1, 0, t, li, lj, Q => wbX6_isCritical_0 (wpX6_isCritical k) k t li lj Q
  | _ + 1, _, _, _, _, _ => False
def wqX6_isCritical (k : Nat) (t : XT) (a1 : Int32) (Q : Int32 → XT → Prop) : Prop := wpX6_isCritical k 0 t (uI (fun _ => 0) 1 a1) (fun _ => 0) Q
set_option maxHeartbeats 8000000 in
set_option maxRecDepth 100000 in
theorem wkX6_isCritical (l : Launch) (D : va_G) (cI cJ cB cZ : ClassId) (ad : Nat → Nat) (k : Nat) (t : XT) (a1 : Int32) (Q : Int32 → XT → Prop) (hR : wqX6_isCritical k t a1 Q) : MetI l yX6_isCritical wsX6_isCritical 1 22 0 0 D (TYS cI cJ cB cZ) (wX cI cJ cB cZ ad t) [.ref (ad 4), .int a1] (fun r u => Q r u) (fun u : XT => (wX cI cJ cB cZ ad u)) := by
  refine x_startI (ty := .boolean) (cc := cX6_isCritical) (by decide) rfl (Nat.le_of_ble_eq_true rfl) ?_
  intro p e s m args below meth c A ls B hr hnm h hl
  have hx := B.1.1
  have hb := B.1.2.1
  have hml := B.1.2.2.1
  have hts := B.1.2.2.2.2
  have hown : s.vm.findClass RX6 = some m.cls := B.1.2.2.2.1
  have main : ∀ k : Nat, (∀ (t : XT) (li : Nat → Int32) (lj : Nat → Int64) (H : Heap) (locs : List Loc) (ls : Array Slot), wpX6_isCritical k 0 t li lj Q → lv_has ls 2 [(0, .ref (ad 4)), (1, .int (li 1))] → Hp D A s.heap (wX cI cJ cB cZ ad t) H locs → W p l e { frames := 1, cells := 0, slots := 0, locals := 22 } s m args below meth c H locs 0 0 (MQ below (va_Qi (fun r u => Q r u) (fun u t => xEnd D ((fun u : XT => (wX cI cJ cB cZ ad u)) u) A t) A) args s 0 0 A) (F0 m 0 ls [])) := by
    intro k
    induction k with
    | zero => exact fun _ _ _ _ _ _ hR => False.elim hR
    | succ k ih =>
      intro t li lj H locs ls hR hl h
      have hR : wbX6_isCritical_0 (wpX6_isCritical k) k t li lj Q := hR
      unfold wbX6_isCritical_0 at hR
      refine lv_aload_n hx hb dX6_isCritical_0 rfl (lv_at hl 0 rfl) ?_
      refine x_cVLF (n := 0) (As := []) (rest := []) B h (wkX6_unpaired l D cI cJ cB cZ ad k t  _ hR) ⟨⟨_, rfl⟩, by decide +kernel, Nat.le_of_ble_eq_true rfl, Nat.le_of_ble_eq_true rfl⟩ gX6_isCritical_X6_unpaired (show ((wX cI cJ cB cZ ad t) : va_W)[4]? = some (_, .inr (6, _)) from rfl) rfl rfl hl.1 rfl (Nat.le_of_ble_eq_true rfl) dX6_isCritical_1 ⟨Nat.le_of_ble_eq_true rfl, Nat.le_of_ble_eq_true rfl⟩ (fun r_1 t_1 H locs hR h => ?_)
      refine lv_iload_n hx hb dX6_isCritical_4 rfl (lv_at hl 1 rfl) ?_
      refine x_cNIE (n := 2) (As := [.long r_1, .int (li 1)]) (rest := []) B h (wkX11_isIn l D cI cJ cB cZ ad k r_1 (li 1) _ hR) ⟨⟨_, rfl⟩, by decide +kernel, Nat.le_of_ble_eq_true rfl, Nat.le_of_ble_eq_true rfl⟩ gX6_isCritical_X11_isIn_n61 (by decide +kernel) (by decide +kernel) (host := "MorseDesk") (by decide +kernel) rfl hl.1 rfl (Nat.le_of_ble_eq_true rfl) dX6_isCritical_5 ⟨Nat.le_of_ble_eq_true rfl, Nat.le_of_ble_eq_true rfl⟩ (fun r_2 _ H locs hR h => ?_)
      obtain ⟨hz_3, hR⟩ := hR
      exact x_iret (w1 := (fun u : XT => (wX cI cJ cB cZ ad u))) t_1 B h hr (by rcases hz_3 with h_ | h_ <;> rw [h_] <;> rfl) hR dX6_isCritical_8
  exact (main k) t _ _ s.heap [] ls hR hl h
set_option maxRecDepth 20000 in
theorem ggX11_lowest_J13_bitCount_95d88 : GoodIn wsX11_lowest wsJ13_bitCount_95d88 := goodIn_r _ [4, 5, 6, 7] (by decide +kernel) (by decide +kernel)
set_option maxRecDepth 20000 in
theorem gX11_lowest_J13_bitCount_95d88 : GoodIn wsX11_lowest (va_wsS RX11 151 yJ13_bitCount_95d88 wsJ13_bitCount_95d88) := goodIn_app (goodIn_of _ (by decide +kernel)) ggX11_lowest_J13_bitCount_95d88
def wbX11_lowest_0 (rec : Nat → (Nat → Int32) → (Nat → Int64) → (Int32 → Prop) → Prop) (k : Nat) (li : Nat → Int32) (lj : Nat → Int64) (Q : Int32 → Prop) : Prop :=
  (∀ v_1 : Int64, v_1 = (-(lj 0)) → (∀ v_2 : Int64, v_2 = ((lj 0) &&& v_1) → (∀ v_3 : Int64, v_3 = (v_2 - 1) → (wqJ13_bitCount_95d88 k v_3 (fun r_4 => (∀ v_5 : Int32, v_5 = (r_4 &&& 63) → Q v_5))))))
def wpX11_lowest : Nat → Nat → (Nat → Int32) → (Nat → Int64) → (Int32 → Prop) → Prop
  | 0, _, _, _, _ => False
  | k + 1, 0, li, lj, Q => wbX11_lowest_0 (wpX11_lowest k) k li lj Q
  | _ + 1, _, _, _, _ => False
def wqX11_lowest (k : Nat) (a0 : Int64) (Q : Int32 → Prop) : Prop := wpX11_lowest k 0 (fun _ => 0) (uI (fun _ => 0) 0 a0) Q
set_option maxHeartbeats 8000000 in
set_option maxRecDepth 100000 in
theorem wkX11_lowest (l : Launch) (D : va_G) (cI cJ cB cZ : ClassId) (ad : Nat → Nat) (k : Nat) (a0 : Int64) (Q : Int32 → Prop) (hR : wqX11_lowest k a0 Q) : MetI l yX11_lowest wsX11_lowest 1 21 0 0 D (TYS cI cJ cB cZ) [] [.long a0] (fun r _ => Q r) (fun _ : Unit => []) := by
  refine x_startI (ty := .int) (cc := cX11_lowest) (by decide) rfl (Nat.le_of_ble_eq_true rfl) ?_
  intro p e s m args below meth c A ls B hr hnm h hl
  have hx := B.1.1
  have hb := B.1.2.1
  have hml := B.1.2.2.1
  have hts := B.1.2.2.2.2
  have hown : s.vm.findClass RX11 = some m.cls := B.1.2.2.2.1
  have main : ∀ k : Nat, (∀ (li : Nat → Int32) (lj : Nat → Int64) (H : Heap) (locs : List Loc) (ls : Array Slot), wpX11_lowest k 0 li lj Q → lv_has ls 2 [(0, .long (lj 0))] → Hp D A s.heap [] H locs → W p l e { frames := 1, cells := 0, slots := 0, locals := 21 } s m args below meth c H locs 0 0 (MQ below (va_Qi (fun r _ => Q r) (fun u t => xEnd D ((fun _ : Unit => []) u) A t) A) args s 0 0 A) (F0 m 0 ls [])) := by
    intro k
    induction k with
    | zero => exact fun _ _ _ _ _ hR => False.elim hR
    | succ k ih =>
      intro li lj H locs ls hR hl h
      have hR : wbX11_lowest_0 (wpX11_lowest k) k li lj Q := hR
      unfold wbX11_lowest_0 at hR
      refine lv_lload_n hx hb dX11_lowest_0 rfl (lv_at hl 0 rfl) ?_
      refine lv_lload_n hx hb dX11_lowest_1 rfl (lv_at hl 0 rfl) ?_
      refine lv_lneg hx hb dX11_lowest_2 ?_
      refine lv_topl (fun v_1 ev_1 => ?_)
      have hR := hR v_1 ev_1
      refine lv_land hx hb dX11_lowest_3 ?_
      refine lv_topl (fun v_2 ev_2 => ?_)
      have hR := hR v_2 ev_2
      refine lv_lconst (v := 1) hx hb dX11_lowest_4 (by decide) ?_
      refine lv_lsub hx hb dX11_lowest_5 ?_
      refine lv_topl (fun v_3 ev_3 => ?_)
      have hR := hR v_3 ev_3
      refine x_cSIE (n := 1) (As := [.long v_3]) (rest := []) B h (wkJ13_bitCount_95d88 l D cI cJ cB cZ ad k v_3 _ hR) ⟨⟨_, rfl⟩, by decide +kernel, Nat.le_of_ble_eq_true rfl, Nat.le_of_ble_eq_true rfl⟩ gX11_lowest_J13_bitCount_95d88 rfl hl.1 rfl (Nat.le_of_ble_eq_true rfl) dX11_lowest_6 ⟨Nat.le_of_ble_eq_true rfl, Nat.le_of_ble_eq_true rfl⟩ (fun r_4 _ H locs hR h => ?_)
      refine lv_bipush (v := 63) hx hb dX11_lowest_9 (by decide) ?_
      refine lv_iand hx hb dX11_lowest_11 ?_
      refine lv_topi (fun v_5 ev_5 => ?_)
      have hR := hR v_5 ev_5
      exact x_iret (w1 := (fun _ : Unit => [])) () B h hr rfl hR dX11_lowest_12
  exact (main k) _ _ s.heap [] ls hR hl h
set_option maxRecDepth 20000 in
theorem ggX6_staysAcyclic_X11_bit : GoodIn wsX6_staysAcyclic wsX11_bit := goodIn_r _ [8] (by decide +kernel) (by decide +kernel)
set_option maxRecDepth 20000 in
theorem gX6_staysAcyclic_X11_bit_n39 : GoodIn wsX6_staysAcyclic (wsX11_bit) := ggX6_staysAcyclic_X11_bit
set_option maxRecDepth 20000 in
theorem ggX6_staysAcyclic_X11_lowest : GoodIn wsX6_staysAcyclic wsX11_lowest := goodIn_r _ [10, 11, 12, 13, 14, 15, 16, 17] (by decide +kernel) (by decide +kernel)
set_option maxRecDepth 20000 in
theorem gX6_staysAcyclic_X11_lowest_n77 : GoodIn wsX6_staysAcyclic (wsX11_lowest) := ggX6_staysAcyclic_X11_lowest
set_option maxRecDepth 20000 in
theorem ggX6_staysAcyclic_X11_isIn : GoodIn wsX6_staysAcyclic wsX11_isIn := goodIn_r _ [19] (by decide +kernel) (by decide +kernel)
set_option maxRecDepth 20000 in
theorem gX6_staysAcyclic_X11_isIn_n61 : GoodIn wsX6_staysAcyclic (wsX11_isIn) := ggX6_staysAcyclic_X11_isIn
def wbX6_staysAcyclic_0 (rec : Nat → XT → (Nat → Int32) → (Nat → Int64) → (Int32 → XT → Prop) → Prop) (k : Nat) (t : XT) (li : Nat → Int32) (lj : Nat → Int64) (Q : Int32 → XT → Prop) : Prop :=
  (vp_in (li 2) 64 ∧ (∀ v_1 : Int64, v_1 = (t.2.2.2 0) (li 2).toNatClampNeg → (wqX11_bit k (li 1) (fun r_2 => (∀ v_3 : Int64, v_3 = (r_2 ^^^ (-1)) → (∀ v_4 : Int64, v_4 = (v_1 &&& v_3) → (∀ v_5 : Int64, v_5 = (v_4 &&& (t.2.1 1)) → rec 1 t (uI li 7 0) (uI (uI lj 3 v_4) 5 v_5) Q)))))))
def wbX6_staysAcyclic_1 (rec : Nat → XT → (Nat → Int32) → (Nat → Int64) → (Int32 → XT → Prop) → Prop) (k : Nat) (t : XT) (li : Nat → Int32) (lj : Nat → Int64) (Q : Int32 → XT → Prop) : Prop :=
  (((60 : Int32) ≤ (li 7)) → rec 3 t li lj Q) ∧ (¬ ((60 : Int32) ≤ (li 7)) → (∀ v_7 : Int32, v_7 = (lg_cmp (lj 5) 0) → ((v_7 = 0) → rec 3 t li lj Q) ∧ (¬ (v_7 = 0) → (wqX11_lowest k (lj 5) (fun r_9 => (wqX11_bit k r_9 (fun r_10 => (∀ v_11 : Int64, v_11 = (r_10 ^^^ (-1)) → (∀ v_12 : Int64, v_12 = ((lj 5) &&& v_11) → (vp_in r_9 64 ∧ (∀ v_13 : Int32, v_13 = (t.2.2.1 5) r_9.toNatClampNeg → ((v_13 = (-1)) → rec 2 t (uI li 8 r_9) (uI lj 5 v_12) Q) ∧ (¬ (v_13 = (-1)) → (vp_in r_9 64 ∧ (∀ v_15 : Int32, v_15 = (t.2.2.1 5) r_9.toNatClampNeg → (vp_in v_15 64 ∧ (∀ v_16 : Int64, v_16 = (t.2.2.2 0) v_15.toNatClampNeg → (∀ v_17 : Int64, v_17 = ((lj 3) ^^^ (-1)) → (∀ v_18 : Int64, v_18 = (v_16 &&& v_17) → (∀ v_19 : Int64, v_19 = ((lj 3) ||| v_18) → (∀ v_20 : Int64, v_20 = (v_18 &&& (t.2.1 1)) → (∀ v_21 : Int64, v_21 = (v_12 ||| v_20) → rec 2 t (uI li 8 r_9) (uI (uI lj 3 v_19) 5 v_21) Q)))))))))))))))))))))
def wbX6_staysAcyclic_2 (rec : Nat → XT → (Nat → Int32) → (Nat → Int64) → (Int32 → XT → Prop) → Prop) (k : Nat) (t : XT) (li : Nat → Int32) (lj : Nat → Int64) (Q : Int32 → XT → Prop) : Prop :=
  (∀ v_22 : Int32, v_22 = (li 7) + Int32.ofInt 1 → rec 1 t (uI li 7 v_22) lj Q)
def wbX6_staysAcyclic_3 (rec : Nat → XT → (Nat → Int32) → (Nat → Int64) → (Int32 → XT → Prop) → Prop) (k : Nat) (t : XT) (li : Nat → Int32) (lj : Nat → Int64) (Q : Int32 → XT → Prop) : Prop :=
  (wqX11_isIn k (lj 3) (li 1) (fun r_23 => ((¬ r_23 = 0) → Q 0 t) ∧ ((r_23 = 0) → Q 1 t)))
def wpX6_staysAcyclic : Nat → Nat → XT → (Nat → Int32) → (Nat → Int64) → (Int32 → XT → Prop) → Prop
  | 0, _, _, _, _, _ => False
  | k + 1, 0, t, li, lj, Q => wbX6_staysAcyclic_0 (wpX6_staysAcyclic k) k t li lj Q
  | k + 1, 1, t, li, lj, Q => wbX6_staysAcyclic_1 (wpX6_staysAcyclic k) k t li lj Q
  | k + 1, 2, t, li, lj, Q => wbX6_staysAcyclic_2 (wpX6_staysAcyclic k) k t li lj Q
  | k + 1, 3, t, li, lj, Q => wbX6_staysAcyclic_3 (wpX6_staysAcyclic k) k t li lj Q
  | _ + 1, _, _, _, _, _ => False
def wqX6_staysAcyclic (k : Nat) (t : XT) (a1 : Int32) (a2 : Int32) (Q : Int32 → XT → Prop) : Prop := wpX6_staysAcyclic k 0 t (uI (uI (fun _ => 0) 1 a1) 2 a2) (fun _ => 0) Q
set_option maxHeartbeats 8000000 in
set_option maxRecDepth 100000 in
theorem wkX6_staysAcyclic (l : Launch) (D : va_G) (cI cJ cB cZ : ClassId) (ad : Nat → Nat) (k : Nat) (t : XT) (a1 : Int32) (a2 : Int32) (Q : Int32 → XT → Prop) (hR : wqX6_staysAcyclic k t a1 a2 Q) : MetI l yX6_staysAcyclic wsX6_staysAcyclic 2 42 0 0 D (TYS cI cJ cB cZ) (wX cI cJ cB cZ ad t) [.ref (ad 4), .int a1, .int a2] (fun r u => Q r u) (fun u : XT => (wX cI cJ cB cZ ad u)) := by
  refine x_startI (ty := .boolean) (cc := cX6_staysAcyclic) (by decide) rfl (Nat.le_of_ble_eq_true rfl) ?_
  intro p e s m args below meth c A ls B hr hnm h hl
  have hx := B.1.1
  have hb := B.1.2.1
  have hml := B.1.2.2.1
  have hts := B.1.2.2.2.2
  have hown : s.vm.findClass RX6 = some m.cls := B.1.2.2.2.1
  have hin6 : ∀ w ∈ u_ws RX6 TX6 6, w ∈ wsX6_staysAcyclic := by decide +kernel
  have hin9 : ∀ w ∈ u_ws RX9 TX9 7, w ∈ wsX6_staysAcyclic := by decide +kernel
  have main : ∀ k : Nat, (∀ (t : XT) (li : Nat → Int32) (lj : Nat → Int64) (H : Heap) (locs : List Loc) (ls : Array Slot), wpX6_staysAcyclic k 0 t li lj Q → lv_has ls 11 [(0, .ref (ad 4)), (1, .int (li 1)), (2, .int (li 2))] → Hp D A s.heap (wX cI cJ cB cZ ad t) H locs → W p l e { frames := 2, cells := 0, slots := 0, locals := 42 } s m args below meth c H locs 0 0 (MQ below (va_Qi (fun r u => Q r u) (fun u t => xEnd D ((fun u : XT => (wX cI cJ cB cZ ad u)) u) A t) A) args s 0 0 A) (F0 m 0 ls [])) ∧
      (∀ (t : XT) (li : Nat → Int32) (lj : Nat → Int64) (H : Heap) (locs : List Loc) (ls : Array Slot), wpX6_staysAcyclic k 1 t li lj Q → lv_has ls 11 [(0, .ref (ad 4)), (1, .int (li 1)), (2, .int (li 2)), (3, .long (lj 3)), (5, .long (lj 5)), (7, .int (li 7))] → Hp D A s.heap (wX cI cJ cB cZ ad t) H locs → W p l e { frames := 2, cells := 0, slots := 0, locals := 42 } s m args below meth c H locs 0 0 (MQ below (va_Qi (fun r u => Q r u) (fun u t => xEnd D ((fun u : XT => (wX cI cJ cB cZ ad u)) u) A t) A) args s 0 0 A) (F0 m 30 ls [])) ∧
      (∀ (t : XT) (li : Nat → Int32) (lj : Nat → Int64) (H : Heap) (locs : List Loc) (ls : Array Slot), wpX6_staysAcyclic k 2 t li lj Q → lv_has ls 11 [(0, .ref (ad 4)), (1, .int (li 1)), (2, .int (li 2)), (3, .long (lj 3)), (5, .long (lj 5)), (7, .int (li 7)), (8, .int (li 8))] → Hp D A s.heap (wX cI cJ cB cZ ad t) H locs → W p l e { frames := 2, cells := 0, slots := 0, locals := 42 } s m args below meth c H locs 0 0 (MQ below (va_Qi (fun r u => Q r u) (fun u t => xEnd D ((fun u : XT => (wX cI cJ cB cZ ad u)) u) A t) A) args s 0 0 A) (F0 m 116 ls [])) ∧
      (∀ (t : XT) (li : Nat → Int32) (lj : Nat → Int64) (H : Heap) (locs : List Loc) (ls : Array Slot), wpX6_staysAcyclic k 3 t li lj Q → lv_has ls 11 [(0, .ref (ad 4)), (1, .int (li 1)), (2, .int (li 2)), (3, .long (lj 3)), (5, .long (lj 5)), (7, .int (li 7))] → Hp D A s.heap (wX cI cJ cB cZ ad t) H locs → W p l e { frames := 2, cells := 0, slots := 0, locals := 42 } s m args below meth c H locs 0 0 (MQ below (va_Qi (fun r u => Q r u) (fun u t => xEnd D ((fun u : XT => (wX cI cJ cB cZ ad u)) u) A t) A) args s 0 0 A) (F0 m 122 ls [])) := by
    intro k
    induction k with
    | zero => exact ⟨fun _ _ _ _ _ _ hR => False.elim hR, fun _ _ _ _ _ _ hR => False.elim hR, fun _ _ _ _ _ _ hR => False.elim hR, fun _ _ _ _ _ _ hR => False.elim hR⟩
    | succ k ih =>
      refine ⟨?_, ?_, ?_, ?_⟩
      · intro t li lj H locs ls hR hl h
        have hR : wbX6_staysAcyclic_0 (wpX6_staysAcyclic k) k t li lj Q := hR
        unfold wbX6_staysAcyclic_0 at hR
        refine lv_aload_n hx hb dX6_staysAcyclic_0 rfl (lv_at hl 0 rfl) ?_
        refine x_get (ci := 6) (C := RX6) (T := TX6) (N := 6) (v := .ref (ad 3)) B h hin6 4 0 rfl rfl (by decide) (by decide +kernel) rfl dX6_staysAcyclic_1 ?_
        refine x_get (ci := 9) (C := RX9) (T := TX9) (N := 7) (v := .ref (ad 17)) B h hin9 3 4 rfl rfl (by decide) (by decide +kernel) rfl dX6_staysAcyclic_4 ?_
        refine lv_iload_n hx hb dX6_staysAcyclic_7 rfl (lv_at hl 2 rfl) ?_
        obtain ⟨hb_1, hR⟩ := hR
        refine va_lald (f := (t.2.2.2 0)) hx hb B.2.1 h.1 17 1 rfl rfl hb_1 dX6_staysAcyclic_8 ?_
        refine lv_topl (fun v_1 ev_1 => ?_)
        have hR := hR v_1 ev_1
        refine lv_iload_n hx hb dX6_staysAcyclic_9 rfl (lv_at hl 1 rfl) ?_
        refine x_cNLE (n := 1) (As := [.int (li 1)]) (rest := [.long v_1]) B h (wkX11_bit l D cI cJ cB cZ ad k (li 1) _ hR) ⟨⟨_, rfl⟩, by decide +kernel, Nat.le_of_ble_eq_true rfl, Nat.le_of_ble_eq_true rfl⟩ gX6_staysAcyclic_X11_bit_n39 (by decide +kernel) (by decide +kernel) (host := "MorseDesk") (by decide +kernel) rfl hl.1 rfl (Nat.le_of_ble_eq_true rfl) dX6_staysAcyclic_10 ⟨Nat.le_of_ble_eq_true rfl, Nat.le_of_ble_eq_true rfl⟩ (fun r_2 _ H locs hR h => ?_)
        refine lv_ldc2 (v := (-1)) hx hb hown (hts (.constantLong RX6 43 (-1)) (by decide +kernel)) dX6_staysAcyclic_13 ?_
        refine lv_lxor hx hb dX6_staysAcyclic_16 ?_
        refine lv_topl (fun v_3 ev_3 => ?_)
        have hR := hR v_3 ev_3
        refine lv_land hx hb dX6_staysAcyclic_17 ?_
        refine lv_topl (fun v_4 ev_4 => ?_)
        have hR := hR v_4 ev_4
        refine lv_lstore_n (lv' := [(3, .long v_4), (0, .ref (ad 4)), (1, .int (li 1)), (2, .int (li 2))]) hx hb dX6_staysAcyclic_18 rfl hl (by decide) rfl (fun ls hl => ?_)
        refine lv_lload_n hx hb dX6_staysAcyclic_19 rfl (lv_at hl 0 rfl) ?_
        refine lv_aload_n hx hb dX6_staysAcyclic_20 rfl (lv_at hl 1 rfl) ?_
        refine x_get (ci := 6) (C := RX6) (T := TX6) (N := 6) (v := .long (t.2.1 1)) B h hin6 4 3 rfl rfl (by decide) (by decide +kernel) rfl dX6_staysAcyclic_21 ?_
        refine lv_land hx hb dX6_staysAcyclic_24 ?_
        refine lv_topl (fun v_5 ev_5 => ?_)
        have hR := hR v_5 ev_5
        refine lv_lstore (lv' := [(5, .long v_5), (3, .long v_4), (0, .ref (ad 4)), (1, .int (li 1)), (2, .int (li 2))]) hx hb dX6_staysAcyclic_25 hl (by decide) rfl (fun ls hl => ?_)
        refine lv_iconst (v := 0) hx hb dX6_staysAcyclic_27 (by decide) ?_
        refine lv_istore (lv' := [(7, .int 0), (5, .long v_5), (3, .long v_4), (0, .ref (ad 4)), (1, .int (li 1)), (2, .int (li 2))]) hx hb dX6_staysAcyclic_28 hl (by decide) rfl (fun ls hl => ?_)
        exact ih.2.1 t (uI li 7 0) (uI (uI lj 3 v_4) 5 v_5) H locs ls hR (lv_sub hl [3, 4, 5, 2, 1, 0] rfl) h
      · intro t li lj H locs ls hR hl h
        have hR : wbX6_staysAcyclic_1 (wpX6_staysAcyclic k) k t li lj Q := hR
        unfold wbX6_staysAcyclic_1 at hR
        refine lv_iload hx hb dX6_staysAcyclic_30 (lv_at hl 5 rfl) ?_
        refine lv_bipush (v := 60) hx hb dX6_staysAcyclic_32 (by decide) ?_
        refine lv_icmp_ge (tgt := 122) hx hb dX6_staysAcyclic_34 (by decide) (fun c_6 => ?_) (fun c_6 => ?_)
        · have hR := hR.1 c_6
          exact ih.2.2.2 t li lj H locs ls hR (lv_sub hl [0, 1, 2, 3, 4, 5] rfl) h
        · have hR := hR.2 c_6
          refine lv_lload hx hb dX6_staysAcyclic_37 (lv_at hl 4 rfl) ?_
          refine lv_lconst (v := 0) hx hb dX6_staysAcyclic_39 (by decide) ?_
          refine W.lcmp hx hb dX6_staysAcyclic_40 ?_
          refine lv_topi (fun v_7 ev_7 => ?_)
          have hR := hR v_7 ev_7
          refine lv_if_eq (tgt := 122) hx hb dX6_staysAcyclic_41 (by decide) (fun c_8 => ?_) (fun c_8 => ?_)
          · have hR := hR.1 c_8
            exact ih.2.2.2 t li lj H locs ls hR (lv_sub hl [0, 1, 2, 3, 4, 5] rfl) h
          · have hR := hR.2 c_8
            refine lv_lload hx hb dX6_staysAcyclic_44 (lv_at hl 4 rfl) ?_
            refine x_cNIE (n := 1) (As := [.long (lj 5)]) (rest := []) B h (wkX11_lowest l D cI cJ cB cZ ad k (lj 5) _ hR) ⟨⟨_, rfl⟩, by decide +kernel, Nat.le_of_ble_eq_true rfl, Nat.le_of_ble_eq_true rfl⟩ gX6_staysAcyclic_X11_lowest_n77 (by decide +kernel) (by decide +kernel) (host := "MorseDesk") (by decide +kernel) rfl hl.1 rfl (Nat.le_of_ble_eq_true rfl) dX6_staysAcyclic_46 ⟨Nat.le_of_ble_eq_true rfl, Nat.le_of_ble_eq_true rfl⟩ (fun r_9 _ H locs hR h => ?_)
            refine lv_istore (lv' := [(8, .int r_9), (0, .ref (ad 4)), (1, .int (li 1)), (2, .int (li 2)), (3, .long (lj 3)), (5, .long (lj 5)), (7, .int (li 7))]) hx hb dX6_staysAcyclic_49 hl (by decide) rfl (fun ls hl => ?_)
            refine lv_lload hx hb dX6_staysAcyclic_51 (lv_at hl 5 rfl) ?_
            refine lv_iload hx hb dX6_staysAcyclic_53 (lv_at hl 0 rfl) ?_
            refine x_cNLE (n := 1) (As := [.int r_9]) (rest := [.long (lj 5)]) B h (wkX11_bit l D cI cJ cB cZ ad k r_9 _ hR) ⟨⟨_, rfl⟩, by decide +kernel, Nat.le_of_ble_eq_true rfl, Nat.le_of_ble_eq_true rfl⟩ gX6_staysAcyclic_X11_bit_n39 (by decide +kernel) (by decide +kernel) (host := "MorseDesk") (by decide +kernel) rfl hl.1 rfl (Nat.le_of_ble_eq_true rfl) dX6_staysAcyclic_55 ⟨Nat.le_of_ble_eq_true rfl, Nat.le_of_ble_eq_true rfl⟩ (fun r_10 _ H locs hR h => ?_)
            refine lv_ldc2 (v := (-1)) hx hb hown (hts (.constantLong RX6 43 (-1)) (by decide +kernel)) dX6_staysAcyclic_58 ?_
            refine lv_lxor hx hb dX6_staysAcyclic_61 ?_
            refine lv_topl (fun v_11 ev_11 => ?_)
            have hR := hR v_11 ev_11
            refine lv_land hx hb dX6_staysAcyclic_62 ?_
            refine lv_topl (fun v_12 ev_12 => ?_)
            have hR := hR v_12 ev_12
            refine lv_lstore (lv' := [(5, .long v_12), (8, .int r_9), (0, .ref (ad 4)), (1, .int (li 1)), (2, .int (li 2)), (3, .long (lj 3)), (7, .int (li 7))]) hx hb dX6_staysAcyclic_63 hl (by decide) rfl (fun ls hl => ?_)
            refine lv_aload_n hx hb dX6_staysAcyclic_65 rfl (lv_at hl 2 rfl) ?_
            refine x_get (ci := 6) (C := RX6) (T := TX6) (N := 6) (v := .ref (ad 20)) B h hin6 4 1 rfl rfl (by decide) (by decide +kernel) rfl dX6_staysAcyclic_66 ?_
            refine lv_iload hx hb dX6_staysAcyclic_69 (lv_at hl 1 rfl) ?_
            obtain ⟨hb_13, hR⟩ := hR
            refine va_iald (f := (t.2.2.1 5)) hx hb B.2.1 h.1 20 0 rfl rfl hb_13 dX6_staysAcyclic_71 ?_
            refine lv_topi (fun v_13 ev_13 => ?_)
            have hR := hR v_13 ev_13
            refine lv_iconst (v := (-1)) hx hb dX6_staysAcyclic_72 (by decide) ?_
            refine lv_icmp_eq (tgt := 116) hx hb dX6_staysAcyclic_73 (by decide) (fun c_14 => ?_) (fun c_14 => ?_)
            · have hR := hR.1 c_14
              exact ih.2.2.1 t (uI li 8 r_9) (uI lj 5 v_12) H locs ls hR (lv_sub hl [2, 3, 4, 5, 0, 6, 1] rfl) h
            · have hR := hR.2 c_14
              refine lv_aload_n hx hb dX6_staysAcyclic_76 rfl (lv_at hl 2 rfl) ?_
              refine x_get (ci := 6) (C := RX6) (T := TX6) (N := 6) (v := .ref (ad 3)) B h hin6 4 0 rfl rfl (by decide) (by decide +kernel) rfl dX6_staysAcyclic_77 ?_
              refine x_get (ci := 9) (C := RX9) (T := TX9) (N := 7) (v := .ref (ad 17)) B h hin9 3 4 rfl rfl (by decide) (by decide +kernel) rfl dX6_staysAcyclic_80 ?_
              refine lv_aload_n hx hb dX6_staysAcyclic_83 rfl (lv_at hl 2 rfl) ?_
              refine x_get (ci := 6) (C := RX6) (T := TX6) (N := 6) (v := .ref (ad 20)) B h hin6 4 1 rfl rfl (by decide) (by decide +kernel) rfl dX6_staysAcyclic_84 ?_
              refine lv_iload hx hb dX6_staysAcyclic_87 (lv_at hl 1 rfl) ?_
              obtain ⟨hb_15, hR⟩ := hR
              refine va_iald (f := (t.2.2.1 5)) hx hb B.2.1 h.1 20 0 rfl rfl hb_15 dX6_staysAcyclic_89 ?_
              refine lv_topi (fun v_15 ev_15 => ?_)
              have hR := hR v_15 ev_15
              obtain ⟨hb_16, hR⟩ := hR
              refine va_lald (f := (t.2.2.2 0)) hx hb B.2.1 h.1 17 1 rfl rfl hb_16 dX6_staysAcyclic_90 ?_
              refine lv_topl (fun v_16 ev_16 => ?_)
              have hR := hR v_16 ev_16
              refine lv_lload_n hx hb dX6_staysAcyclic_91 rfl (lv_at hl 5 rfl) ?_
              refine lv_ldc2 (v := (-1)) hx hb hown (hts (.constantLong RX6 43 (-1)) (by decide +kernel)) dX6_staysAcyclic_92 ?_
              refine lv_lxor hx hb dX6_staysAcyclic_95 ?_
              refine lv_topl (fun v_17 ev_17 => ?_)
              have hR := hR v_17 ev_17
              refine lv_land hx hb dX6_staysAcyclic_96 ?_
              refine lv_topl (fun v_18 ev_18 => ?_)
              have hR := hR v_18 ev_18
              refine lv_lstore (lv' := [(9, .long v_18), (5, .long v_12), (8, .int r_9), (0, .ref (ad 4)), (1, .int (li 1)), (2, .int (li 2)), (3, .long (lj 3)), (7, .int (li 7))]) hx hb dX6_staysAcyclic_97 hl (by decide) rfl (fun ls hl => ?_)
              refine lv_lload_n hx hb dX6_staysAcyclic_99 rfl (lv_at hl 6 rfl) ?_
              refine lv_lload hx hb dX6_staysAcyclic_100 (lv_at hl 0 rfl) ?_
              refine lv_lor hx hb dX6_staysAcyclic_102 ?_
              refine lv_topl (fun v_19 ev_19 => ?_)
              have hR := hR v_19 ev_19
              refine lv_lstore_n (lv' := [(3, .long v_19), (9, .long v_18), (5, .long v_12), (8, .int r_9), (0, .ref (ad 4)), (1, .int (li 1)), (2, .int (li 2)), (7, .int (li 7))]) hx hb dX6_staysAcyclic_103 rfl hl (by decide) rfl (fun ls hl => ?_)
              refine lv_lload hx hb dX6_staysAcyclic_104 (lv_at hl 2 rfl) ?_
              refine lv_lload hx hb dX6_staysAcyclic_106 (lv_at hl 1 rfl) ?_
              refine lv_aload_n hx hb dX6_staysAcyclic_108 rfl (lv_at hl 4 rfl) ?_
              refine x_get (ci := 6) (C := RX6) (T := TX6) (N := 6) (v := .long (t.2.1 1)) B h hin6 4 3 rfl rfl (by decide) (by decide +kernel) rfl dX6_staysAcyclic_109 ?_
              refine lv_land hx hb dX6_staysAcyclic_112 ?_
              refine lv_topl (fun v_20 ev_20 => ?_)
              have hR := hR v_20 ev_20
              refine lv_lor hx hb dX6_staysAcyclic_113 ?_
              refine lv_topl (fun v_21 ev_21 => ?_)
              have hR := hR v_21 ev_21
              refine lv_lstore (lv' := [(5, .long v_21), (3, .long v_19), (9, .long v_18), (8, .int r_9), (0, .ref (ad 4)), (1, .int (li 1)), (2, .int (li 2)), (7, .int (li 7))]) hx hb dX6_staysAcyclic_114 hl (by decide) rfl (fun ls hl => ?_)
              exact ih.2.2.1 t (uI li 8 r_9) (uI (uI lj 3 v_19) 5 v_21) H locs ls hR (lv_sub hl [4, 5, 6, 1, 0, 7, 3] rfl) h
      · intro t li lj H locs ls hR hl h
        have hR : wbX6_staysAcyclic_2 (wpX6_staysAcyclic k) k t li lj Q := hR
        unfold wbX6_staysAcyclic_2 at hR
        obtain ⟨v_22, ev_22⟩ : ∃ v : Int32, v = (li 7) + Int32.ofInt 1 := ⟨_, rfl⟩
        have hR := hR v_22 ev_22
        refine lv_iinc (v := v_22) (lv' := [(7, .int v_22), (0, .ref (ad 4)), (1, .int (li 1)), (2, .int (li 2)), (3, .long (lj 3)), (5, .long (lj 5)), (8, .int (li 8))]) hx hb dX6_staysAcyclic_116 hl (k := 5) rfl ev_22.symm (by decide) rfl (fun ls hl => ?_)
        refine lv_goto (tgt := 30) hx hb dX6_staysAcyclic_119 (by decide) ?_
        exact ih.2.1 t (uI li 7 v_22) lj H locs ls hR (lv_sub hl [1, 2, 3, 4, 5, 0] rfl) h
      · intro t li lj H locs ls hR hl h
        have hR : wbX6_staysAcyclic_3 (wpX6_staysAcyclic k) k t li lj Q := hR
        unfold wbX6_staysAcyclic_3 at hR
        refine lv_lload_n hx hb dX6_staysAcyclic_122 rfl (lv_at hl 3 rfl) ?_
        refine lv_iload_n hx hb dX6_staysAcyclic_123 rfl (lv_at hl 1 rfl) ?_
        refine x_cNIE (n := 2) (As := [.long (lj 3), .int (li 1)]) (rest := []) B h (wkX11_isIn l D cI cJ cB cZ ad k (lj 3) (li 1) _ hR) ⟨⟨_, rfl⟩, by decide +kernel, Nat.le_of_ble_eq_true rfl, Nat.le_of_ble_eq_true rfl⟩ gX6_staysAcyclic_X11_isIn_n61 (by decide +kernel) (by decide +kernel) (host := "MorseDesk") (by decide +kernel) rfl hl.1 rfl (Nat.le_of_ble_eq_true rfl) dX6_staysAcyclic_124 ⟨Nat.le_of_ble_eq_true rfl, Nat.le_of_ble_eq_true rfl⟩ (fun r_23 _ H locs hR h => ?_)
        refine lv_if_ne (tgt := 134) hx hb dX6_staysAcyclic_127 (by decide) (fun c_24 => ?_) (fun c_24 => ?_)
        · have hR := hR.1 c_24
          refine lv_iconst (v := 0) hx hb dX6_staysAcyclic_134 (by decide) ?_
          exact x_iret (w1 := (fun u : XT => (wX cI cJ cB cZ ad u))) t B h hr rfl hR dX6_staysAcyclic_135
        · have hR := hR.2 c_24
          refine lv_iconst (v := 1) hx hb dX6_staysAcyclic_130 (by decide) ?_
          refine lv_goto (tgt := 135) hx hb dX6_staysAcyclic_131 (by decide) ?_
          exact x_iret (w1 := (fun u : XT => (wX cI cJ cB cZ ad u))) t B h hr rfl hR dX6_staysAcyclic_135
  exact (main k).1 t _ _ s.heap [] ls hR hl h
def wbX3_save_c4_0 (rec : Nat → XT → (Nat → Int32) → (Nat → Int64) → (XT → Prop) → Prop) (k : Nat) (t : XT) (li : Nat → Int32) (lj : Nat → Int64) (Q : XT → Prop) : Prop :=
  (∀ v_1 : Int32, v_1 = ((t.1 9) * 64) → ((¬ (0 : Int32) < 0) ∧ (¬ v_1 < 0) ∧ (¬ (64 : Int32) < 0) ∧ ((0 : Int32).toNatClampNeg + (64 : Int32).toNatClampNeg ≤ 64) ∧ (v_1.toNatClampNeg + (64 : Int32).toNatClampNeg ≤ 1024) ∧ (∀ t_2 : XT, t_2 = sA t 9 (va_cpy (t.2.2.1 5) (t.2.2.1 9) (0 : Int32).toNatClampNeg v_1.toNatClampNeg (64 : Int32).toNatClampNeg) → (vp_in (t_2.1 9) 16 ∧ (∀ t_3 : XT, t_3 = sB t_2 6 (vp_updL (t_2.2.2.2 6) (t_2.1 9).toNatClampNeg (t_2.2.1 0)) → (∀ v_4 : Int32, v_4 = ((t_3.1 9) + 1) → ((¬ (16 : Int32) = 0) ∧ (∀ v_5 : Int32, v_5 = (v_4 - v_4 / 16 * 16) → (∀ t_6 : XT, t_6 = sI t_3 9 v_5 → (∀ v_7 : Int32, v_7 = ((t_6.1 8) + 1) → (∀ v_8 : Int32, v_8 = (if (16 : Int32) < v_7 then (16 : Int32) else v_7) → (∀ t_9 : XT, t_9 = sI t_6 8 v_8 → Q t_9))))))))))))
def wpX3_save_c4 : Nat → Nat → XT → (Nat → Int32) → (Nat → Int64) → (XT → Prop) → Prop
  | 0, _, _, _, _, _ => False
  | k + 1, 0, t, li, lj, Q => wbX3_save_c4_0 (wpX3_save_c4 k) k t li lj Q
  | _ + 1, _, _, _, _, _ => False
def wqX3_save_c4 (k : Nat) (t : XT)  (Q : XT → Prop) : Prop := wpX3_save_c4 k 0 t (fun _ => 0) (fun _ => 0) Q
set_option maxHeartbeats 8000000 in
set_option maxRecDepth 100000 in
theorem wkX3_save_c4 (l : Launch) (D : va_G) (cI cJ cB cZ : ClassId) (ad : Nat → Nat) (k : Nat) (t : XT)  (Q : XT → Prop) (hR : wqX3_save_c4 k t  Q) : MetV l yX3_save wsX3_save 1 64 0 0 D (TYS cI cJ cB cZ) (wX cI cJ cB cZ ad t) [.ref (ad 9), .ref (ad 4)] (fun u => Q u) (fun u : XT => (wX cI cJ cB cZ ad u)) := by
  refine x_startV (ty := .int) (cc := cX3_save) (by decide) rfl (Nat.le_of_ble_eq_true rfl) ?_
  intro p e s m args below meth c A ls B hr hnm h hl
  have hx := B.1.1
  have hb := B.1.2.1
  have hml := B.1.2.2.1
  have hts := B.1.2.2.2.2
  have hown : s.vm.findClass RX3 = some m.cls := B.1.2.2.2.1
  have hin3 : ∀ w ∈ u_ws RX3 TX3 4, w ∈ wsX3_save := by decide +kernel
  have hin6 : ∀ w ∈ u_ws RX6 TX6 6, w ∈ wsX3_save := by decide +kernel
  have main : ∀ k : Nat, (∀ (t : XT) (li : Nat → Int32) (lj : Nat → Int64) (H : Heap) (locs : List Loc) (ls : Array Slot), wpX3_save_c4 k 0 t li lj Q → lv_has ls 2 [(0, .ref (ad 9)), (1, .ref (ad 4))] → Hp D A s.heap (wX cI cJ cB cZ ad t) H locs → W p l e { frames := 1, cells := 0, slots := 0, locals := 64 } s m args below meth c H locs 0 0 (MQ below (va_Qv (fun u => Q u) (fun u t => xEnd D ((fun u : XT => (wX cI cJ cB cZ ad u)) u) A t) A) args s 0 0 A) (F0 m 0 ls [])) := by
    intro k
    induction k with
    | zero => exact fun _ _ _ _ _ _ hR => False.elim hR
    | succ k ih =>
      intro t li lj H locs ls hR hl h
      have hR : wbX3_save_c4_0 (wpX3_save_c4 k) k t li lj Q := hR
      unfold wbX3_save_c4_0 at hR
      refine lv_aload_n hx hb dX3_save_0 rfl (lv_at hl 1 rfl) ?_
      refine x_get (ci := 6) (C := RX6) (T := TX6) (N := 6) (v := .ref (ad 20)) B h hin6 4 1 rfl rfl (by decide) (by decide +kernel) rfl dX3_save_1 ?_
      refine lv_iconst (v := 0) hx hb dX3_save_4 (by decide) ?_
      refine lv_aload_n hx hb dX3_save_5 rfl (lv_at hl 0 rfl) ?_
      refine x_get (ci := 3) (C := RX3) (T := TX3) (N := 4) (v := .ref (ad 27)) B h hin3 9 0 rfl rfl (by decide) (by decide +kernel) rfl dX3_save_6 ?_
      refine lv_aload_n hx hb dX3_save_9 rfl (lv_at hl 0 rfl) ?_
      refine x_get (ci := 3) (C := RX3) (T := TX3) (N := 4) (v := .int (t.1 9)) B h hin3 9 3 rfl rfl (by decide) (by decide +kernel) rfl dX3_save_10 ?_
      refine lv_bipush (v := 64) hx hb dX3_save_13 (by decide) ?_
      refine lv_imul hx hb dX3_save_15 ?_
      refine lv_topi (fun v_1 ev_1 => ?_)
      have hR := hR v_1 ev_1
      refine lv_bipush (v := 64) hx hb dX3_save_16 (by decide) ?_
      obtain ⟨h1_2, h2_2, h3_2, h4_2, h5_2, hR⟩ := hR
      refine va_copyi (f := (t.2.2.1 5)) (g := (t.2.2.1 9)) hx hb (hml.trans hl.1.symm) hown (hts (.methodLink RX3 28 arraycopyName) (by decide +kernel)) (hts (.native arraycopyName) (by decide +kernel)) (hts (.static arraycopyName) (by decide +kernel)) (hts (.initialized "java/lang/System") (by decide +kernel)) B.2.1 h.1 h.2.1 h.2.2.1 20 27 0 0 rfl rfl rfl rfl rfl h1_2 h2_2 h3_2 h4_2 h5_2 (fun _ _ => rfl) (Nat.le_of_ble_eq_true rfl) (by decide) dX3_save_18 (fun H locs hP hD hS => ?_)
      have h : Hp D A s.heap _ H locs := ⟨hP, hD, hS, h.2.2.2⟩
      obtain ⟨t_2, et_2⟩ : ∃ v : XT, v = sA t 9 (va_cpy (t.2.2.1 5) (t.2.2.1 9) (0 : Int32).toNatClampNeg v_1.toNatClampNeg (64 : Int32).toNatClampNeg) := ⟨_, rfl⟩
      have hR := hR t_2 et_2
      have h : Hp D A s.heap (wX cI cJ cB cZ ad t_2) H locs := by rw [et_2]; exact h
      refine lv_aload_n hx hb dX3_save_21 rfl (lv_at hl 0 rfl) ?_
      refine x_get (ci := 3) (C := RX3) (T := TX3) (N := 4) (v := .ref (ad 28)) B h hin3 9 1 rfl rfl (by decide) (by decide +kernel) rfl dX3_save_22 ?_
      refine lv_aload_n hx hb dX3_save_25 rfl (lv_at hl 0 rfl) ?_
      refine x_get (ci := 3) (C := RX3) (T := TX3) (N := 4) (v := .int (t_2.1 9)) B h hin3 9 3 rfl rfl (by decide) (by decide +kernel) rfl dX3_save_26 ?_
      refine lv_aload_n hx hb dX3_save_29 rfl (lv_at hl 1 rfl) ?_
      refine x_get (ci := 6) (C := RX6) (T := TX6) (N := 6) (v := .long (t_2.2.1 0)) B h hin6 4 2 rfl rfl (by decide) (by decide +kernel) rfl dX3_save_30 ?_
      obtain ⟨hb_3, hR⟩ := hR
      refine z_last (f := (t_2.2.2.2 6)) B h 28 1 rfl rfl hb_3 dX3_save_33 (fun H locs h => ?_)
      obtain ⟨t_3, et_3⟩ : ∃ v : XT, v = sB t_2 6 (vp_updL (t_2.2.2.2 6) (t_2.1 9).toNatClampNeg (t_2.2.1 0)) := ⟨_, rfl⟩
      have hR := hR t_3 et_3
      have h : Hp D A s.heap (wX cI cJ cB cZ ad t_3) H locs := by rw [et_3]; exact h
      refine lv_aload_n hx hb dX3_save_34 rfl (lv_at hl 0 rfl) ?_
      refine lv_aload_n hx hb dX3_save_35 rfl (lv_at hl 0 rfl) ?_
      refine x_get (ci := 3) (C := RX3) (T := TX3) (N := 4) (v := .int (t_3.1 9)) B h hin3 9 3 rfl rfl (by decide) (by decide +kernel) rfl dX3_save_36 ?_
      refine lv_iconst (v := 1) hx hb dX3_save_39 (by decide) ?_
      refine lv_iadd hx hb dX3_save_40 ?_
      refine lv_topi (fun v_4 ev_4 => ?_)
      have hR := hR v_4 ev_4
      refine lv_bipush (v := 16) hx hb dX3_save_41 (by decide) ?_
      obtain ⟨hd_5, hR⟩ := hR
      refine lv_irem hx hb dX3_save_43 hd_5 ?_
      refine lv_topi (fun v_5 ev_5 => ?_)
      have hR := hR v_5 ev_5
      refine x_put (ci := 3) (C := RX3) (T := TX3) (N := 4) (v := .int v_5) (ty := .int) B h hin3 tyX3 tyX3_ok nmX3 9 3 rfl rfl (by decide) (by decide +kernel) rfl rfl rfl rfl (Nat.le_of_ble_eq_true rfl) dX3_save_44 (fun H locs h => ?_)
      obtain ⟨t_6, et_6⟩ : ∃ v : XT, v = sI t_3 9 v_5 := ⟨_, rfl⟩
      have hR := hR t_6 et_6
      have h : Hp D A s.heap (wX cI cJ cB cZ ad t_6) H locs := by rw [et_6]; exact h
      refine lv_aload_n hx hb dX3_save_47 rfl (lv_at hl 0 rfl) ?_
      refine lv_aload_n hx hb dX3_save_48 rfl (lv_at hl 0 rfl) ?_
      refine x_get (ci := 3) (C := RX3) (T := TX3) (N := 4) (v := .int (t_6.1 8)) B h hin3 9 2 rfl rfl (by decide) (by decide +kernel) rfl dX3_save_49 ?_
      refine lv_iconst (v := 1) hx hb dX3_save_52 (by decide) ?_
      refine lv_iadd hx hb dX3_save_53 ?_
      refine lv_topi (fun v_7 ev_7 => ?_)
      have hR := hR v_7 ev_7
      refine lv_bipush (v := 16) hx hb dX3_save_54 (by decide) ?_
      refine va_mmin hx hb (hml.trans hl.1.symm) hown (hts (.methodLink RX3 41 Lib.Math.min.name) (by decide +kernel)) (hts (.static Lib.Math.min.name) (by decide +kernel)) (hts (.initialized "java/lang/Math") (by decide +kernel)) (hts (.code Lib.Math.min.name Lib.Math.min.code 2 (some .int)) (by decide +kernel)) (Nat.le_of_ble_eq_true rfl) (Nat.le_of_ble_eq_true rfl) (Nat.le_of_ble_eq_true rfl) (Nat.le_of_ble_eq_true rfl) dX3_save_56 ?_
      refine lv_topi (fun v_8 ev_8 => ?_)
      have hR := hR v_8 ev_8
      refine x_put (ci := 3) (C := RX3) (T := TX3) (N := 4) (v := .int v_8) (ty := .int) B h hin3 tyX3 tyX3_ok nmX3 9 2 rfl rfl (by decide) (by decide +kernel) rfl rfl rfl rfl (Nat.le_of_ble_eq_true rfl) dX3_save_59 (fun H locs h => ?_)
      obtain ⟨t_9, et_9⟩ : ∃ v : XT, v = sI t_6 8 v_8 := ⟨_, rfl⟩
      have hR := hR t_9 et_9
      have h : Hp D A s.heap (wX cI cJ cB cZ ad t_9) H locs := by rw [et_9]; exact h
      exact x_vret (w1 := (fun u : XT => (wX cI cJ cB cZ ad u))) t_9 B h hr hR dX3_save_62
  exact (main k) t _ _ s.heap [] ls hR hl h
set_option maxRecDepth 20000 in
theorem ggX6_unite_X11_bit : GoodIn wsX6_unite wsX11_bit := goodIn_r _ [7] (by decide +kernel) (by decide +kernel)
set_option maxRecDepth 20000 in
theorem gX6_unite_X11_bit_n39 : GoodIn wsX6_unite (wsX11_bit) := ggX6_unite_X11_bit
def wbX6_unite_0 (rec : Nat → XT → (Nat → Int32) → (Nat → Int64) → (XT → Prop) → Prop) (k : Nat) (t : XT) (li : Nat → Int32) (lj : Nat → Int64) (Q : XT → Prop) : Prop :=
  (vp_in (li 1) 64 ∧ (∀ t_1 : XT, t_1 = sA t 5 (upd (t.2.2.1 5) (li 1).toNatClampNeg (li 2)) → (vp_in (li 2) 64 ∧ (∀ t_2 : XT, t_2 = sA t_1 5 (upd (t_1.2.2.1 5) (li 2).toNatClampNeg (li 1)) → (wqX11_bit k (li 1) (fun r_3 => (∀ v_4 : Int64, v_4 = ((t_2.2.1 1) ||| r_3) → (∀ t_5 : XT, t_5 = sJ t_2 1 v_4 → (wqX11_bit k (li 2) (fun r_6 => (∀ v_7 : Int64, v_7 = ((t_5.2.1 2) ||| r_6) → (∀ t_8 : XT, t_8 = sJ t_5 2 v_7 → (∀ v_9 : Int32, v_9 = ((t_8.1 5) + 1) → (∀ t_10 : XT, t_10 = sI t_8 5 v_9 → Q t_10))))))))))))))
def wpX6_unite : Nat → Nat → XT → (Nat → Int32) → (Nat → Int64) → (XT → Prop) → Prop
  | 0, _, _, _, _, _ => False
  | k + 1, 0, t, li, lj, Q => wbX6_unite_0 (wpX6_unite k) k t li lj Q
  | _ + 1, _, _, _, _, _ => False
def wqX6_unite (k : Nat) (t : XT) (a1 : Int32) (a2 : Int32) (Q : XT → Prop) : Prop := wpX6_unite k 0 t (uI (uI (fun _ => 0) 1 a1) 2 a2) (fun _ => 0) Q
set_option maxHeartbeats 8000000 in
set_option maxRecDepth 100000 in
theorem wkX6_unite (l : Launch) (D : va_G) (cI cJ cB cZ : ClassId) (ad : Nat → Nat) (k : Nat) (t : XT) (a1 : Int32) (a2 : Int32) (Q : XT → Prop) (hR : wqX6_unite k t a1 a2 Q) : MetV l yX6_unite wsX6_unite 1 20 0 0 D (TYS cI cJ cB cZ) (wX cI cJ cB cZ ad t) [.ref (ad 4), .int a1, .int a2] (fun u => Q u) (fun u : XT => (wX cI cJ cB cZ ad u)) := by
  refine x_startV (ty := .int) (cc := cX6_unite) (by decide) rfl (Nat.le_of_ble_eq_true rfl) ?_
  intro p e s m args below meth c A ls B hr hnm h hl
  have hx := B.1.1
  have hb := B.1.2.1
  have hml := B.1.2.2.1
  have hts := B.1.2.2.2.2
  have hown : s.vm.findClass RX6 = some m.cls := B.1.2.2.2.1
  have hin6 : ∀ w ∈ u_ws RX6 TX6 6, w ∈ wsX6_unite := by decide +kernel
  have main : ∀ k : Nat, (∀ (t : XT) (li : Nat → Int32) (lj : Nat → Int64) (H : Heap) (locs : List Loc) (ls : Array Slot), wpX6_unite k 0 t li lj Q → lv_has ls 3 [(0, .ref (ad 4)), (1, .int (li 1)), (2, .int (li 2))] → Hp D A s.heap (wX cI cJ cB cZ ad t) H locs → W p l e { frames := 1, cells := 0, slots := 0, locals := 20 } s m args below meth c H locs 0 0 (MQ below (va_Qv (fun u => Q u) (fun u t => xEnd D ((fun u : XT => (wX cI cJ cB cZ ad u)) u) A t) A) args s 0 0 A) (F0 m 0 ls [])) := by
    intro k
    induction k with
    | zero => exact fun _ _ _ _ _ _ hR => False.elim hR
    | succ k ih =>
      intro t li lj H locs ls hR hl h
      have hR : wbX6_unite_0 (wpX6_unite k) k t li lj Q := hR
      unfold wbX6_unite_0 at hR
      refine lv_aload_n hx hb dX6_unite_0 rfl (lv_at hl 0 rfl) ?_
      refine x_get (ci := 6) (C := RX6) (T := TX6) (N := 6) (v := .ref (ad 20)) B h hin6 4 1 rfl rfl (by decide) (by decide +kernel) rfl dX6_unite_1 ?_
      refine lv_iload_n hx hb dX6_unite_4 rfl (lv_at hl 1 rfl) ?_
      refine lv_iload_n hx hb dX6_unite_5 rfl (lv_at hl 2 rfl) ?_
      obtain ⟨hb_1, hR⟩ := hR
      refine z_iast (f := (t.2.2.1 5)) B h 20 0 rfl rfl hb_1 dX6_unite_6 (fun H locs h => ?_)
      obtain ⟨t_1, et_1⟩ : ∃ v : XT, v = sA t 5 (upd (t.2.2.1 5) (li 1).toNatClampNeg (li 2)) := ⟨_, rfl⟩
      have hR := hR t_1 et_1
      have h : Hp D A s.heap (wX cI cJ cB cZ ad t_1) H locs := by rw [et_1]; exact h
      refine lv_aload_n hx hb dX6_unite_7 rfl (lv_at hl 0 rfl) ?_
      refine x_get (ci := 6) (C := RX6) (T := TX6) (N := 6) (v := .ref (ad 20)) B h hin6 4 1 rfl rfl (by decide) (by decide +kernel) rfl dX6_unite_8 ?_
      refine lv_iload_n hx hb dX6_unite_11 rfl (lv_at hl 2 rfl) ?_
      refine lv_iload_n hx hb dX6_unite_12 rfl (lv_at hl 1 rfl) ?_
      obtain ⟨hb_2, hR⟩ := hR
      refine z_iast (f := (t_1.2.2.1 5)) B h 20 0 rfl rfl hb_2 dX6_unite_13 (fun H locs h => ?_)
      obtain ⟨t_2, et_2⟩ : ∃ v : XT, v = sA t_1 5 (upd (t_1.2.2.1 5) (li 2).toNatClampNeg (li 1)) := ⟨_, rfl⟩
      have hR := hR t_2 et_2
      have h : Hp D A s.heap (wX cI cJ cB cZ ad t_2) H locs := by rw [et_2]; exact h
      refine lv_aload_n hx hb dX6_unite_14 rfl (lv_at hl 0 rfl) ?_
      refine lv_dup hx hb dX6_unite_15 rfl ?_
      refine x_get (ci := 6) (C := RX6) (T := TX6) (N := 6) (v := .long (t_2.2.1 1)) B h hin6 4 3 rfl rfl (by decide) (by decide +kernel) rfl dX6_unite_16 ?_
      refine lv_iload_n hx hb dX6_unite_19 rfl (lv_at hl 1 rfl) ?_
      refine x_cNLE (n := 1) (As := [.int (li 1)]) (rest := [.long (t_2.2.1 1), .ref (ad 4)]) B h (wkX11_bit l D cI cJ cB cZ ad k (li 1) _ hR) ⟨⟨_, rfl⟩, by decide +kernel, Nat.le_of_ble_eq_true rfl, Nat.le_of_ble_eq_true rfl⟩ gX6_unite_X11_bit_n39 (by decide +kernel) (by decide +kernel) (host := "MorseDesk") (by decide +kernel) rfl hl.1 rfl (Nat.le_of_ble_eq_true rfl) dX6_unite_20 ⟨Nat.le_of_ble_eq_true rfl, Nat.le_of_ble_eq_true rfl⟩ (fun r_3 _ H locs hR h => ?_)
      refine lv_lor hx hb dX6_unite_23 ?_
      refine lv_topl (fun v_4 ev_4 => ?_)
      have hR := hR v_4 ev_4
      refine x_put (ci := 6) (C := RX6) (T := TX6) (N := 6) (v := .long v_4) (ty := .long) B h hin6 tyX6 tyX6_ok nmX6 4 3 rfl rfl (by decide) (by decide +kernel) rfl rfl rfl rfl (Nat.le_of_ble_eq_true rfl) dX6_unite_24 (fun H locs h => ?_)
      obtain ⟨t_5, et_5⟩ : ∃ v : XT, v = sJ t_2 1 v_4 := ⟨_, rfl⟩
      have hR := hR t_5 et_5
      have h : Hp D A s.heap (wX cI cJ cB cZ ad t_5) H locs := by rw [et_5]; exact h
      refine lv_aload_n hx hb dX6_unite_27 rfl (lv_at hl 0 rfl) ?_
      refine lv_dup hx hb dX6_unite_28 rfl ?_
      refine x_get (ci := 6) (C := RX6) (T := TX6) (N := 6) (v := .long (t_5.2.1 2)) B h hin6 4 4 rfl rfl (by decide) (by decide +kernel) rfl dX6_unite_29 ?_
      refine lv_iload_n hx hb dX6_unite_32 rfl (lv_at hl 2 rfl) ?_
      refine x_cNLE (n := 1) (As := [.int (li 2)]) (rest := [.long (t_5.2.1 2), .ref (ad 4)]) B h (wkX11_bit l D cI cJ cB cZ ad k (li 2) _ hR) ⟨⟨_, rfl⟩, by decide +kernel, Nat.le_of_ble_eq_true rfl, Nat.le_of_ble_eq_true rfl⟩ gX6_unite_X11_bit_n39 (by decide +kernel) (by decide +kernel) (host := "MorseDesk") (by decide +kernel) rfl hl.1 rfl (Nat.le_of_ble_eq_true rfl) dX6_unite_33 ⟨Nat.le_of_ble_eq_true rfl, Nat.le_of_ble_eq_true rfl⟩ (fun r_6 _ H locs hR h => ?_)
      refine lv_lor hx hb dX6_unite_36 ?_
      refine lv_topl (fun v_7 ev_7 => ?_)
      have hR := hR v_7 ev_7
      refine x_put (ci := 6) (C := RX6) (T := TX6) (N := 6) (v := .long v_7) (ty := .long) B h hin6 tyX6 tyX6_ok nmX6 4 4 rfl rfl (by decide) (by decide +kernel) rfl rfl rfl rfl (Nat.le_of_ble_eq_true rfl) dX6_unite_37 (fun H locs h => ?_)
      obtain ⟨t_8, et_8⟩ : ∃ v : XT, v = sJ t_5 2 v_7 := ⟨_, rfl⟩
      have hR := hR t_8 et_8
      have h : Hp D A s.heap (wX cI cJ cB cZ ad t_8) H locs := by rw [et_8]; exact h
      refine lv_aload_n hx hb dX6_unite_40 rfl (lv_at hl 0 rfl) ?_
      refine lv_dup hx hb dX6_unite_41 rfl ?_
      refine x_get (ci := 6) (C := RX6) (T := TX6) (N := 6) (v := .int (t_8.1 5)) B h hin6 4 5 rfl rfl (by decide) (by decide +kernel) rfl dX6_unite_42 ?_
      refine lv_iconst (v := 1) hx hb dX6_unite_45 (by decide) ?_
      refine lv_iadd hx hb dX6_unite_46 ?_
      refine lv_topi (fun v_9 ev_9 => ?_)
      have hR := hR v_9 ev_9
      refine x_put (ci := 6) (C := RX6) (T := TX6) (N := 6) (v := .int v_9) (ty := .int) B h hin6 tyX6 tyX6_ok nmX6 4 5 rfl rfl (by decide) (by decide +kernel) rfl rfl rfl rfl (Nat.le_of_ble_eq_true rfl) dX6_unite_47 (fun H locs h => ?_)
      obtain ⟨t_10, et_10⟩ : ∃ v : XT, v = sI t_8 5 v_9 := ⟨_, rfl⟩
      have hR := hR t_10 et_10
      have h : Hp D A s.heap (wX cI cJ cB cZ ad t_10) H locs := by rw [et_10]; exact h
      exact x_vret (w1 := (fun u : XT => (wX cI cJ cB cZ ad u))) t_10 B h hr hR dX6_unite_50
  exact (main k) t _ _ s.heap [] ls hR hl h
set_option maxRecDepth 20000 in
theorem ggX11_criticalOnes_X6_unpaired : GoodIn wsX11_criticalOnes wsX6_unpaired := goodIn_r _ [6, 7, 8, 9, 10, 29, 30, 31, 32, 33, 34] (by decide +kernel) (by decide +kernel)
set_option maxRecDepth 20000 in
theorem gX11_criticalOnes_X6_unpaired : GoodIn wsX11_criticalOnes (wsV RX11 232 RX6 yX6_unpaired wsX6_unpaired) := goodIn_app (goodIn_of _ (by decide +kernel)) ggX11_criticalOnes_X6_unpaired
set_option maxRecDepth 20000 in
theorem ggX11_criticalOnes_J13_bitCount_95d88 : GoodIn wsX11_criticalOnes wsJ13_bitCount_95d88 := goodIn_r _ [14, 15, 16, 17] (by decide +kernel) (by decide +kernel)
set_option maxRecDepth 20000 in
theorem gX11_criticalOnes_J13_bitCount_95d88 : GoodIn wsX11_criticalOnes (va_wsS RX11 151 yJ13_bitCount_95d88 wsJ13_bitCount_95d88) := goodIn_app (goodIn_of _ (by decide +kernel)) ggX11_criticalOnes_J13_bitCount_95d88
def wbX11_criticalOnes_0 (rec : Nat → XT → (Nat → Int32) → (Nat → Int64) → (Int32 → XT → Prop) → Prop) (k : Nat) (t : XT) (li : Nat → Int32) (lj : Nat → Int64) (Q : Int32 → XT → Prop) : Prop :=
  (wqX6_unpaired k t  (fun r_1 t_1 => (wqJ13_bitCount_95d88 k r_1 (fun r_2 => Q r_2 t_1))))
def wpX11_criticalOnes : Nat → Nat → XT → (Nat → Int32) → (Nat → Int64) → (Int32 → XT → Prop) → Prop
  | 0, _, _, _, _, _ => False
  | k + 1, 0, t, li, lj, Q => wbX11_criticalOnes_0 (wpX11_criticalOnes k) k t li lj Q
  | _ + 1, _, _, _, _, _ => False
def wqX11_criticalOnes (k : Nat) (t : XT)  (Q : Int32 → XT → Prop) : Prop := wpX11_criticalOnes k 0 t (fun _ => 0) (fun _ => 0) Q
set_option maxHeartbeats 8000000 in
set_option maxRecDepth 100000 in
theorem wkX11_criticalOnes (l : Launch) (D : va_G) (cI cJ cB cZ : ClassId) (ad : Nat → Nat) (k : Nat) (t : XT)  (Q : Int32 → XT → Prop) (hR : wqX11_criticalOnes k t  Q) : MetI l yX11_criticalOnes wsX11_criticalOnes 1 21 0 0 D (TYS cI cJ cB cZ) (wX cI cJ cB cZ ad t) [.ref (ad 0)] (fun r u => Q r u) (fun u : XT => (wX cI cJ cB cZ ad u)) := by
  refine x_startI (ty := .int) (cc := cX11_criticalOnes) (by decide) rfl (Nat.le_of_ble_eq_true rfl) ?_
  intro p e s m args below meth c A ls B hr hnm h hl
  have hx := B.1.1
  have hb := B.1.2.1
  have hml := B.1.2.2.1
  have hts := B.1.2.2.2.2
  have hown : s.vm.findClass RX11 = some m.cls := B.1.2.2.2.1
  have hin11 : ∀ w ∈ u_ws RX11 TX11 11, w ∈ wsX11_criticalOnes := by decide +kernel
  have main : ∀ k : Nat, (∀ (t : XT) (li : Nat → Int32) (lj : Nat → Int64) (H : Heap) (locs : List Loc) (ls : Array Slot), wpX11_criticalOnes k 0 t li lj Q → lv_has ls 1 [(0, .ref (ad 0))] → Hp D A s.heap (wX cI cJ cB cZ ad t) H locs → W p l e { frames := 1, cells := 0, slots := 0, locals := 21 } s m args below meth c H locs 0 0 (MQ below (va_Qi (fun r u => Q r u) (fun u t => xEnd D ((fun u : XT => (wX cI cJ cB cZ ad u)) u) A t) A) args s 0 0 A) (F0 m 0 ls [])) := by
    intro k
    induction k with
    | zero => exact fun _ _ _ _ _ _ hR => False.elim hR
    | succ k ih =>
      intro t li lj H locs ls hR hl h
      have hR : wbX11_criticalOnes_0 (wpX11_criticalOnes k) k t li lj Q := hR
      unfold wbX11_criticalOnes_0 at hR
      refine lv_aload_n hx hb dX11_criticalOnes_0 rfl (lv_at hl 0 rfl) ?_
      refine x_get (ci := 11) (C := RX11) (T := TX11) (N := 11) (v := .ref (ad 4)) B h hin11 0 3 rfl rfl (by decide) (by decide +kernel) rfl dX11_criticalOnes_1 ?_
      refine x_cVLF (n := 0) (As := []) (rest := []) B h (wkX6_unpaired l D cI cJ cB cZ ad k t  _ hR) ⟨⟨_, rfl⟩, by decide +kernel, Nat.le_of_ble_eq_true rfl, Nat.le_of_ble_eq_true rfl⟩ gX11_criticalOnes_X6_unpaired (show ((wX cI cJ cB cZ ad t) : va_W)[4]? = some (_, .inr (6, _)) from rfl) rfl rfl hl.1 rfl (Nat.le_of_ble_eq_true rfl) dX11_criticalOnes_4 ⟨Nat.le_of_ble_eq_true rfl, Nat.le_of_ble_eq_true rfl⟩ (fun r_1 t_1 H locs hR h => ?_)
      refine x_cSIE (n := 1) (As := [.long r_1]) (rest := []) B h (wkJ13_bitCount_95d88 l D cI cJ cB cZ ad k r_1 _ hR) ⟨⟨_, rfl⟩, by decide +kernel, Nat.le_of_ble_eq_true rfl, Nat.le_of_ble_eq_true rfl⟩ gX11_criticalOnes_J13_bitCount_95d88 rfl hl.1 rfl (Nat.le_of_ble_eq_true rfl) dX11_criticalOnes_7 ⟨Nat.le_of_ble_eq_true rfl, Nat.le_of_ble_eq_true rfl⟩ (fun r_2 _ H locs hR h => ?_)
      exact x_iret (w1 := (fun u : XT => (wX cI cJ cB cZ ad u))) t_1 B h hr rfl hR dX11_criticalOnes_10
  exact (main k) t _ _ s.heap [] ls hR hl h
set_option maxRecDepth 20000 in
theorem ggX11_pair_X11_isThere : GoodIn wsX11_pair wsX11_isThere := goodIn_r _ [9, 1, 3, 10, 11, 12, 13, 14, 15, 16, 17, 18, 8, 19, 80, 81, 82, 83, 84, 85, 86, 87, 88, 89, 90, 98, 99, 100, 101, 102, 103, 91, 92, 93, 94, 95, 96, 97] (by decide +kernel) (by decide +kernel)
set_option maxRecDepth 20000 in
theorem gX11_pair_X11_isThere : GoodIn wsX11_pair (wsV RX11 130 RX11 yX11_isThere wsX11_isThere) := goodIn_app (goodIn_of _ (by decide +kernel)) ggX11_pair_X11_isThere
set_option maxRecDepth 20000 in
theorem ggX11_pair_X11_isIn : GoodIn wsX11_pair wsX11_isIn := goodIn_r _ [19] (by decide +kernel) (by decide +kernel)
set_option maxRecDepth 20000 in
theorem gX11_pair_X11_isIn : GoodIn wsX11_pair (va_wsS RX11 168 yX11_isIn wsX11_isIn) := goodIn_app (goodIn_of _ (by decide +kernel)) ggX11_pair_X11_isIn
set_option maxRecDepth 20000 in
theorem ggX11_pair_X6_isCritical : GoodIn wsX11_pair wsX6_isCritical := goodIn_r _ [24, 25, 26, 27, 23, 28, 29, 30, 31, 32, 18, 8, 19, 98, 99, 100, 101, 102, 103] (by decide +kernel) (by decide +kernel)
set_option maxRecDepth 20000 in
theorem gX11_pair_X6_isCritical : GoodIn wsX11_pair (wsV RX11 172 RX6 yX6_isCritical wsX6_isCritical) := goodIn_app (goodIn_of _ (by decide +kernel)) ggX11_pair_X6_isCritical
set_option maxRecDepth 20000 in
theorem ggX11_pair_X6_staysAcyclic : GoodIn wsX11_pair wsX6_staysAcyclic := goodIn_r _ [36, 37, 38, 32, 30, 39, 40, 8, 41, 42, 43, 44, 45, 46, 47, 48, 49, 50, 18, 19, 98, 99, 100, 101, 102, 103, 91, 92, 93, 94, 95, 96, 97] (by decide +kernel) (by decide +kernel)
set_option maxRecDepth 20000 in
theorem gX11_pair_X6_staysAcyclic : GoodIn wsX11_pair (wsV RX11 175 RX6 yX6_staysAcyclic wsX6_staysAcyclic) := goodIn_app (goodIn_of _ (by decide +kernel)) ggX11_pair_X6_staysAcyclic
set_option maxRecDepth 20000 in
theorem ggX11_pair_X3_save : GoodIn wsX11_pair wsX3_save := goodIn_r _ [55, 56, 57, 58, 59, 60, 61, 62, 63, 64, 65, 66, 67, 68, 69, 98, 99, 100, 101, 102, 103, 104, 105, 106, 107] (by decide +kernel) (by decide +kernel)
set_option maxRecDepth 20000 in
theorem gX11_pair_X3_save : GoodIn wsX11_pair (wsV RX11 179 RX3 yX3_save wsX3_save) := goodIn_app (goodIn_of _ (by decide +kernel)) ggX11_pair_X3_save
set_option maxRecDepth 20000 in
theorem ggX11_pair_X6_unite : GoodIn wsX11_pair wsX6_unite := goodIn_r _ [73, 39, 30, 31, 74, 40, 8, 41, 98, 99, 100, 101, 102, 103] (by decide +kernel) (by decide +kernel)
set_option maxRecDepth 20000 in
theorem gX11_pair_X6_unite : GoodIn wsX11_pair (wsV RX11 183 RX6 yX6_unite wsX6_unite) := goodIn_app (goodIn_of _ (by decide +kernel)) ggX11_pair_X6_unite
set_option maxRecDepth 20000 in
theorem ggX11_pair_X11_criticalOnes : GoodIn wsX11_pair wsX11_criticalOnes := goodIn_r _ [78, 3, 79, 26, 27, 23, 28, 29, 30, 31, 32, 44, 45, 46, 47, 48, 49, 50, 80, 81, 82, 83, 84, 85, 86, 87, 88, 89, 90, 98, 99, 100, 101, 102, 103] (by decide +kernel) (by decide +kernel)
set_option maxRecDepth 20000 in
theorem gX11_pair_X11_criticalOnes : GoodIn wsX11_pair (wsV RX11 187 RX11 yX11_criticalOnes wsX11_criticalOnes) := goodIn_app (goodIn_of _ (by decide +kernel)) ggX11_pair_X11_criticalOnes
def wbX11_pair_0 (rec : Nat → XT → (Nat → Int32) → (Nat → Int64) → (Int32 → XT → Prop) → Prop) (k : Nat) (t : XT) (li : Nat → Int32) (lj : Nat → Int64) (Q : Int32 → XT → Prop) : Prop :=
  (wqX11_isThere k t (li 1) (fun r_1 t_1 => ((r_1 = 0) → rec 1 t_1 li lj Q) ∧ (¬ (r_1 = 0) → (wqX11_isThere k t_1 (li 2) (fun r_3 t_3 => ((r_3 = 0) → rec 1 t_3 li lj Q) ∧ (¬ (r_3 = 0) → (vp_in (li 2) 64 ∧ (∀ v_5 : Int64, v_5 = (t_3.2.2.2 0) (li 2).toNatClampNeg → (wqX11_isIn k v_5 (li 1) (fun r_6 => ((¬ r_6 = 0) → (wqX6_isCritical k t_3 (li 1) (fun r_8 t_8 => ((r_8 = 0) → rec 2 t_8 li lj Q) ∧ (¬ (r_8 = 0) → (wqX6_isCritical k t_8 (li 2) (fun r_10 t_10 => ((¬ r_10 = 0) → (wqX6_staysAcyclic k t_10 (li 1) (li 2) (fun r_12 t_12 => ((¬ r_12 = 0) → (wqX3_save_c4 k t_12  (fun t_14 => (wqX6_unite k t_14 (li 1) (li 2) (fun t_15 => (wqX11_criticalOnes k t_15  (fun r_16 t_16 => Q r_16 t_16))))))) ∧ ((r_12 = 0) → Q (-2) t_12)))) ∧ ((r_10 = 0) → rec 2 t_10 li lj Q))))))) ∧ ((r_6 = 0) → rec 1 t_3 li lj Q)))))))))))
def wbX11_pair_1 (rec : Nat → XT → (Nat → Int32) → (Nat → Int64) → (Int32 → XT → Prop) → Prop) (k : Nat) (t : XT) (li : Nat → Int32) (lj : Nat → Int64) (Q : Int32 → XT → Prop) : Prop :=
  Q (-1) t
def wbX11_pair_2 (rec : Nat → XT → (Nat → Int32) → (Nat → Int64) → (Int32 → XT → Prop) → Prop) (k : Nat) (t : XT) (li : Nat → Int32) (lj : Nat → Int64) (Q : Int32 → XT → Prop) : Prop :=
  Q (-1) t
def wpX11_pair : Nat → Nat → XT → (Nat → Int32) → (Nat → Int64) → (Int32 → XT → Prop) → Prop
  | 0, _, _, _, _, _ => False
  | k + 1, 0, t, li, lj, Q => wbX11_pair_0 (wpX11_pair k) k t li lj Q
  | k + 1, 1, t, li, lj, Q => wbX11_pair_1 (wpX11_pair k) k t li lj Q
  | k + 1, 2, t, li, lj, Q => wbX11_pair_2 (wpX11_pair k) k t li lj Q
  | _ + 1, _, _, _, _, _ => False
def wqX11_pair (k : Nat) (t : XT) (a1 : Int32) (a2 : Int32) (Q : Int32 → XT → Prop) : Prop := wpX11_pair k 0 t (uI (uI (fun _ => 0) 1 a1) 2 a2) (fun _ => 0) Q
set_option maxHeartbeats 8000000 in
set_option maxRecDepth 100000 in
theorem wkX11_pair (l : Launch) (D : va_G) (cI cJ cB cZ : ClassId) (ad : Nat → Nat) (k : Nat) (t : XT) (a1 : Int32) (a2 : Int32) (Q : Int32 → XT → Prop) (hR : wqX11_pair k t a1 a2 Q) : MetI l yX11_pair wsX11_pair 3 85 0 0 D (TYS cI cJ cB cZ) (wX cI cJ cB cZ ad t) [.ref (ad 0), .int a1, .int a2] (fun r u => Q r u) (fun u : XT => (wX cI cJ cB cZ ad u)) := by
  refine x_startI (ty := .int) (cc := cX11_pair) (by decide) rfl (Nat.le_of_ble_eq_true rfl) ?_
  intro p e s m args below meth c A ls B hr hnm h hl
  have hx := B.1.1
  have hb := B.1.2.1
  have hml := B.1.2.2.1
  have hts := B.1.2.2.2.2
  have hown : s.vm.findClass RX11 = some m.cls := B.1.2.2.2.1
  have hin9 : ∀ w ∈ u_ws RX9 TX9 7, w ∈ wsX11_pair := by decide +kernel
  have hin11 : ∀ w ∈ u_ws RX11 TX11 11, w ∈ wsX11_pair := by decide +kernel
  have main : ∀ k : Nat, (∀ (t : XT) (li : Nat → Int32) (lj : Nat → Int64) (H : Heap) (locs : List Loc) (ls : Array Slot), wpX11_pair k 0 t li lj Q → lv_has ls 3 [(0, .ref (ad 0)), (1, .int (li 1)), (2, .int (li 2))] → Hp D A s.heap (wX cI cJ cB cZ ad t) H locs → W p l e { frames := 3, cells := 0, slots := 0, locals := 85 } s m args below meth c H locs 0 0 (MQ below (va_Qi (fun r u => Q r u) (fun u t => xEnd D ((fun u : XT => (wX cI cJ cB cZ ad u)) u) A t) A) args s 0 0 A) (F0 m 0 ls [])) ∧
      (∀ (t : XT) (li : Nat → Int32) (lj : Nat → Int64) (H : Heap) (locs : List Loc) (ls : Array Slot), wpX11_pair k 1 t li lj Q → lv_has ls 3 [(0, .ref (ad 0)), (1, .int (li 1)), (2, .int (li 2))] → Hp D A s.heap (wX cI cJ cB cZ ad t) H locs → W p l e { frames := 3, cells := 0, slots := 0, locals := 85 } s m args below meth c H locs 0 0 (MQ below (va_Qi (fun r u => Q r u) (fun u t => xEnd D ((fun u : XT => (wX cI cJ cB cZ ad u)) u) A t) A) args s 0 0 A) (F0 m 32 ls [])) ∧
      (∀ (t : XT) (li : Nat → Int32) (lj : Nat → Int64) (H : Heap) (locs : List Loc) (ls : Array Slot), wpX11_pair k 2 t li lj Q → lv_has ls 3 [(0, .ref (ad 0)), (1, .int (li 1)), (2, .int (li 2))] → Hp D A s.heap (wX cI cJ cB cZ ad t) H locs → W p l e { frames := 3, cells := 0, slots := 0, locals := 85 } s m args below meth c H locs 0 0 (MQ below (va_Qi (fun r u => Q r u) (fun u t => xEnd D ((fun u : XT => (wX cI cJ cB cZ ad u)) u) A t) A) args s 0 0 A) (F0 m 56 ls [])) := by
    intro k
    induction k with
    | zero => exact ⟨fun _ _ _ _ _ _ hR => False.elim hR, fun _ _ _ _ _ _ hR => False.elim hR, fun _ _ _ _ _ _ hR => False.elim hR⟩
    | succ k ih =>
      refine ⟨?_, ?_, ?_⟩
      · intro t li lj H locs ls hR hl h
        have hR : wbX11_pair_0 (wpX11_pair k) k t li lj Q := hR
        unfold wbX11_pair_0 at hR
        refine lv_aload_n hx hb dX11_pair_0 rfl (lv_at hl 0 rfl) ?_
        refine lv_iload_n hx hb dX11_pair_1 rfl (lv_at hl 1 rfl) ?_
        refine x_cVIF (n := 1) (As := [.int (li 1)]) (rest := []) B h (wkX11_isThere l D cI cJ cB cZ ad k t (li 1) _ hR) ⟨⟨_, rfl⟩, by decide +kernel, Nat.le_of_ble_eq_true rfl, Nat.le_of_ble_eq_true rfl⟩ gX11_pair_X11_isThere (show ((wX cI cJ cB cZ ad t) : va_W)[0]? = some (_, .inr (11, _)) from rfl) rfl rfl hl.1 rfl (Nat.le_of_ble_eq_true rfl) dX11_pair_2 ⟨Nat.le_of_ble_eq_true rfl, Nat.le_of_ble_eq_true rfl⟩ (fun r_1 t_1 H locs hR h => ?_)
        refine lv_if_eq (tgt := 32) hx hb dX11_pair_5 (by decide) (fun c_2 => ?_) (fun c_2 => ?_)
        · have hR := hR.1 c_2
          exact ih.2.1 t_1 li lj H locs ls hR (lv_sub hl [0, 1, 2] rfl) h
        · have hR := hR.2 c_2
          refine lv_aload_n hx hb dX11_pair_8 rfl (lv_at hl 0 rfl) ?_
          refine lv_iload_n hx hb dX11_pair_9 rfl (lv_at hl 2 rfl) ?_
          refine x_cVIF (n := 1) (As := [.int (li 2)]) (rest := []) B h (wkX11_isThere l D cI cJ cB cZ ad k t_1 (li 2) _ hR) ⟨⟨_, rfl⟩, by decide +kernel, Nat.le_of_ble_eq_true rfl, Nat.le_of_ble_eq_true rfl⟩ gX11_pair_X11_isThere (show ((wX cI cJ cB cZ ad t_1) : va_W)[0]? = some (_, .inr (11, _)) from rfl) rfl rfl hl.1 rfl (Nat.le_of_ble_eq_true rfl) dX11_pair_10 ⟨Nat.le_of_ble_eq_true rfl, Nat.le_of_ble_eq_true rfl⟩ (fun r_3 t_3 H locs hR h => ?_)
          refine lv_if_eq (tgt := 32) hx hb dX11_pair_13 (by decide) (fun c_4 => ?_) (fun c_4 => ?_)
          · have hR := hR.1 c_4
            exact ih.2.1 t_3 li lj H locs ls hR (lv_sub hl [0, 1, 2] rfl) h
          · have hR := hR.2 c_4
            refine lv_aload_n hx hb dX11_pair_16 rfl (lv_at hl 0 rfl) ?_
            refine x_get (ci := 11) (C := RX11) (T := TX11) (N := 11) (v := .ref (ad 3)) B h hin11 0 2 rfl rfl (by decide) (by decide +kernel) rfl dX11_pair_17 ?_
            refine x_get (ci := 9) (C := RX9) (T := TX9) (N := 7) (v := .ref (ad 17)) B h hin9 3 4 rfl rfl (by decide) (by decide +kernel) rfl dX11_pair_20 ?_
            refine lv_iload_n hx hb dX11_pair_23 rfl (lv_at hl 2 rfl) ?_
            obtain ⟨hb_5, hR⟩ := hR
            refine va_lald (f := (t_3.2.2.2 0)) hx hb B.2.1 h.1 17 1 rfl rfl hb_5 dX11_pair_24 ?_
            refine lv_topl (fun v_5 ev_5 => ?_)
            have hR := hR v_5 ev_5
            refine lv_iload_n hx hb dX11_pair_25 rfl (lv_at hl 1 rfl) ?_
            refine x_cSIE (n := 2) (As := [.long v_5, .int (li 1)]) (rest := []) B h (wkX11_isIn l D cI cJ cB cZ ad k v_5 (li 1) _ hR) ⟨⟨_, rfl⟩, by decide +kernel, Nat.le_of_ble_eq_true rfl, Nat.le_of_ble_eq_true rfl⟩ gX11_pair_X11_isIn rfl hl.1 rfl (Nat.le_of_ble_eq_true rfl) dX11_pair_26 ⟨Nat.le_of_ble_eq_true rfl, Nat.le_of_ble_eq_true rfl⟩ (fun r_6 _ H locs hR h => ?_)
            refine lv_if_ne (tgt := 34) hx hb dX11_pair_29 (by decide) (fun c_7 => ?_) (fun c_7 => ?_)
            · have hR := hR.1 c_7
              refine lv_aload_n hx hb dX11_pair_34 rfl (lv_at hl 0 rfl) ?_
              refine x_get (ci := 11) (C := RX11) (T := TX11) (N := 11) (v := .ref (ad 4)) B h hin11 0 3 rfl rfl (by decide) (by decide +kernel) rfl dX11_pair_35 ?_
              refine lv_iload_n hx hb dX11_pair_38 rfl (lv_at hl 1 rfl) ?_
              refine x_cVIF (n := 1) (As := [.int (li 1)]) (rest := []) B h (wkX6_isCritical l D cI cJ cB cZ ad k t_3 (li 1) _ hR) ⟨⟨_, rfl⟩, by decide +kernel, Nat.le_of_ble_eq_true rfl, Nat.le_of_ble_eq_true rfl⟩ gX11_pair_X6_isCritical (show ((wX cI cJ cB cZ ad t_3) : va_W)[4]? = some (_, .inr (6, _)) from rfl) rfl rfl hl.1 rfl (Nat.le_of_ble_eq_true rfl) dX11_pair_39 ⟨Nat.le_of_ble_eq_true rfl, Nat.le_of_ble_eq_true rfl⟩ (fun r_8 t_8 H locs hR h => ?_)
              refine lv_if_eq (tgt := 56) hx hb dX11_pair_42 (by decide) (fun c_9 => ?_) (fun c_9 => ?_)
              · have hR := hR.1 c_9
                exact ih.2.2 t_8 li lj H locs ls hR (lv_sub hl [0, 1, 2] rfl) h
              · have hR := hR.2 c_9
                refine lv_aload_n hx hb dX11_pair_45 rfl (lv_at hl 0 rfl) ?_
                refine x_get (ci := 11) (C := RX11) (T := TX11) (N := 11) (v := .ref (ad 4)) B h hin11 0 3 rfl rfl (by decide) (by decide +kernel) rfl dX11_pair_46 ?_
                refine lv_iload_n hx hb dX11_pair_49 rfl (lv_at hl 2 rfl) ?_
                refine x_cVIF (n := 1) (As := [.int (li 2)]) (rest := []) B h (wkX6_isCritical l D cI cJ cB cZ ad k t_8 (li 2) _ hR) ⟨⟨_, rfl⟩, by decide +kernel, Nat.le_of_ble_eq_true rfl, Nat.le_of_ble_eq_true rfl⟩ gX11_pair_X6_isCritical (show ((wX cI cJ cB cZ ad t_8) : va_W)[4]? = some (_, .inr (6, _)) from rfl) rfl rfl hl.1 rfl (Nat.le_of_ble_eq_true rfl) dX11_pair_50 ⟨Nat.le_of_ble_eq_true rfl, Nat.le_of_ble_eq_true rfl⟩ (fun r_10 t_10 H locs hR h => ?_)
                refine lv_if_ne (tgt := 58) hx hb dX11_pair_53 (by decide) (fun c_11 => ?_) (fun c_11 => ?_)
                · have hR := hR.1 c_11
                  refine lv_aload_n hx hb dX11_pair_58 rfl (lv_at hl 0 rfl) ?_
                  refine x_get (ci := 11) (C := RX11) (T := TX11) (N := 11) (v := .ref (ad 4)) B h hin11 0 3 rfl rfl (by decide) (by decide +kernel) rfl dX11_pair_59 ?_
                  refine lv_iload_n hx hb dX11_pair_62 rfl (lv_at hl 1 rfl) ?_
                  refine lv_iload_n hx hb dX11_pair_63 rfl (lv_at hl 2 rfl) ?_
                  refine x_cVIF (n := 2) (As := [.int (li 1), .int (li 2)]) (rest := []) B h (wkX6_staysAcyclic l D cI cJ cB cZ ad k t_10 (li 1) (li 2) _ hR) ⟨⟨_, rfl⟩, by decide +kernel, Nat.le_of_ble_eq_true rfl, Nat.le_of_ble_eq_true rfl⟩ gX11_pair_X6_staysAcyclic (show ((wX cI cJ cB cZ ad t_10) : va_W)[4]? = some (_, .inr (6, _)) from rfl) rfl rfl hl.1 rfl (Nat.le_of_ble_eq_true rfl) dX11_pair_64 ⟨Nat.le_of_ble_eq_true rfl, Nat.le_of_ble_eq_true rfl⟩ (fun r_12 t_12 H locs hR h => ?_)
                  refine lv_if_ne (tgt := 73) hx hb dX11_pair_67 (by decide) (fun c_13 => ?_) (fun c_13 => ?_)
                  · have hR := hR.1 c_13
                    refine lv_aload_n hx hb dX11_pair_73 rfl (lv_at hl 0 rfl) ?_
                    refine x_get (ci := 11) (C := RX11) (T := TX11) (N := 11) (v := .ref (ad 9)) B h hin11 0 8 rfl rfl (by decide) (by decide +kernel) rfl dX11_pair_74 ?_
                    refine lv_aload_n hx hb dX11_pair_77 rfl (lv_at hl 0 rfl) ?_
                    refine x_get (ci := 11) (C := RX11) (T := TX11) (N := 11) (v := .ref (ad 4)) B h hin11 0 3 rfl rfl (by decide) (by decide +kernel) rfl dX11_pair_78 ?_
                    refine x_cVVF (n := 1) (As := [.ref (ad 4)]) (rest := []) B h (wkX3_save_c4 l D cI cJ cB cZ ad k t_12  _ hR) ⟨⟨_, rfl⟩, by decide +kernel, Nat.le_of_ble_eq_true rfl, Nat.le_of_ble_eq_true rfl⟩ gX11_pair_X3_save (show ((wX cI cJ cB cZ ad t_12) : va_W)[9]? = some (_, .inr (3, _)) from rfl) rfl rfl hl.1 rfl (Nat.le_of_ble_eq_true rfl) dX11_pair_81 ⟨Nat.le_of_ble_eq_true rfl, Nat.le_of_ble_eq_true rfl⟩ (fun t_14 H locs hR h => ?_)
                    refine lv_aload_n hx hb dX11_pair_84 rfl (lv_at hl 0 rfl) ?_
                    refine x_get (ci := 11) (C := RX11) (T := TX11) (N := 11) (v := .ref (ad 4)) B h hin11 0 3 rfl rfl (by decide) (by decide +kernel) rfl dX11_pair_85 ?_
                    refine lv_iload_n hx hb dX11_pair_88 rfl (lv_at hl 1 rfl) ?_
                    refine lv_iload_n hx hb dX11_pair_89 rfl (lv_at hl 2 rfl) ?_
                    refine x_cVVF (n := 2) (As := [.int (li 1), .int (li 2)]) (rest := []) B h (wkX6_unite l D cI cJ cB cZ ad k t_14 (li 1) (li 2) _ hR) ⟨⟨_, rfl⟩, by decide +kernel, Nat.le_of_ble_eq_true rfl, Nat.le_of_ble_eq_true rfl⟩ gX11_pair_X6_unite (show ((wX cI cJ cB cZ ad t_14) : va_W)[4]? = some (_, .inr (6, _)) from rfl) rfl rfl hl.1 rfl (Nat.le_of_ble_eq_true rfl) dX11_pair_90 ⟨Nat.le_of_ble_eq_true rfl, Nat.le_of_ble_eq_true rfl⟩ (fun t_15 H locs hR h => ?_)
                    refine lv_aload_n hx hb dX11_pair_93 rfl (lv_at hl 0 rfl) ?_
                    refine x_cVIF (n := 0) (As := []) (rest := []) B h (wkX11_criticalOnes l D cI cJ cB cZ ad k t_15  _ hR) ⟨⟨_, rfl⟩, by decide +kernel, Nat.le_of_ble_eq_true rfl, Nat.le_of_ble_eq_true rfl⟩ gX11_pair_X11_criticalOnes (show ((wX cI cJ cB cZ ad t_15) : va_W)[0]? = some (_, .inr (11, _)) from rfl) rfl rfl hl.1 rfl (Nat.le_of_ble_eq_true rfl) dX11_pair_94 ⟨Nat.le_of_ble_eq_true rfl, Nat.le_of_ble_eq_true rfl⟩ (fun r_16 t_16 H locs hR h => ?_)
                    exact x_iret (w1 := (fun u : XT => (wX cI cJ cB cZ ad u))) t_16 B h hr rfl hR dX11_pair_97
                  · have hR := hR.2 c_13
                    refine lv_bipush (v := (-2)) hx hb dX11_pair_70 (by decide) ?_
                    exact x_iret (w1 := (fun u : XT => (wX cI cJ cB cZ ad u))) t_12 B h hr rfl hR dX11_pair_72
                · have hR := hR.2 c_11
                  exact ih.2.2 t_10 li lj H locs ls hR (lv_sub hl [0, 1, 2] rfl) h
            · have hR := hR.2 c_7
              exact ih.2.1 t_3 li lj H locs ls hR (lv_sub hl [0, 1, 2] rfl) h
      · intro t li lj H locs ls hR hl h
        have hR : wbX11_pair_1 (wpX11_pair k) k t li lj Q := hR
        unfold wbX11_pair_1 at hR
        refine lv_iconst (v := (-1)) hx hb dX11_pair_32 (by decide) ?_
        exact x_iret (w1 := (fun u : XT => (wX cI cJ cB cZ ad u))) t B h hr rfl hR dX11_pair_33
      · intro t li lj H locs ls hR hl h
        have hR : wbX11_pair_2 (wpX11_pair k) k t li lj Q := hR
        unfold wbX11_pair_2 at hR
        refine lv_iconst (v := (-1)) hx hb dX11_pair_56 (by decide) ?_
        exact x_iret (w1 := (fun u : XT => (wX cI cJ cB cZ ad u))) t B h hr rfl hR dX11_pair_57
  exact (main k).1 t _ _ s.heap [] ls hR hl h
