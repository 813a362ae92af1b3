set_option maxRecDepth 20000 in
theorem ggX11_free_X11_isThere : GoodIn wsX11_free wsX11_isThere := goodIn_r _ [7, 1, 8, 9, 10, 11, 12, 13, 14, 15, 16, 17, 6, 18, 43, 44, 45, 46, 47, 48, 49, 50, 51, 52, 53, 61, 62, 63, 64, 65, 66, 54, 55, 56, 57, 58, 59, 60] (by decide +kernel) (by decide +kernel)
set_option maxRecDepth 20000 in
theorem gX11_free_X11_isThere : GoodIn wsX11_free (wsV RX11 130 RX11 yX11_isThere wsX11_isThere) := goodIn_app (goodIn_of _ (by decide +kernel)) ggX11_free_X11_isThere
set_option maxRecDepth 20000 in
theorem ggX11_free_X11_isFree : GoodIn wsX11_free wsX11_isFree := goodIn_r _ [22, 1, 23, 8, 9, 24, 25, 26, 27, 28, 29, 30, 31, 32, 6, 33, 43, 44, 45, 46, 47, 48, 49, 50, 51, 52, 53, 54, 55, 56, 57, 58, 59, 60, 61, 62, 63, 64, 65, 66] (by decide +kernel) (by decide +kernel)
set_option maxRecDepth 20000 in
theorem gX11_free_X11_isFree : GoodIn wsX11_free (wsV RX11 217 RX11 yX11_isFree wsX11_isFree) := goodIn_app (goodIn_of _ (by decide +kernel)) ggX11_free_X11_isFree
set_option maxRecDepth 20000 in
theorem ggX11_free_X11_bit : GoodIn wsX11_free wsX11_bit := goodIn_r _ [36] (by decide +kernel) (by decide +kernel)
set_option maxRecDepth 20000 in
theorem gX11_free_X11_bit : GoodIn wsX11_free (va_wsS RX11 256 yX11_bit wsX11_bit) := goodIn_app (goodIn_of _ (by decide +kernel)) ggX11_free_X11_bit
set_option maxRecDepth 20000 in
theorem ggX11_free_X11_listed : GoodIn wsX11_free wsX11_listed := goodIn_r _ [39, 24, 25, 26, 27, 28, 29, 30, 40, 41, 6, 42, 31, 32, 33] (by decide +kernel) (by decide +kernel)
set_option maxRecDepth 20000 in
theorem gX11_free_X11_listed : GoodIn wsX11_free (va_wsS RX11 238 yX11_listed wsX11_listed) := goodIn_app (goodIn_of _ (by decide +kernel)) ggX11_free_X11_listed
def wbX11_free_0 (rec : Nat → XT → (Nat → Int32) → (Nat → Int64) → (Int32 → XT → Prop) → Prop) (k : Nat) (t : XT) (li : Nat → Int32) (lj : Nat → Int64) (Q : Int32 → XT → Prop) : Prop :=
  ((((-1) : Int32) ≤ (li 1)) → rec 1 t (uI li 4 0) (uI lj 2 0) Q) ∧ (¬ (((-1) : Int32) ≤ (li 1)) → Q (-1) t)
def wbX11_free_1 (rec : Nat → XT → (Nat → Int32) → (Nat → Int64) → (Int32 → XT → Prop) → Prop) (k : Nat) (t : XT) (li : Nat → Int32) (lj : Nat → Int64) (Q : Int32 → XT → Prop) : Prop :=
  ((((t.1 4) : Int32) ≤ (li 4)) → (wqX11_listed k (lj 2) (li 1) (fun r_3 => Q r_3 t))) ∧ (¬ (((t.1 4) : Int32) ≤ (li 4)) → (wqX11_isThere k t (li 4) (fun r_4 t_4 => ((r_4 = 0) → rec 2 t_4 li lj Q) ∧ (¬ (r_4 = 0) → (wqX11_isFree k t_4 (li 4) (fun r_6 t_6 => ((r_6 = 0) → rec 2 t_6 li lj Q) ∧ (¬ (r_6 = 0) → (wqX11_bit k (li 4) (fun r_8 => (∀ v_9 : Int64, v_9 = ((lj 2) ||| r_8) → rec 2 t_6 li (uI lj 2 v_9) Q))))))))))
def wbX11_free_2 (rec : Nat → XT → (Nat → Int32) → (Nat → Int64) → (Int32 → XT → Prop) → Prop) (k : Nat) (t : XT) (li : Nat → Int32) (lj : Nat → Int64) (Q : Int32 → XT → Prop) : Prop :=
  (∀ v_10 : Int32, v_10 = (li 4) + Int32.ofInt 1 → rec 1 t (uI li 4 v_10) lj Q)
def wpX11_free : Nat → Nat → XT → (Nat → Int32) → (Nat → Int64) → (Int32 → XT → Prop) → Prop
  | 0, _, _, _, _, _ => False
  | k + 1, 0, t, li, lj, Q => wbX11_free_0 (wpX11_free k) k t li lj Q
  | k + 1, 1, t, li, lj, Q => wbX11_free_1 (wpX11_free k) k t li lj Q
  | k + 1, 2, t, li, lj, Q => wbX11_free_2 (wpX11_free k) k t li lj Q
  | _ + 1, _, _, _, _, _ => False
def wqX11_free (k : Nat) (t : XT) (a1 : Int32) (Q : Int32 → XT → Prop) : Prop := wpX11_free k 0 t (uI (fun _ => 0) 1 a1) (fun _ => 0) Q
set_option maxHeartbeats 8000000 in
set_option maxRecDepth 100000 in
theorem wkX11_free (l : Launch) (D : va_G) (cI cJ cB cZ : ClassId) (ad : Nat → Nat) (k : Nat) (t : XT) (a1 : Int32) (Q : Int32 → XT → Prop) (hR : wqX11_free k t a1 Q) : MetI l yX11_free wsX11_free 4 90 0 0 D (TYS cI cJ cB cZ) (wX cI cJ cB cZ ad t) [.ref (ad 0), .int a1] (fun r u => Q r u) (fun u : XT => (wX cI cJ cB cZ ad u)) := by
  refine x_startI (ty := .int) (cc := cX11_free) (by decide) rfl (Nat.le_of_ble_eq_true rfl) ?_
  intro p e s m args below meth c A ls B hr hnm h hl
  have hx := B.1.1
  have hb := B.1.2.1
  have hml := B.1.2.2.1
  have hts := B.1.2.2.2.2
  have hown : s.vm.findClass RX11 = some m.cls := B.1.2.2.2.1
  have hin9 : ∀ w ∈ u_ws RX9 TX9 7, w ∈ wsX11_free := by decide +kernel
  have hin11 : ∀ w ∈ u_ws RX11 TX11 11, w ∈ wsX11_free := by decide +kernel
  have main : ∀ k : Nat, (∀ (t : XT) (li : Nat → Int32) (lj : Nat → Int64) (H : Heap) (locs : List Loc) (ls : Array Slot), wpX11_free k 0 t li lj Q → lv_has ls 5 [(0, .ref (ad 0)), (1, .int (li 1))] → Hp D A s.heap (wX cI cJ cB cZ ad t) H locs → W p l e { frames := 4, cells := 0, slots := 0, locals := 90 } s m args below meth c H locs 0 0 (MQ below (va_Qi (fun r u => Q r u) (fun u t => xEnd D ((fun u : XT => (wX cI cJ cB cZ ad u)) u) A t) A) args s 0 0 A) (F0 m 0 ls [])) ∧
      (∀ (t : XT) (li : Nat → Int32) (lj : Nat → Int64) (H : Heap) (locs : List Loc) (ls : Array Slot), wpX11_free k 1 t li lj Q → lv_has ls 5 [(0, .ref (ad 0)), (1, .int (li 1)), (2, .long (lj 2)), (4, .int (li 4))] → Hp D A s.heap (wX cI cJ cB cZ ad t) H locs → W p l e { frames := 4, cells := 0, slots := 0, locals := 90 } s m args below meth c H locs 0 0 (MQ below (va_Qi (fun r u => Q r u) (fun u t => xEnd D ((fun u : XT => (wX cI cJ cB cZ ad u)) u) A t) A) args s 0 0 A) (F0 m 12 ls [])) ∧
      (∀ (t : XT) (li : Nat → Int32) (lj : Nat → Int64) (H : Heap) (locs : List Loc) (ls : Array Slot), wpX11_free k 2 t li lj Q → lv_has ls 5 [(0, .ref (ad 0)), (1, .int (li 1)), (2, .long (lj 2)), (4, .int (li 4))] → Hp D A s.heap (wX cI cJ cB cZ ad t) H locs → W p l e { frames := 4, cells := 0, slots := 0, locals := 90 } s m args below meth c H locs 0 0 (MQ below (va_Qi (fun r u => Q r u) (fun u t => xEnd D ((fun u : XT => (wX cI cJ cB cZ ad u)) u) A t) A) args s 0 0 A) (F0 m 50 ls [])) := by
    intro k
    induction k with
    | zero => exact ⟨fun _ _ _ _ _ _ hR => False.elim hR, fun _ _ _ _ _ _ hR => False.elim hR, fun _ _ _ _ _ _ hR => False.elim hR⟩
    | succ k ih =>
      refine ⟨?_, ?_, ?_⟩
      · intro t li lj H locs ls hR hl h
        have hR : wbX11_free_0 (wpX11_free k) k t li lj Q := hR
        unfold wbX11_free_0 at hR
        refine lv_iload_n hx hb dX11_free_0 rfl (lv_at hl 1 rfl) ?_
        refine lv_iconst (v := (-1)) hx hb dX11_free_1 (by decide) ?_
        refine lv_icmp_ge (tgt := 7) hx hb dX11_free_2 (by decide) (fun c_1 => ?_) (fun c_1 => ?_)
        · have hR := hR.1 c_1
          refine lv_lconst (v := 0) hx hb dX11_free_7 (by decide) ?_
          refine lv_lstore_n (lv' := [(2, .long 0), (0, .ref (ad 0)), (1, .int (li 1))]) hx hb dX11_free_8 rfl hl (by decide) rfl (fun ls hl => ?_)
          refine lv_iconst (v := 0) hx hb dX11_free_9 (by decide) ?_
          refine lv_istore (lv' := [(4, .int 0), (2, .long 0), (0, .ref (ad 0)), (1, .int (li 1))]) hx hb dX11_free_10 hl (by decide) rfl (fun ls hl => ?_)
          exact ih.2.1 t (uI li 4 0) (uI lj 2 0) H locs ls hR (lv_sub hl [2, 3, 1, 0] rfl) h
        · have hR := hR.2 c_1
          refine lv_iconst (v := (-1)) hx hb dX11_free_5 (by decide) ?_
          exact x_iret (w1 := (fun u : XT => (wX cI cJ cB cZ ad u))) t B h hr rfl hR dX11_free_6
      · intro t li lj H locs ls hR hl h
        have hR : wbX11_free_1 (wpX11_free k) k t li lj Q := hR
        unfold wbX11_free_1 at hR
        refine lv_iload hx hb dX11_free_12 (lv_at hl 3 rfl) ?_
        refine lv_aload_n hx hb dX11_free_14 rfl (lv_at hl 0 rfl) ?_
        refine x_get (ci := 11) (C := RX11) (T := TX11) (N := 11) (v := .ref (ad 3)) B h hin11 0 2 rfl rfl (by decide) (by decide +kernel) rfl dX11_free_15 ?_
        refine x_get (ci := 9) (C := RX9) (T := TX9) (N := 7) (v := .int (t.1 4)) B h hin9 3 0 rfl rfl (by decide) (by decide +kernel) rfl dX11_free_18 ?_
        refine lv_icmp_ge (tgt := 56) hx hb dX11_free_21 (by decide) (fun c_2 => ?_) (fun c_2 => ?_)
        · have hR := hR.1 c_2
          refine lv_lload_n hx hb dX11_free_56 rfl (lv_at hl 2 rfl) ?_
          refine lv_iload_n hx hb dX11_free_57 rfl (lv_at hl 1 rfl) ?_
          refine x_cSIE (n := 2) (As := [.long (lj 2), .int (li 1)]) (rest := []) B h (wkX11_listed l D cI cJ cB cZ ad k (lj 2) (li 1) _ hR) ⟨⟨_, rfl⟩, by decide +kernel, Nat.le_of_ble_eq_true rfl, Nat.le_of_ble_eq_true rfl⟩ gX11_free_X11_listed rfl hl.1 rfl (Nat.le_of_ble_eq_true rfl) dX11_free_58 ⟨Nat.le_of_ble_eq_true rfl, Nat.le_of_ble_eq_true rfl⟩ (fun r_3 _ H locs hR h => ?_)
          exact x_iret (w1 := (fun u : XT => (wX cI cJ cB cZ ad u))) t B h hr rfl hR dX11_free_61
        · have hR := hR.2 c_2
          refine lv_aload_n hx hb dX11_free_24 rfl (lv_at hl 0 rfl) ?_
          refine lv_iload hx hb dX11_free_25 (lv_at hl 3 rfl) ?_
          refine x_cVIF (n := 1) (As := [.int (li 4)]) (rest := []) B h (wkX11_isThere l D cI cJ cB cZ ad k t (li 4) _ hR) ⟨⟨_, rfl⟩, by decide +kernel, Nat.le_of_ble_eq_true rfl, Nat.le_of_ble_eq_true rfl⟩ gX11_free_X11_isThere (show ((wX cI cJ cB cZ ad t) : va_W)[0]? = some (_, .inr (11, _)) from rfl) rfl rfl hl.1 rfl (Nat.le_of_ble_eq_true rfl) dX11_free_27 ⟨Nat.le_of_ble_eq_true rfl, Nat.le_of_ble_eq_true rfl⟩ (fun r_4 t_4 H locs hR h => ?_)
          refine lv_if_eq (tgt := 50) hx hb dX11_free_30 (by decide) (fun c_5 => ?_) (fun c_5 => ?_)
          · have hR := hR.1 c_5
            exact ih.2.2 t_4 li lj H locs ls hR (lv_sub hl [0, 1, 2, 3] rfl) h
          · have hR := hR.2 c_5
            refine lv_aload_n hx hb dX11_free_33 rfl (lv_at hl 0 rfl) ?_
            refine lv_iload hx hb dX11_free_34 (lv_at hl 3 rfl) ?_
            refine x_cVIF (n := 1) (As := [.int (li 4)]) (rest := []) B h (wkX11_isFree l D cI cJ cB cZ ad k t_4 (li 4) _ hR) ⟨⟨_, rfl⟩, by decide +kernel, Nat.le_of_ble_eq_true rfl, Nat.le_of_ble_eq_true rfl⟩ gX11_free_X11_isFree (show ((wX cI cJ cB cZ ad t_4) : va_W)[0]? = some (_, .inr (11, _)) from rfl) rfl rfl hl.1 rfl (Nat.le_of_ble_eq_true rfl) dX11_free_36 ⟨Nat.le_of_ble_eq_true rfl, Nat.le_of_ble_eq_true rfl⟩ (fun r_6 t_6 H locs hR h => ?_)
            refine lv_if_eq (tgt := 50) hx hb dX11_free_39 (by decide) (fun c_7 => ?_) (fun c_7 => ?_)
            · have hR := hR.1 c_7
              exact ih.2.2 t_6 li lj H locs ls hR (lv_sub hl [0, 1, 2, 3] rfl) h
            · have hR := hR.2 c_7
              refine lv_lload_n hx hb dX11_free_42 rfl (lv_at hl 2 rfl) ?_
              refine lv_iload hx hb dX11_free_43 (lv_at hl 3 rfl) ?_
              refine x_cSLE (n := 1) (As := [.int (li 4)]) (rest := [.long (lj 2)]) B h (wkX11_bit l D cI cJ cB cZ ad k (li 4) _ hR) ⟨⟨_, rfl⟩, by decide +kernel, Nat.le_of_ble_eq_true rfl, Nat.le_of_ble_eq_true rfl⟩ gX11_free_X11_bit rfl hl.1 rfl (Nat.le_of_ble_eq_true rfl) dX11_free_45 ⟨Nat.le_of_ble_eq_true rfl, Nat.le_of_ble_eq_true rfl⟩ (fun r_8 _ H locs hR h => ?_)
              refine lv_lor hx hb dX11_free_48 ?_
              refine lv_topl (fun v_9 ev_9 => ?_)
              have hR := hR v_9 ev_9
              refine lv_lstore_n (lv' := [(2, .long v_9), (0, .ref (ad 0)), (1, .int (li 1)), (4, .int (li 4))]) hx hb dX11_free_49 rfl hl (by decide) rfl (fun ls hl => ?_)
              exact ih.2.2 t_6 li (uI lj 2 v_9) H locs ls hR (lv_sub hl [1, 2, 0, 3] rfl) h
      · intro t li lj H locs ls hR hl h
        have hR : wbX11_free_2 (wpX11_free k) k t li lj Q := hR
        unfold wbX11_free_2 at hR
        obtain ⟨v_10, ev_10⟩ : ∃ v : Int32, v = (li 4) + Int32.ofInt 1 := ⟨_, rfl⟩
        have hR := hR v_10 ev_10
        refine lv_iinc (v := v_10) (lv' := [(4, .int v_10), (0, .ref (ad 0)), (1, .int (li 1)), (2, .long (lj 2))]) hx hb dX11_free_50 hl (k := 3) rfl ev_10.symm (by decide) rfl (fun ls hl => ?_)
        refine lv_goto (tgt := 12) hx hb dX11_free_53 (by decide) ?_
        exact ih.2.1 t (uI li 4 v_10) lj H locs ls hR (lv_sub hl [1, 2, 3, 0] rfl) h
  exact (main k).1 t _ _ s.heap [] ls hR hl h
set_option maxRecDepth 20000 in
theorem ggX11_facet_X11_isThere : GoodIn wsX11_facet wsX11_isThere := goodIn_r _ [10, 1, 4, 5, 11, 12, 13, 14, 15, 16, 17, 18, 9, 19, 39, 40, 41, 42, 43, 44, 45, 46, 47, 48, 49, 57, 58, 59, 60, 61, 62, 50, 51, 52, 53, 54, 55, 56] (by decide +kernel) (by decide +kernel)
set_option maxRecDepth 20000 in
theorem gX11_facet_X11_isThere : GoodIn wsX11_facet (wsV RX11 130 RX11 yX11_isThere wsX11_isThere) := goodIn_app (goodIn_of _ (by decide +kernel)) ggX11_facet_X11_isThere
set_option maxRecDepth 20000 in
theorem ggX11_facet_X11_bit : GoodIn wsX11_facet wsX11_bit := goodIn_r _ [22] (by decide +kernel) (by decide +kernel)
set_option maxRecDepth 20000 in
theorem gX11_facet_X11_bit : GoodIn wsX11_facet (va_wsS RX11 256 yX11_bit wsX11_bit) := goodIn_app (goodIn_of _ (by decide +kernel)) ggX11_facet_X11_bit
set_option maxRecDepth 20000 in
theorem ggX11_facet_X11_listed : GoodIn wsX11_facet wsX11_listed := goodIn_r _ [25, 26, 27, 28, 29, 30, 31, 32, 33, 34, 9, 35, 36, 37, 38] (by decide +kernel) (by decide +kernel)
set_option maxRecDepth 20000 in
theorem gX11_facet_X11_listed : GoodIn wsX11_facet (va_wsS RX11 238 yX11_listed wsX11_listed) := goodIn_app (goodIn_of _ (by decide +kernel)) ggX11_facet_X11_listed
def wbX11_facet_0 (rec : Nat → XT → (Nat → Int32) → (Nat → Int64) → (Int32 → XT → Prop) → Prop) (k : Nat) (t : XT) (li : Nat → Int32) (lj : Nat → Int64) (Q : Int32 → XT → Prop) : Prop :=
  ((((-1) : Int32) ≤ (li 1)) → rec 1 t (uI li 4 0) (uI lj 2 0) Q) ∧ (¬ (((-1) : Int32) ≤ (li 1)) → Q (-1) t)
def wbX11_facet_1 (rec : Nat → XT → (Nat → Int32) → (Nat → Int64) → (Int32 → XT → Prop) → Prop) (k : Nat) (t : XT) (li : Nat → Int32) (lj : Nat → Int64) (Q : Int32 → XT → Prop) : Prop :=
  ((((t.1 4) : Int32) ≤ (li 4)) → (wqX11_listed k (lj 2) (li 1) (fun r_3 => Q r_3 t))) ∧ (¬ (((t.1 4) : Int32) ≤ (li 4)) → (wqX11_isThere k t (li 4) (fun r_4 t_4 => ((r_4 = 0) → rec 2 t_4 li lj Q) ∧ (¬ (r_4 = 0) → (vp_in (li 4) 64 ∧ (∀ v_6 : Int64, v_6 = (t_4.2.2.2 1) (li 4).toNatClampNeg → (∀ v_7 : Int64, v_7 = (v_6 &&& (t_4.2.1 0)) → (∀ v_8 : Int32, v_8 = (lg_cmp v_7 0) → ((¬ v_8 = 0) → rec 2 t_4 li lj Q) ∧ ((v_8 = 0) → (wqX11_bit k (li 4) (fun r_10 => (∀ v_11 : Int64, v_11 = ((lj 2) ||| r_10) → rec 2 t_4 li (uI lj 2 v_11) Q))))))))))))
def wbX11_facet_2 (rec : Nat → XT → (Nat → Int32) → (Nat → Int64) → (Int32 → XT → Prop) → Prop) (k : Nat) (t : XT) (li : Nat → Int32) (lj : Nat → Int64) (Q : Int32 → XT → Prop) : Prop :=
  (∀ v_12 : Int32, v_12 = (li 4) + Int32.ofInt 1 → rec 1 t (uI li 4 v_12) lj Q)
def wpX11_facet : Nat → Nat → XT → (Nat → Int32) → (Nat → Int64) → (Int32 → XT → Prop) → Prop
  | 0, _, _, _, _, _ => False
  | k + 1, 0, t, li, lj, Q => wbX11_facet_0 (wpX11_facet k) k t li lj Q
  | k + 1, 1, t, li, lj, Q => wbX11_facet_1 (wpX11_facet k) k t li lj Q
  | k + 1, 2, t, li, lj, Q => wbX11_facet_2 (wpX11_facet k) k t li lj Q
  | _ + 1, _, _, _, _, _ => False
def wqX11_facet (k : Nat) (t : XT) (a1 : Int32) (Q : Int32 → XT → Prop) : Prop := wpX11_facet k 0 t (uI (fun _ => 0) 1 a1) (fun _ => 0) Q
set_option maxHeartbeats 8000000 in
set_option maxRecDepth 100000 in
theorem wkX11_facet (l : Launch) (D : va_G) (cI cJ cB cZ : ClassId) (ad : Nat → Nat) (k : Nat) (t : XT) (a1 : Int32) (Q : Int32 → XT → Prop) (hR : wqX11_facet k t a1 Q) : MetI l yX11_facet wsX11_facet 4 90 0 0 D (TYS cI cJ cB cZ) (wX cI cJ cB cZ ad t) [.ref (ad 0), .int a1] (fun r u => Q r u) (fun u : XT => (wX cI cJ cB cZ ad u)) := by
  refine x_startI (ty := .int) (cc := cX11_facet) (by decide) rfl (Nat.le_of_ble_eq_true rfl) ?_
  intro p e s m args below meth c A ls B hr hnm h hl
  have hx := B.1.1
  have hb := B.1.2.1
  have hml := B.1.2.2.1
  have hts := B.1.2.2.2.2
  have hown : s.vm.findClass RX11 = some m.cls := B.1.2.2.2.1
  have hin6 : ∀ w ∈ u_ws RX6 TX6 6, w ∈ wsX11_facet := by decide +kernel
  have hin9 : ∀ w ∈ u_ws RX9 TX9 7, w ∈ wsX11_facet := by decide +kernel
  have hin11 : ∀ w ∈ u_ws RX11 TX11 11, w ∈ wsX11_facet := by decide +kernel
  have main : ∀ k : Nat, (∀ (t : XT) (li : Nat → Int32) (lj : Nat → Int64) (H : Heap) (locs : List Loc) (ls : Array Slot), wpX11_facet k 0 t li lj Q → lv_has ls 5 [(0, .ref (ad 0)), (1, .int (li 1))] → Hp D A s.heap (wX cI cJ cB cZ ad t) H locs → W p l e { frames := 4, cells := 0, slots := 0, locals := 90 } s m args below meth c H locs 0 0 (MQ below (va_Qi (fun r u => Q r u) (fun u t => xEnd D ((fun u : XT => (wX cI cJ cB cZ ad u)) u) A t) A) args s 0 0 A) (F0 m 0 ls [])) ∧
      (∀ (t : XT) (li : Nat → Int32) (lj : Nat → Int64) (H : Heap) (locs : List Loc) (ls : Array Slot), wpX11_facet k 1 t li lj Q → lv_has ls 5 [(0, .ref (ad 0)), (1, .int (li 1)), (2, .long (lj 2)), (4, .int (li 4))] → Hp D A s.heap (wX cI cJ cB cZ ad t) H locs → W p l e { frames := 4, cells := 0, slots := 0, locals := 90 } s m args below meth c H locs 0 0 (MQ below (va_Qi (fun r u => Q r u) (fun u t => xEnd D ((fun u : XT => (wX cI cJ cB cZ ad u)) u) A t) A) args s 0 0 A) (F0 m 12 ls [])) ∧
      (∀ (t : XT) (li : Nat → Int32) (lj : Nat → Int64) (H : Heap) (locs : List Loc) (ls : Array Slot), wpX11_facet k 2 t li lj Q → lv_has ls 5 [(0, .ref (ad 0)), (1, .int (li 1)), (2, .long (lj 2)), (4, .int (li 4))] → Hp D A s.heap (wX cI cJ cB cZ ad t) H locs → W p l e { frames := 4, cells := 0, slots := 0, locals := 90 } s m args below meth c H locs 0 0 (MQ below (va_Qi (fun r u => Q r u) (fun u t => xEnd D ((fun u : XT => (wX cI cJ cB cZ ad u)) u) A t) A) args s 0 0 A) (F0 m 64 ls [])) := by
    intro k
    induction k with
    | zero => exact ⟨fun _ _ _ _ _ _ hR => False.elim hR, fun _ _ _ _ _ _ hR => False.elim hR, fun _ _ _ _ _ _ hR => False.elim hR⟩
    | succ k ih =>
      refine ⟨?_, ?_, ?_⟩
      · intro t li lj H locs ls hR hl h
        have hR : wbX11_facet_0 (wpX11_facet k) k t li lj Q := hR
        unfold wbX11_facet_0 at hR
        refine lv_iload_n hx hb dX11_facet_0 rfl (lv_at hl 1 rfl) ?_
        refine lv_iconst (v := (-1)) hx hb dX11_facet_1 (by decide) ?_
        refine lv_icmp_ge (tgt := 7) hx hb dX11_facet_2 (by decide) (fun c_1 => ?_) (fun c_1 => ?_)
        · have hR := hR.1 c_1
          refine lv_lconst (v := 0) hx hb dX11_facet_7 (by decide) ?_
          refine lv_lstore_n (lv' := [(2, .long 0), (0, .ref (ad 0)), (1, .int (li 1))]) hx hb dX11_facet_8 rfl hl (by decide) rfl (fun ls hl => ?_)
          refine lv_iconst (v := 0) hx hb dX11_facet_9 (by decide) ?_
          refine lv_istore (lv' := [(4, .int 0), (2, .long 0), (0, .ref (ad 0)), (1, .int (li 1))]) hx hb dX11_facet_10 hl (by decide) rfl (fun ls hl => ?_)
          exact ih.2.1 t (uI li 4 0) (uI lj 2 0) H locs ls hR (lv_sub hl [2, 3, 1, 0] rfl) h
        · have hR := hR.2 c_1
          refine lv_iconst (v := (-1)) hx hb dX11_facet_5 (by decide) ?_
          exact x_iret (w1 := (fun u : XT => (wX cI cJ cB cZ ad u))) t B h hr rfl hR dX11_facet_6
      · intro t li lj H locs ls hR hl h
        have hR : wbX11_facet_1 (wpX11_facet k) k t li lj Q := hR
        unfold wbX11_facet_1 at hR
        refine lv_iload hx hb dX11_facet_12 (lv_at hl 3 rfl) ?_
        refine lv_aload_n hx hb dX11_facet_14 rfl (lv_at hl 0 rfl) ?_
        refine x_get (ci := 11) (C := RX11) (T := TX11) (N := 11) (v := .ref (ad 3)) B h hin11 0 2 rfl rfl (by decide) (by decide +kernel) rfl dX11_facet_15 ?_
        refine x_get (ci := 9) (C := RX9) (T := TX9) (N := 7) (v := .int (t.1 4)) B h hin9 3 0 rfl rfl (by decide) (by decide +kernel) rfl dX11_facet_18 ?_
        refine lv_icmp_ge (tgt := 70) hx hb dX11_facet_21 (by decide) (fun c_2 => ?_) (fun c_2 => ?_)
        · have hR := hR.1 c_2
          refine lv_lload_n hx hb dX11_facet_70 rfl (lv_at hl 2 rfl) ?_
          refine lv_iload_n hx hb dX11_facet_71 rfl (lv_at hl 1 rfl) ?_
          refine x_cSIE (n := 2) (As := [.long (lj 2), .int (li 1)]) (rest := []) B h (wkX11_listed l D cI cJ cB cZ ad k (lj 2) (li 1) _ hR) ⟨⟨_, rfl⟩, by decide +kernel, Nat.le_of_ble_eq_true rfl, Nat.le_of_ble_eq_true rfl⟩ gX11_facet_X11_listed rfl hl.1 rfl (Nat.le_of_ble_eq_true rfl) dX11_facet_72 ⟨Nat.le_of_ble_eq_true rfl, Nat.le_of_ble_eq_true rfl⟩ (fun r_3 _ H locs hR h => ?_)
          exact x_iret (w1 := (fun u : XT => (wX cI cJ cB cZ ad u))) t B h hr rfl hR dX11_facet_75
        · have hR := hR.2 c_2
          refine lv_aload_n hx hb dX11_facet_24 rfl (lv_at hl 0 rfl) ?_
          refine lv_iload hx hb dX11_facet_25 (lv_at hl 3 rfl) ?_
          refine x_cVIF (n := 1) (As := [.int (li 4)]) (rest := []) B h (wkX11_isThere l D cI cJ cB cZ ad k t (li 4) _ hR) ⟨⟨_, rfl⟩, by decide +kernel, Nat.le_of_ble_eq_true rfl, Nat.le_of_ble_eq_true rfl⟩ gX11_facet_X11_isThere (show ((wX cI cJ cB cZ ad t) : va_W)[0]? = some (_, .inr (11, _)) from rfl) rfl rfl hl.1 rfl (Nat.le_of_ble_eq_true rfl) dX11_facet_27 ⟨Nat.le_of_ble_eq_true rfl, Nat.le_of_ble_eq_true rfl⟩ (fun r_4 t_4 H locs hR h => ?_)
          refine lv_if_eq (tgt := 64) hx hb dX11_facet_30 (by decide) (fun c_5 => ?_) (fun c_5 => ?_)
          · have hR := hR.1 c_5
            exact ih.2.2 t_4 li lj H locs ls hR (lv_sub hl [0, 1, 2, 3] rfl) h
          · have hR := hR.2 c_5
            refine lv_aload_n hx hb dX11_facet_33 rfl (lv_at hl 0 rfl) ?_
            refine x_get (ci := 11) (C := RX11) (T := TX11) (N := 11) (v := .ref (ad 3)) B h hin11 0 2 rfl rfl (by decide) (by decide +kernel) rfl dX11_facet_34 ?_
            refine x_get (ci := 9) (C := RX9) (T := TX9) (N := 7) (v := .ref (ad 18)) B h hin9 3 5 rfl rfl (by decide) (by decide +kernel) rfl dX11_facet_37 ?_
            refine lv_iload hx hb dX11_facet_40 (lv_at hl 3 rfl) ?_
            obtain ⟨hb_6, hR⟩ := hR
            refine va_lald (f := (t_4.2.2.2 1)) hx hb B.2.1 h.1 18 1 rfl rfl hb_6 dX11_facet_42 ?_
            refine lv_topl (fun v_6 ev_6 => ?_)
            have hR := hR v_6 ev_6
            refine lv_aload_n hx hb dX11_facet_43 rfl (lv_at hl 0 rfl) ?_
            refine x_get (ci := 11) (C := RX11) (T := TX11) (N := 11) (v := .ref (ad 4)) B h hin11 0 3 rfl rfl (by decide) (by decide +kernel) rfl dX11_facet_44 ?_
            refine x_get (ci := 6) (C := RX6) (T := TX6) (N := 6) (v := .long (t_4.2.1 0)) B h hin6 4 2 rfl rfl (by decide) (by decide +kernel) rfl dX11_facet_47 ?_
            refine lv_land hx hb dX11_facet_50 ?_
            refine lv_topl (fun v_7 ev_7 => ?_)
            have hR := hR v_7 ev_7
            refine lv_lconst (v := 0) hx hb dX11_facet_51 (by decide) ?_
            refine W.lcmp hx hb dX11_facet_52 ?_
            refine lv_topi (fun v_8 ev_8 => ?_)
            have hR := hR v_8 ev_8
            refine lv_if_ne (tgt := 64) hx hb dX11_facet_53 (by decide) (fun c_9 => ?_) (fun c_9 => ?_)
            · have hR := hR.1 c_9
              exact ih.2.2 t_4 li lj H locs ls hR (lv_sub hl [0, 1, 2, 3] rfl) h
            · have hR := hR.2 c_9
              refine lv_lload_n hx hb dX11_facet_56 rfl (lv_at hl 2 rfl) ?_
              refine lv_iload hx hb dX11_facet_57 (lv_at hl 3 rfl) ?_
              refine x_cSLE (n := 1) (As := [.int (li 4)]) (rest := [.long (lj 2)]) B h (wkX11_bit l D cI cJ cB cZ ad k (li 4) _ hR) ⟨⟨_, rfl⟩, by decide +kernel, Nat.le_of_ble_eq_true rfl, Nat.le_of_ble_eq_true rfl⟩ gX11_facet_X11_bit rfl hl.1 rfl (Nat.le_of_ble_eq_true rfl) dX11_facet_59 ⟨Nat.le_of_ble_eq_true rfl, Nat.le_of_ble_eq_true rfl⟩ (fun r_10 _ H locs hR h => ?_)
              refine lv_lor hx hb dX11_facet_62 ?_
              refine lv_topl (fun v_11 ev_11 => ?_)
              have hR := hR v_11 ev_11
              refine lv_lstore_n (lv' := [(2, .long v_11), (0, .ref (ad 0)), (1, .int (li 1)), (4, .int (li 4))]) hx hb dX11_facet_63 rfl hl (by decide) rfl (fun ls hl => ?_)
              exact ih.2.2 t_4 li (uI lj 2 v_11) H locs ls hR (lv_sub hl [1, 2, 0, 3] rfl) h
      · intro t li lj H locs ls hR hl h
        have hR : wbX11_facet_2 (wpX11_facet k) k t li lj Q := hR
        unfold wbX11_facet_2 at hR
        obtain ⟨v_12, ev_12⟩ : ∃ v : Int32, v = (li 4) + Int32.ofInt 1 := ⟨_, rfl⟩
        have hR := hR v_12 ev_12
        refine lv_iinc (v := v_12) (lv' := [(4, .int v_12), (0, .ref (ad 0)), (1, .int (li 1)), (2, .long (lj 2))]) hx hb dX11_facet_64 hl (k := 3) rfl ev_12.symm (by decide) rfl (fun ls hl => ?_)
        refine lv_goto (tgt := 12) hx hb dX11_facet_67 (by decide) ?_
        exact ih.2.1 t (uI li 4 v_12) lj H locs ls hR (lv_sub hl [1, 2, 3, 0] rfl) h
  exact (main k).1 t _ _ s.heap [] ls hR hl h
set_option maxRecDepth 20000 in
theorem ggX11_linkOf_X11_number : GoodIn wsX11_linkOf wsX11_number := goodIn_r _ [8, 1, 9, 28, 29, 30, 31, 32, 33, 34, 35, 36, 37, 38, 39, 40, 41, 42, 43, 44, 45] (by decide +kernel) (by decide +kernel)
set_option maxRecDepth 20000 in
theorem gX11_linkOf_X11_number : GoodIn wsX11_linkOf (wsV RX11 363 RX11 yX11_number wsX11_number) := goodIn_app (goodIn_of _ (by decide +kernel)) ggX11_linkOf_X11_number
set_option maxRecDepth 20000 in
theorem ggX11_linkOf_X11_isThere : GoodIn wsX11_linkOf wsX11_isThere := goodIn_r _ [13, 1, 14, 15, 16, 17, 18, 19, 20, 21, 22, 23, 7, 24, 28, 29, 30, 31, 32, 33, 34, 35, 36, 37, 38, 46, 47, 48, 49, 50, 51, 39, 40, 41, 42, 43, 44, 45] (by decide +kernel) (by decide +kernel)
set_option maxRecDepth 20000 in
theorem gX11_linkOf_X11_isThere : GoodIn wsX11_linkOf (wsV RX11 130 RX11 yX11_isThere wsX11_isThere) := goodIn_app (goodIn_of _ (by decide +kernel)) ggX11_linkOf_X11_isThere
set_option maxRecDepth 20000 in
theorem ggX11_linkOf_X11_bit : GoodIn wsX11_linkOf wsX11_bit := goodIn_r _ [27] (by decide +kernel) (by decide +kernel)
set_option maxRecDepth 20000 in
theorem gX11_linkOf_X11_bit : GoodIn wsX11_linkOf (va_wsS RX11 256 yX11_bit wsX11_bit) := goodIn_app (goodIn_of _ (by decide +kernel)) ggX11_linkOf_X11_bit
def wbX11_linkOf_0 (rec : Nat → XT → (Nat → Int32) → (Nat → Int64) → (Int64 → XT → Prop) → Prop) (k : Nat) (t : XT) (li : Nat → Int32) (lj : Nat → Int64) (Q : Int64 → XT → Prop) : Prop :=
  rec 1 t (uI li 4 0) (uI lj 2 0) Q
def wbX11_linkOf_1 (rec : Nat → XT → (Nat → Int32) → (Nat → Int64) → (Int64 → XT → Prop) → Prop) (k : Nat) (t : XT) (li : Nat → Int32) (lj : Nat → Int64) (Q : Int64 → XT → Prop) : Prop :=
  ((((t.1 4) : Int32) ≤ (li 4)) → Q (lj 2) t) ∧ (¬ (((t.1 4) : Int32) ≤ (li 4)) → (vp_in (li 1) 64 ∧ (∀ v_2 : Int32, v_2 = (t.2.2.1 2) (li 1).toNatClampNeg → (vp_in (li 4) 64 ∧ (∀ v_3 : Int32, v_3 = (t.2.2.1 2) (li 4).toNatClampNeg → (∀ v_4 : Int32, v_4 = (v_2 ||| v_3) → (vp_in (li 1) 64 ∧ (∀ v_5 : Int32, v_5 = (t.2.2.1 2) (li 1).toNatClampNeg → (vp_in (li 4) 64 ∧ (∀ v_6 : Int32, v_6 = (t.2.2.1 2) (li 4).toNatClampNeg → (∀ v_7 : Int32, v_7 = (v_5 &&& v_6) → ((¬ v_7 = 0) → rec 2 t (uI (uI li 5 v_4) 100 0) lj Q) ∧ ((v_7 = 0) → rec 2 t (uI (uI li 5 v_4) 100 1) lj Q))))))))))))
def wbX11_linkOf_2 (rec : Nat → XT → (Nat → Int32) → (Nat → Int64) → (Int64 → XT → Prop) → Prop) (k : Nat) (t : XT) (li : Nat → Int32) (lj : Nat → Int64) (Q : Int64 → XT → Prop) : Prop :=
  (wqX11_number k t (li 5) (fun r_9 t_9 => (((li 100) = 0) → rec 3 t_9 (uI (uI li 6 (li 100)) 7 r_9) lj Q) ∧ (¬ ((li 100) = 0) → (wqX11_isThere k t_9 (li 4) (fun r_11 t_11 => ((r_11 = 0) → rec 3 t_11 (uI (uI li 6 (li 100)) 7 r_9) lj Q) ∧ (¬ (r_11 = 0) → (wqX11_isThere k t_11 r_9 (fun r_13 t_13 => ((r_13 = 0) → rec 3 t_13 (uI (uI li 6 (li 100)) 7 r_9) lj Q) ∧ (¬ (r_13 = 0) → (wqX11_bit k (li 4) (fun r_15 => (∀ v_16 : Int64, v_16 = ((lj 2) ||| r_15) → rec 3 t_13 (uI (uI li 6 (li 100)) 7 r_9) (uI lj 2 v_16) Q))))))))))))
def wbX11_linkOf_3 (rec : Nat → XT → (Nat → Int32) → (Nat → Int64) → (Int64 → XT → Prop) → Prop) (k : Nat) (t : XT) (li : Nat → Int32) (lj : Nat → Int64) (Q : Int64 → XT → Prop) : Prop :=
  (∀ v_17 : Int32, v_17 = (li 4) + Int32.ofInt 1 → rec 1 t (uI li 4 v_17) lj Q)
def wpX11_linkOf : Nat → Nat → XT → (Nat → Int32) → (Nat → Int64) → (Int64 → XT → Prop) → Prop
  | 0, _, _, _, _, _ => False
  | k + 1, 0, t, li, lj, Q => wbX11_linkOf_0 (wpX11_linkOf k) k t li lj Q
  | k + 1, 1, t, li, lj, Q => wbX11_linkOf_1 (wpX11_linkOf k) k t li lj Q
  | k + 1, 2, t, li, lj, Q => wbX11_linkOf_2 (wpX11_linkOf k) k t li lj Q
  | k + 1, 3, t, li, lj, Q => wbX11_linkOf_3 (wpX11_linkOf k) k t li lj Q
  | _ + 1, _, _, _, _, _ => False
def wqX11_linkOf (k : Nat) (t : XT) (a1 : Int32) (Q : Int64 → XT → Prop) : Prop := wpX11_linkOf k 0 t (uI (fun _ => 0) 1 a1) (fun _ => 0) Q
set_option maxHeartbeats 8000000 in
set_option maxRecDepth 100000 in
theorem wkX11_linkOf (l : Launch) (D : va_G) (cI cJ cB cZ : ClassId) (ad : Nat → Nat) (k : Nat) (t : XT) (a1 : Int32) (Q : Int64 → XT → Prop) (hR : wqX11_linkOf k t a1 Q) : MetL l yX11_linkOf wsX11_linkOf 2 43 0 0 D (TYS cI cJ cB cZ) (wX cI cJ cB cZ ad t) [.ref (ad 0), .int a1] (fun r u => Q r u) (fun u : XT => (wX cI cJ cB cZ ad u)) := by
  refine x_startL (ty := .long) (cc := cX11_linkOf) (by decide) rfl (Nat.le_of_ble_eq_true rfl) ?_
  intro p e s m args below meth c A ls B hr hnm h hl
  have hx := B.1.1
  have hb := B.1.2.1
  have hml := B.1.2.2.1
  have hts := B.1.2.2.2.2
  have hown : s.vm.findClass RX11 = some m.cls := B.1.2.2.2.1
  have hin9 : ∀ w ∈ u_ws RX9 TX9 7, w ∈ wsX11_linkOf := by decide +kernel
  have hin11 : ∀ w ∈ u_ws RX11 TX11 11, w ∈ wsX11_linkOf := by decide +kernel
  have main : ∀ k : Nat, (∀ (t : XT) (li : Nat → Int32) (lj : Nat → Int64) (H : Heap) (locs : List Loc) (ls : Array Slot), wpX11_linkOf k 0 t li lj Q → lv_has ls 8 [(0, .ref (ad 0)), (1, .int (li 1))] → Hp D A s.heap (wX cI cJ cB cZ ad t) H locs → W p l e { frames := 2, cells := 0, slots := 0, locals := 43 } s m args below meth c H locs 0 0 (MQ below (va_Ql (fun r u => Q r u) (fun u t => xEnd D ((fun u : XT => (wX cI cJ cB cZ ad u)) u) A t) A) args s 0 0 A) (F0 m 0 ls [])) ∧
      (∀ (t : XT) (li : Nat → Int32) (lj : Nat → Int64) (H : Heap) (locs : List Loc) (ls : Array Slot), wpX11_linkOf k 1 t li lj Q → lv_has ls 8 [(0, .ref (ad 0)), (1, .int (li 1)), (2, .long (lj 2)), (4, .int (li 4))] → Hp D A s.heap (wX cI cJ cB cZ ad t) H locs → W p l e { frames := 2, cells := 0, slots := 0, locals := 43 } s m args below meth c H locs 0 0 (MQ below (va_Ql (fun r u => Q r u) (fun u t => xEnd D ((fun u : XT => (wX cI cJ cB cZ ad u)) u) A t) A) args s 0 0 A) (F0 m 5 ls [])) ∧
      (∀ (t : XT) (li : Nat → Int32) (lj : Nat → Int64) (H : Heap) (locs : List Loc) (ls : Array Slot), wpX11_linkOf k 2 t li lj Q → lv_has ls 8 [(0, .ref (ad 0)), (1, .int (li 1)), (2, .long (lj 2)), (4, .int (li 4)), (5, .int (li 5))] → Hp D A s.heap (wX cI cJ cB cZ ad t) H locs → W p l e { frames := 2, cells := 0, slots := 0, locals := 43 } s m args below meth c H locs 0 0 (MQ below (va_Ql (fun r u => Q r u) (fun u t => xEnd D ((fun u : XT => (wX cI cJ cB cZ ad u)) u) A t) A) args s 0 0 A) (F0 m 67 ls [.int (li 100)])) ∧
      (∀ (t : XT) (li : Nat → Int32) (lj : Nat → Int64) (H : Heap) (locs : List Loc) (ls : Array Slot), wpX11_linkOf k 3 t li lj Q → lv_has ls 8 [(0, .ref (ad 0)), (1, .int (li 1)), (2, .long (lj 2)), (4, .int (li 4)), (5, .int (li 5)), (6, .int (li 6)), (7, .int (li 7))] → Hp D A s.heap (wX cI cJ cB cZ ad t) H locs → W p l e { frames := 2, cells := 0, slots := 0, locals := 43 } s m args below meth c H locs 0 0 (MQ below (va_Ql (fun r u => Q r u) (fun u t => xEnd D ((fun u : XT => (wX cI cJ cB cZ ad u)) u) A t) A) args s 0 0 A) (F0 m 108 ls [])) := by
    intro k
    induction k with
    | zero => exact ⟨fun _ _ _ _ _ _ hR => False.elim hR, fun _ _ _ _ _ _ hR => False.elim hR, fun _ _ _ _ _ _ hR => False.elim hR, fun _ _ _ _ _ _ hR => False.elim hR⟩
    | succ k ih =>
      refine ⟨?_, ?_, ?_, ?_⟩
      · intro t li lj H locs ls hR hl h
        have hR : wbX11_linkOf_0 (wpX11_linkOf k) k t li lj Q := hR
        unfold wbX11_linkOf_0 at hR
        refine lv_lconst (v := 0) hx hb dX11_linkOf_0 (by decide) ?_
        refine lv_lstore_n (lv' := [(2, .long 0), (0, .ref (ad 0)), (1, .int (li 1))]) hx hb dX11_linkOf_1 rfl hl (by decide) rfl (fun ls hl => ?_)
        refine lv_iconst (v := 0) hx hb dX11_linkOf_2 (by decide) ?_
        refine lv_istore (lv' := [(4, .int 0), (2, .long 0), (0, .ref (ad 0)), (1, .int (li 1))]) hx hb dX11_linkOf_3 hl (by decide) rfl (fun ls hl => ?_)
        exact ih.2.1 t (uI li 4 0) (uI lj 2 0) H locs ls hR (lv_sub hl [2, 3, 1, 0] rfl) h
      · intro t li lj H locs ls hR hl h
        have hR : wbX11_linkOf_1 (wpX11_linkOf k) k t li lj Q := hR
        unfold wbX11_linkOf_1 at hR
        refine lv_iload hx hb dX11_linkOf_5 (lv_at hl 3 rfl) ?_
        refine lv_aload_n hx hb dX11_linkOf_7 rfl (lv_at hl 0 rfl) ?_
        refine x_get (ci := 11) (C := RX11) (T := TX11) (N := 11) (v := .ref (ad 3)) B h hin11 0 2 rfl rfl (by decide) (by decide +kernel) rfl dX11_linkOf_8 ?_
        refine x_get (ci := 9) (C := RX9) (T := TX9) (N := 7) (v := .int (t.1 4)) B h hin9 3 0 rfl rfl (by decide) (by decide +kernel) rfl dX11_linkOf_11 ?_
        refine lv_icmp_ge (tgt := 114) hx hb dX11_linkOf_14 (by decide) (fun c_1 => ?_) (fun c_1 => ?_)
        · have hR := hR.1 c_1
          refine lv_lload_n hx hb dX11_linkOf_114 rfl (lv_at hl 2 rfl) ?_
          exact x_lret (w1 := (fun u : XT => (wX cI cJ cB cZ ad u))) t B h hr hR dX11_linkOf_115
        · have hR := hR.2 c_1
          refine lv_aload_n hx hb dX11_linkOf_17 rfl (lv_at hl 0 rfl) ?_
          refine x_get (ci := 11) (C := RX11) (T := TX11) (N := 11) (v := .ref (ad 3)) B h hin11 0 2 rfl rfl (by decide) (by decide +kernel) rfl dX11_linkOf_18 ?_
          refine x_get (ci := 9) (C := RX9) (T := TX9) (N := 7) (v := .ref (ad 14)) B h hin9 3 1 rfl rfl (by decide) (by decide +kernel) rfl dX11_linkOf_21 ?_
          refine lv_iload_n hx hb dX11_linkOf_24 rfl (lv_at hl 1 rfl) ?_
          obtain ⟨hb_2, hR⟩ := hR
          refine va_iald (f := (t.2.2.1 2)) hx hb B.2.1 h.1 14 0 rfl rfl hb_2 dX11_linkOf_25 ?_
          refine lv_topi (fun v_2 ev_2 => ?_)
          have hR := hR v_2 ev_2
          refine lv_aload_n hx hb dX11_linkOf_26 rfl (lv_at hl 0 rfl) ?_
          refine x_get (ci := 11) (C := RX11) (T := TX11) (N := 11) (v := .ref (ad 3)) B h hin11 0 2 rfl rfl (by decide) (by decide +kernel) rfl dX11_linkOf_27 ?_
          refine x_get (ci := 9) (C := RX9) (T := TX9) (N := 7) (v := .ref (ad 14)) B h hin9 3 1 rfl rfl (by decide) (by decide +kernel) rfl dX11_linkOf_30 ?_
          refine lv_iload hx hb dX11_linkOf_33 (lv_at hl 3 rfl) ?_
          obtain ⟨hb_3, hR⟩ := hR
          refine va_iald (f := (t.2.2.1 2)) hx hb B.2.1 h.1 14 0 rfl rfl hb_3 dX11_linkOf_35 ?_
          refine lv_topi (fun v_3 ev_3 => ?_)
          have hR := hR v_3 ev_3
          refine lv_ior hx hb dX11_linkOf_36 ?_
          refine lv_topi (fun v_4 ev_4 => ?_)
          have hR := hR v_4 ev_4
          refine lv_istore (lv' := [(5, .int v_4), (0, .ref (ad 0)), (1, .int (li 1)), (2, .long (lj 2)), (4, .int (li 4))]) hx hb dX11_linkOf_37 hl (by decide) rfl (fun ls hl => ?_)
          refine lv_aload_n hx hb dX11_linkOf_39 rfl (lv_at hl 1 rfl) ?_
          refine x_get (ci := 11) (C := RX11) (T := TX11) (N := 11) (v := .ref (ad 3)) B h hin11 0 2 rfl rfl (by decide) (by decide +kernel) rfl dX11_linkOf_40 ?_
          refine x_get (ci := 9) (C := RX9) (T := TX9) (N := 7) (v := .ref (ad 14)) B h hin9 3 1 rfl rfl (by decide) (by decide +kernel) rfl dX11_linkOf_43 ?_
          refine lv_iload_n hx hb dX11_linkOf_46 rfl (lv_at hl 2 rfl) ?_
          obtain ⟨hb_5, hR⟩ := hR
          refine va_iald (f := (t.2.2.1 2)) hx hb B.2.1 h.1 14 0 rfl rfl hb_5 dX11_linkOf_47 ?_
          refine lv_topi (fun v_5 ev_5 => ?_)
          have hR := hR v_5 ev_5
          refine lv_aload_n hx hb dX11_linkOf_48 rfl (lv_at hl 1 rfl) ?_
          refine x_get (ci := 11) (C := RX11) (T := TX11) (N := 11) (v := .ref (ad 3)) B h hin11 0 2 rfl rfl (by decide) (by decide +kernel) rfl dX11_linkOf_49 ?_
          refine x_get (ci := 9) (C := RX9) (T := TX9) (N := 7) (v := .ref (ad 14)) B h hin9 3 1 rfl rfl (by decide) (by decide +kernel) rfl dX11_linkOf_52 ?_
          refine lv_iload hx hb dX11_linkOf_55 (lv_at hl 4 rfl) ?_
          obtain ⟨hb_6, hR⟩ := hR
          refine va_iald (f := (t.2.2.1 2)) hx hb B.2.1 h.1 14 0 rfl rfl hb_6 dX11_linkOf_57 ?_
          refine lv_topi (fun v_6 ev_6 => ?_)
          have hR := hR v_6 ev_6
          refine lv_iand hx hb dX11_linkOf_58 ?_
          refine lv_topi (fun v_7 ev_7 => ?_)
          have hR := hR v_7 ev_7
          refine lv_if_ne (tgt := 66) hx hb dX11_linkOf_59 (by decide) (fun c_8 => ?_) (fun c_8 => ?_)
          · have hR := hR.1 c_8
            refine lv_iconst (v := 0) hx hb dX11_linkOf_66 (by decide) ?_
            exact ih.2.2.1 t (uI (uI li 5 v_4) 100 0) lj H locs ls hR (lv_sub hl [1, 2, 3, 4, 0] rfl) h
          · have hR := hR.2 c_8
            refine lv_iconst (v := 1) hx hb dX11_linkOf_62 (by decide) ?_
            refine lv_goto (tgt := 67) hx hb dX11_linkOf_63 (by decide) ?_
            exact ih.2.2.1 t (uI (uI li 5 v_4) 100 1) lj H locs ls hR (lv_sub hl [1, 2, 3, 4, 0] rfl) h
      · intro t li lj H locs ls hR hl h
        have hR : wbX11_linkOf_2 (wpX11_linkOf k) k t li lj Q := hR
        unfold wbX11_linkOf_2 at hR
        refine lv_istore (lv' := [(6, .int (li 100)), (0, .ref (ad 0)), (1, .int (li 1)), (2, .long (lj 2)), (4, .int (li 4)), (5, .int (li 5))]) hx hb dX11_linkOf_67 hl (by decide) rfl (fun ls hl => ?_)
        refine lv_aload_n hx hb dX11_linkOf_69 rfl (lv_at hl 1 rfl) ?_
        refine lv_iload hx hb dX11_linkOf_70 (lv_at hl 5 rfl) ?_
        refine x_cVIF (n := 1) (As := [.int (li 5)]) (rest := []) B h (wkX11_number l D cI cJ cB cZ ad k t (li 5) _ hR) ⟨⟨_, rfl⟩, by decide +kernel, Nat.le_of_ble_eq_true rfl, Nat.le_of_ble_eq_true rfl⟩ gX11_linkOf_X11_number (show ((wX cI cJ cB cZ ad t) : va_W)[0]? = some (_, .inr (11, _)) from rfl) rfl rfl hl.1 rfl (Nat.le_of_ble_eq_true rfl) dX11_linkOf_72 ⟨Nat.le_of_ble_eq_true rfl, Nat.le_of_ble_eq_true rfl⟩ (fun r_9 t_9 H locs hR h => ?_)
        refine lv_istore (lv' := [(7, .int r_9), (6, .int (li 100)), (0, .ref (ad 0)), (1, .int (li 1)), (2, .long (lj 2)), (4, .int (li 4)), (5, .int (li 5))]) hx hb dX11_linkOf_75 hl (by decide) rfl (fun ls hl => ?_)
        refine lv_iload hx hb dX11_linkOf_77 (lv_at hl 1 rfl) ?_
        refine lv_if_eq (tgt := 108) hx hb dX11_linkOf_79 (by decide) (fun c_10 => ?_) (fun c_10 => ?_)
        · have hR := hR.1 c_10
          exact ih.2.2.2 t_9 (uI (uI li 6 (li 100)) 7 r_9) lj H locs ls hR (lv_sub hl [2, 3, 4, 5, 6, 1, 0] rfl) h
        · have hR := hR.2 c_10
          refine lv_aload_n hx hb dX11_linkOf_82 rfl (lv_at hl 2 rfl) ?_
          refine lv_iload hx hb dX11_linkOf_83 (lv_at hl 5 rfl) ?_
          refine x_cVIF (n := 1) (As := [.int (li 4)]) (rest := []) B h (wkX11_isThere l D cI cJ cB cZ ad k t_9 (li 4) _ hR) ⟨⟨_, rfl⟩, by decide +kernel, Nat.le_of_ble_eq_true rfl, Nat.le_of_ble_eq_true rfl⟩ gX11_linkOf_X11_isThere (show ((wX cI cJ cB cZ ad t_9) : va_W)[0]? = some (_, .inr (11, _)) from rfl) rfl rfl hl.1 rfl (Nat.le_of_ble_eq_true rfl) dX11_linkOf_85 ⟨Nat.le_of_ble_eq_true rfl, Nat.le_of_ble_eq_true rfl⟩ (fun r_11 t_11 H locs hR h => ?_)
          refine lv_if_eq (tgt := 108) hx hb dX11_linkOf_88 (by decide) (fun c_12 => ?_) (fun c_12 => ?_)
          · have hR := hR.1 c_12
            exact ih.2.2.2 t_11 (uI (uI li 6 (li 100)) 7 r_9) lj H locs ls hR (lv_sub hl [2, 3, 4, 5, 6, 1, 0] rfl) h
          · have hR := hR.2 c_12
            refine lv_aload_n hx hb dX11_linkOf_91 rfl (lv_at hl 2 rfl) ?_
            refine lv_iload hx hb dX11_linkOf_92 (lv_at hl 0 rfl) ?_
            refine x_cVIF (n := 1) (As := [.int r_9]) (rest := []) B h (wkX11_isThere l D cI cJ cB cZ ad k t_11 r_9 _ hR) ⟨⟨_, rfl⟩, by decide +kernel, Nat.le_of_ble_eq_true rfl, Nat.le_of_ble_eq_true rfl⟩ gX11_linkOf_X11_isThere (show ((wX cI cJ cB cZ ad t_11) : va_W)[0]? = some (_, .inr (11, _)) from rfl) rfl rfl hl.1 rfl (Nat.le_of_ble_eq_true rfl) dX11_linkOf_94 ⟨Nat.le_of_ble_eq_true rfl, Nat.le_of_ble_eq_true rfl⟩ (fun r_13 t_13 H locs hR h => ?_)
            refine lv_if_eq (tgt := 108) hx hb dX11_linkOf_97 (by decide) (fun c_14 => ?_) (fun c_14 => ?_)
            · have hR := hR.1 c_14
              exact ih.2.2.2 t_13 (uI (uI li 6 (li 100)) 7 r_9) lj H locs ls hR (lv_sub hl [2, 3, 4, 5, 6, 1, 0] rfl) h
            · have hR := hR.2 c_14
              refine lv_lload_n hx hb dX11_linkOf_100 rfl (lv_at hl 4 rfl) ?_
              refine lv_iload hx hb dX11_linkOf_101 (lv_at hl 5 rfl) ?_
              refine x_cSLE (n := 1) (As := [.int (li 4)]) (rest := [.long (lj 2)]) B h (wkX11_bit l D cI cJ cB cZ ad k (li 4) _ hR) ⟨⟨_, rfl⟩, by decide +kernel, Nat.le_of_ble_eq_true rfl, Nat.le_of_ble_eq_true rfl⟩ gX11_linkOf_X11_bit rfl hl.1 rfl (Nat.le_of_ble_eq_true rfl) dX11_linkOf_103 ⟨Nat.le_of_ble_eq_true rfl, Nat.le_of_ble_eq_true rfl⟩ (fun r_15 _ H locs hR h => ?_)
              refine lv_lor hx hb dX11_linkOf_106 ?_
              refine lv_topl (fun v_16 ev_16 => ?_)
              have hR := hR v_16 ev_16
              refine lv_lstore_n (lv' := [(2, .long v_16), (7, .int r_9), (6, .int (li 100)), (0, .ref (ad 0)), (1, .int (li 1)), (4, .int (li 4)), (5, .int (li 5))]) hx hb dX11_linkOf_107 rfl hl (by decide) rfl (fun ls hl => ?_)
              exact ih.2.2.2 t_13 (uI (uI li 6 (li 100)) 7 r_9) (uI lj 2 v_16) H locs ls hR (lv_sub hl [3, 4, 0, 5, 6, 2, 1] rfl) h
      · intro t li lj H locs ls hR hl h
        have hR : wbX11_linkOf_3 (wpX11_linkOf k) k t li lj Q := hR
        unfold wbX11_linkOf_3 at hR
        obtain ⟨v_17, ev_17⟩ : ∃ v : Int32, v = (li 4) + Int32.ofInt 1 := ⟨_, rfl⟩
        have hR := hR v_17 ev_17
        refine lv_iinc (v := v_17) (lv' := [(4, .int v_17), (0, .ref (ad 0)), (1, .int (li 1)), (2, .long (lj 2)), (5, .int (li 5)), (6, .int (li 6)), (7, .int (li 7))]) hx hb dX11_linkOf_108 hl (k := 3) rfl ev_17.symm (by decide) rfl (fun ls hl => ?_)
        refine lv_goto (tgt := 5) hx hb dX11_linkOf_111 (by decide) ?_
        exact ih.2.1 t (uI li 4 v_17) lj H locs ls hR (lv_sub hl [1, 2, 3, 0] rfl) h
  exact (main k).1 t _ _ s.heap [] ls hR hl h
set_option maxRecDepth 20000 in
theorem ggX9_eulerOf_J13_bitCount_95d88 : GoodIn wsX9_eulerOf wsJ13_bitCount_95d88 := goodIn_r _ [5, 6, 7, 8] (by decide +kernel) (by decide +kernel)
set_option maxRecDepth 20000 in
theorem gX9_eulerOf_J13_bitCount_95d88 : GoodIn wsX9_eulerOf (va_wsS RX9 62 yJ13_bitCount_95d88 wsJ13_bitCount_95d88) := goodIn_app (goodIn_of _ (by decide +kernel)) ggX9_eulerOf_J13_bitCount_95d88
def wbX9_eulerOf_0 (rec : Nat → XT → (Nat → Int32) → (Nat → Int64) → (Int32 → XT → Prop) → Prop) (k : Nat) (t : XT) (li : Nat → Int32) (lj : Nat → Int64) (Q : Int32 → XT → Prop) : Prop :=
  rec 1 t (uI (uI li 3 0) 4 0) lj Q
def wbX9_eulerOf_1 (rec : Nat → XT → (Nat → Int32) → (Nat → Int64) → (Int32 → XT → Prop) → Prop) (k : Nat) (t : XT) (li : Nat → Int32) (lj : Nat → Int64) (Q : Int32 → XT → Prop) : Prop :=
  (((5 : Int32) ≤ (li 4)) → Q (li 3) t) ∧ (¬ ((5 : Int32) ≤ (li 4)) → (vp_in (li 4) 5 ∧ (∀ v_2 : Int64, v_2 = (t.2.2.2 2) (li 4).toNatClampNeg → (∀ v_3 : Int64, v_3 = ((lj 1) &&& v_2) → (wqJ13_bitCount_95d88 k v_3 (fun r_4 => (∀ v_5 : Int32, v_5 = ((li 4) &&& 1) → ((¬ v_5 = 0) → (∀ v_7 : Int32, v_7 = (-r_4) → rec 2 t (uI (uI (uI li 5 r_4) 101 v_7) 100 (li 3)) lj Q)) ∧ ((v_5 = 0) → rec 2 t (uI (uI (uI li 5 r_4) 101 r_4) 100 (li 3)) lj Q))))))))
def wbX9_eulerOf_2 (rec : Nat → XT → (Nat → Int32) → (Nat → Int64) → (Int32 → XT → Prop) → Prop) (k : Nat) (t : XT) (li : Nat → Int32) (lj : Nat → Int64) (Q : Int32 → XT → Prop) : Prop :=
  (∀ v_8 : Int32, v_8 = ((li 100) + (li 101)) → (∀ v_9 : Int32, v_9 = (li 4) + Int32.ofInt 1 → rec 1 t (uI (uI li 3 v_8) 4 v_9) lj Q))
def wpX9_eulerOf : Nat → Nat → XT → (Nat → Int32) → (Nat → Int64) → (Int32 → XT → Prop) → Prop
  | 0, _, _, _, _, _ => False
  | k + 1, 0, t, li, lj, Q => wbX9_eulerOf_0 (wpX9_eulerOf k) k t li lj Q
  | k + 1, 1, t, li, lj, Q => wbX9_eulerOf_1 (wpX9_eulerOf k) k t li lj Q
  | k + 1, 2, t, li, lj, Q => wbX9_eulerOf_2 (wpX9_eulerOf k) k t li lj Q
  | _ + 1, _, _, _, _, _ => False
def wqX9_eulerOf (k : Nat) (t : XT) (a1 : Int64) (Q : Int32 → XT → Prop) : Prop := wpX9_eulerOf k 0 t (fun _ => 0) (uI (fun _ => 0) 1 a1) Q
set_option maxHeartbeats 8000000 in
set_option maxRecDepth 100000 in
theorem wkX9_eulerOf (l : Launch) (D : va_G) (cI cJ cB cZ : ClassId) (ad : Nat → Nat) (k : Nat) (t : XT) (a1 : Int64) (Q : Int32 → XT → Prop) (hR : wqX9_eulerOf k t a1 Q) : MetI l yX9_eulerOf wsX9_eulerOf 1 21 0 0 D (TYS cI cJ cB cZ) (wX cI cJ cB cZ ad t) [.ref (ad 3), .long a1] (fun r u => Q r u) (fun u : XT => (wX cI cJ cB cZ ad u)) := by
  refine x_startI (ty := .int) (cc := cX9_eulerOf) (by decide) rfl (Nat.le_of_ble_eq_true rfl) ?_
  intro p e s m args below meth c A ls B hr hnm h hl
  have hx := B.1.1
  have hb := B.1.2.1
  have hml := B.1.2.2.1
  have hts := B.1.2.2.2.2
  have hown : s.vm.findClass RX9 = some m.cls := B.1.2.2.2.1
  have hin9 : ∀ w ∈ u_ws RX9 TX9 7, w ∈ wsX9_eulerOf := by decide +kernel
  have main : ∀ k : Nat, (∀ (t : XT) (li : Nat → Int32) (lj : Nat → Int64) (H : Heap) (locs : List Loc) (ls : Array Slot), wpX9_eulerOf k 0 t li lj Q → lv_has ls 6 [(0, .ref (ad 3)), (1, .long (lj 1))] → Hp D A s.heap (wX cI cJ cB cZ ad t) H locs → W p l e { frames := 1, cells := 0, slots := 0, locals := 21 } s m args below meth c H locs 0 0 (MQ below (va_Qi (fun r u => Q r u) (fun u t => xEnd D ((fun u : XT => (wX cI cJ cB cZ ad u)) u) A t) A) args s 0 0 A) (F0 m 0 ls [])) ∧
      (∀ (t : XT) (li : Nat → Int32) (lj : Nat → Int64) (H : Heap) (locs : List Loc) (ls : Array Slot), wpX9_eulerOf k 1 t li lj Q → lv_has ls 6 [(0, .ref (ad 3)), (1, .long (lj 1)), (3, .int (li 3)), (4, .int (li 4))] → Hp D A s.heap (wX cI cJ cB cZ ad t) H locs → W p l e { frames := 1, cells := 0, slots := 0, locals := 21 } s m args below meth c H locs 0 0 (MQ below (va_Qi (fun r u => Q r u) (fun u t => xEnd D ((fun u : XT => (wX cI cJ cB cZ ad u)) u) A t) A) args s 0 0 A) (F0 m 5 ls [])) ∧
      (∀ (t : XT) (li : Nat → Int32) (lj : Nat → Int64) (H : Heap) (locs : List Loc) (ls : Array Slot), wpX9_eulerOf k 2 t li lj Q → lv_has ls 6 [(0, .ref (ad 3)), (1, .long (lj 1)), (3, .int (li 3)), (4, .int (li 4)), (5, .int (li 5))] → Hp D A s.heap (wX cI cJ cB cZ ad t) H locs → W p l e { frames := 1, cells := 0, slots := 0, locals := 21 } s m args below meth c H locs 0 0 (MQ below (va_Qi (fun r u => Q r u) (fun u t => xEnd D ((fun u : XT => (wX cI cJ cB cZ ad u)) u) A t) A) args s 0 0 A) (F0 m 41 ls [.int (li 101), .int (li 100)])) := by
    intro k
    induction k with
    | zero => exact ⟨fun _ _ _ _ _ _ hR => False.elim hR, fun _ _ _ _ _ _ hR => False.elim hR, fun _ _ _ _ _ _ hR => False.elim hR⟩
    | succ k ih =>
      refine ⟨?_, ?_, ?_⟩
      · intro t li lj H locs ls hR hl h
        have hR : wbX9_eulerOf_0 (wpX9_eulerOf k) k t li lj Q := hR
        unfold wbX9_eulerOf_0 at hR
        refine lv_iconst (v := 0) hx hb dX9_eulerOf_0 (by decide) ?_
        refine lv_istore_n (lv' := [(3, .int 0), (0, .ref (ad 3)), (1, .long (lj 1))]) hx hb dX9_eulerOf_1 rfl hl (by decide) rfl (fun ls hl => ?_)
        refine lv_iconst (v := 0) hx hb dX9_eulerOf_2 (by decide) ?_
        refine lv_istore (lv' := [(4, .int 0), (3, .int 0), (0, .ref (ad 3)), (1, .long (lj 1))]) hx hb dX9_eulerOf_3 hl (by decide) rfl (fun ls hl => ?_)
        exact ih.2.1 t (uI (uI li 3 0) 4 0) lj H locs ls hR (lv_sub hl [2, 3, 1, 0] rfl) h
      · intro t li lj H locs ls hR hl h
        have hR : wbX9_eulerOf_1 (wpX9_eulerOf k) k t li lj Q := hR
        unfold wbX9_eulerOf_1 at hR
        refine lv_iload hx hb dX9_eulerOf_5 (lv_at hl 3 rfl) ?_
        refine lv_iconst (v := 5) hx hb dX9_eulerOf_7 (by decide) ?_
        refine lv_icmp_ge (tgt := 49) hx hb dX9_eulerOf_8 (by decide) (fun c_1 => ?_) (fun c_1 => ?_)
        · have hR := hR.1 c_1
          refine lv_iload_n hx hb dX9_eulerOf_49 rfl (lv_at hl 2 rfl) ?_
          exact x_iret (w1 := (fun u : XT => (wX cI cJ cB cZ ad u))) t B h hr rfl hR dX9_eulerOf_50
        · have hR := hR.2 c_1
          refine lv_lload_n hx hb dX9_eulerOf_11 rfl (lv_at hl 1 rfl) ?_
          refine lv_aload_n hx hb dX9_eulerOf_12 rfl (lv_at hl 0 rfl) ?_
          refine x_get (ci := 9) (C := RX9) (T := TX9) (N := 7) (v := .ref (ad 19)) B h hin9 3 6 rfl rfl (by decide) (by decide +kernel) rfl dX9_eulerOf_13 ?_
          refine lv_iload hx hb dX9_eulerOf_16 (lv_at hl 3 rfl) ?_
          obtain ⟨hb_2, hR⟩ := hR
          refine va_lald (f := (t.2.2.2 2)) hx hb B.2.1 h.1 19 1 rfl rfl hb_2 dX9_eulerOf_18 ?_
          refine lv_topl (fun v_2 ev_2 => ?_)
          have hR := hR v_2 ev_2
          refine lv_land hx hb dX9_eulerOf_19 ?_
          refine lv_topl (fun v_3 ev_3 => ?_)
          have hR := hR v_3 ev_3
          refine x_cSIE (n := 1) (As := [.long v_3]) (rest := []) B h (wkJ13_bitCount_95d88 l D cI cJ cB cZ ad k v_3 _ hR) ⟨⟨_, rfl⟩, by decide +kernel, Nat.le_of_ble_eq_true rfl, Nat.le_of_ble_eq_true rfl⟩ gX9_eulerOf_J13_bitCount_95d88 rfl hl.1 rfl (Nat.le_of_ble_eq_true rfl) dX9_eulerOf_20 ⟨Nat.le_of_ble_eq_true rfl, Nat.le_of_ble_eq_true rfl⟩ (fun r_4 _ H locs hR h => ?_)
          refine lv_istore (lv' := [(5, .int r_4), (0, .ref (ad 3)), (1, .long (lj 1)), (3, .int (li 3)), (4, .int (li 4))]) hx hb dX9_eulerOf_23 hl (by decide) rfl (fun ls hl => ?_)
          refine lv_iload_n hx hb dX9_eulerOf_25 rfl (lv_at hl 3 rfl) ?_
          refine lv_iload hx hb dX9_eulerOf_26 (lv_at hl 4 rfl) ?_
          refine lv_iconst (v := 1) hx hb dX9_eulerOf_28 (by decide) ?_
          refine lv_iand hx hb dX9_eulerOf_29 ?_
          refine lv_topi (fun v_5 ev_5 => ?_)
          have hR := hR v_5 ev_5
          refine lv_if_ne (tgt := 38) hx hb dX9_eulerOf_30 (by decide) (fun c_6 => ?_) (fun c_6 => ?_)
          · have hR := hR.1 c_6
            refine lv_iload hx hb dX9_eulerOf_38 (lv_at hl 0 rfl) ?_
            refine lv_ineg hx hb dX9_eulerOf_40 ?_
            refine lv_topi (fun v_7 ev_7 => ?_)
            have hR := hR v_7 ev_7
            exact ih.2.2 t (uI (uI (uI li 5 r_4) 101 v_7) 100 (li 3)) lj H locs ls hR (lv_sub hl [1, 2, 3, 4, 0] rfl) h
          · have hR := hR.2 c_6
            refine lv_iload hx hb dX9_eulerOf_33 (lv_at hl 0 rfl) ?_
            refine lv_goto (tgt := 41) hx hb dX9_eulerOf_35 (by decide) ?_
            exact ih.2.2 t (uI (uI (uI li 5 r_4) 101 r_4) 100 (li 3)) lj H locs ls hR (lv_sub hl [1, 2, 3, 4, 0] rfl) h
      · intro t li lj H locs ls hR hl h
        have hR : wbX9_eulerOf_2 (wpX9_eulerOf k) k t li lj Q := hR
        unfold wbX9_eulerOf_2 at hR
        refine lv_iadd hx hb dX9_eulerOf_41 ?_
        refine lv_topi (fun v_8 ev_8 => ?_)
        have hR := hR v_8 ev_8
        refine lv_istore_n (lv' := [(3, .int v_8), (0, .ref (ad 3)), (1, .long (lj 1)), (4, .int (li 4)), (5, .int (li 5))]) hx hb dX9_eulerOf_42 rfl hl (by decide) rfl (fun ls hl => ?_)
        obtain ⟨v_9, ev_9⟩ : ∃ v : Int32, v = (li 4) + Int32.ofInt 1 := ⟨_, rfl⟩
        have hR := hR v_9 ev_9
        refine lv_iinc (v := v_9) (lv' := [(4, .int v_9), (3, .int v_8), (0, .ref (ad 3)), (1, .long (lj 1)), (5, .int (li 5))]) hx hb dX9_eulerOf_43 hl (k := 3) rfl ev_9.symm (by decide) rfl (fun ls hl => ?_)
        refine lv_goto (tgt := 5) hx hb dX9_eulerOf_46 (by decide) ?_
        exact ih.2.1 t (uI (uI li 3 v_8) 4 v_9) lj H locs ls hR (lv_sub hl [2, 3, 1, 0] rfl) h
  exact (main k).1 t _ _ s.heap [] ls hR hl h
set_option maxRecDepth 20000 in
theorem ggX11_link_X11_isThere : GoodIn wsX11_link wsX11_isThere := goodIn_r _ [7, 2, 8, 9, 10, 11, 12, 13, 14, 15, 16, 17, 6, 18, 46, 47, 48, 49, 50, 51, 52, 53, 54, 55, 56, 57, 58, 59, 60, 61, 62, 63, 64, 65, 66, 67, 68, 69] (by decide +kernel) (by decide +kernel)
set_option maxRecDepth 20000 in
theorem gX11_link_X11_isThere : GoodIn wsX11_link (wsV RX11 130 RX11 yX11_isThere wsX11_isThere) := goodIn_app (goodIn_of _ (by decide +kernel)) ggX11_link_X11_isThere
set_option maxRecDepth 20000 in
theorem ggX11_link_X11_linkOf : GoodIn wsX11_link wsX11_linkOf := goodIn_r _ [22, 2, 23, 24, 25, 26, 27, 6, 28, 29, 3, 4, 5, 7, 8, 9, 10, 11, 12, 13, 14, 15, 16, 17, 18, 30, 31, 32, 46, 47, 48, 49, 50, 51, 52, 53, 54, 55, 56, 63, 64, 65, 66, 67, 68, 69, 57, 58, 59, 60, 61, 62] (by decide +kernel) (by decide +kernel)
set_option maxRecDepth 20000 in
theorem gX11_link_X11_linkOf : GoodIn wsX11_link (wsV RX11 281 RX11 yX11_linkOf wsX11_linkOf) := goodIn_app (goodIn_of _ (by decide +kernel)) ggX11_link_X11_linkOf
set_option maxRecDepth 20000 in
theorem ggX11_link_J13_bitCount_95d88 : GoodIn wsX11_link wsJ13_bitCount_95d88 := goodIn_r _ [36, 37, 38, 39] (by decide +kernel) (by decide +kernel)
set_option maxRecDepth 20000 in
theorem gX11_link_J13_bitCount_95d88 : GoodIn wsX11_link (va_wsS RX11 151 yJ13_bitCount_95d88 wsJ13_bitCount_95d88) := goodIn_app (goodIn_of _ (by decide +kernel)) ggX11_link_J13_bitCount_95d88
set_option maxRecDepth 20000 in
theorem ggX11_link_X9_eulerOf : GoodIn wsX11_link wsX9_eulerOf := goodIn_r _ [43, 44, 45, 34, 35, 36, 37, 38, 39, 63, 64, 65, 66, 67, 68, 69] (by decide +kernel) (by decide +kernel)
set_option maxRecDepth 20000 in
theorem gX11_link_X9_eulerOf : GoodIn wsX11_link (wsV RX11 284 RX9 yX9_eulerOf wsX9_eulerOf) := goodIn_app (goodIn_of _ (by decide +kernel)) ggX11_link_X9_eulerOf
def wbX11_link_0 (rec : Nat → XT → (Nat → Int32) → (Nat → Int64) → (Int32 → XT → Prop) → Prop) (k : Nat) (t : XT) (li : Nat → Int32) (lj : Nat → Int64) (Q : Int32 → XT → Prop) : Prop :=
  (wqX11_isThere k t (li 1) (fun r_1 t_1 => ((r_1 = 0) → rec 1 t_1 li lj Q) ∧ (¬ (r_1 = 0) → (((li 2) < 0) → rec 1 t_1 li lj Q) ∧ (¬ ((li 2) < 0) → (((li 2) ≤ 1) → (wqX11_linkOf k t_1 (li 1) (fun r_5 t_5 => ((¬ (li 2) = 0) → (wqX9_eulerOf k t_5 r_5 (fun r_7 t_7 => Q r_7 t_7))) ∧ (((li 2) = 0) → (wqJ13_bitCount_95d88 k r_5 (fun r_8 => Q r_8 t_5)))))) ∧ (¬ ((li 2) ≤ 1) → rec 1 t_1 li lj Q)))))
def wbX11_link_1 (rec : Nat → XT → (Nat → Int32) → (Nat → Int64) → (Int32 → XT → Prop) → Prop) (k : Nat) (t : XT) (li : Nat → Int32) (lj : Nat → Int64) (Q : Int32 → XT → Prop) : Prop :=
  Q (-2147483648) t
def wpX11_link : Nat → Nat → XT → (Nat → Int32) → (Nat → Int64) → (Int32 → XT → Prop) → Prop
  | 0, _, _, _, _, _ => False
  | k + 1, 0, t, li, lj, Q => wbX11_link_0 (wpX11_link k) k t li lj Q
  | k + 1, 1, t, li, lj, Q => wbX11_link_1 (wpX11_link k) k t li lj Q
  | _ + 1, _, _, _, _, _ => False
def wqX11_link (k : Nat) (t : XT) (a1 : Int32) (a2 : Int32) (Q : Int32 → XT → Prop) : Prop := wpX11_link k 0 t (uI (uI (fun _ => 0) 1 a1) 2 a2) (fun _ => 0) Q
set_option maxHeartbeats 8000000 in
set_option maxRecDepth 100000 in
theorem wkX11_link (l : Launch) (D : va_G) (cI cJ cB cZ : ClassId) (ad : Nat → Nat) (k : Nat) (t : XT) (a1 : Int32) (a2 : Int32) (Q : Int32 → XT → Prop) (hR : wqX11_link k t a1 a2 Q) : MetI l yX11_link wsX11_link 3 70 0 0 D (TYS cI cJ cB cZ) (wX cI cJ cB cZ ad t) [.ref (ad 0), .int a1, .int a2] (fun r u => Q r u) (fun u : XT => (wX cI cJ cB cZ ad u)) := by
  refine x_startI (ty := .int) (cc := cX11_link) (by decide) rfl (Nat.le_of_ble_eq_true rfl) ?_
  intro p e s m args below meth c A ls B hr hnm h hl
  have hx := B.1.1
  have hb := B.1.2.1
  have hml := B.1.2.2.1
  have hts := B.1.2.2.2.2
  have hown : s.vm.findClass RX11 = some m.cls := B.1.2.2.2.1
  have hin11 : ∀ w ∈ u_ws RX11 TX11 11, w ∈ wsX11_link := by decide +kernel
  have main : ∀ k : Nat, (∀ (t : XT) (li : Nat → Int32) (lj : Nat → Int64) (H : Heap) (locs : List Loc) (ls : Array Slot), wpX11_link k 0 t li lj Q → lv_has ls 5 [(0, .ref (ad 0)), (1, .int (li 1)), (2, .int (li 2))] → Hp D A s.heap (wX cI cJ cB cZ ad t) H locs → W p l e { frames := 3, cells := 0, slots := 0, locals := 70 } s m args below meth c H locs 0 0 (MQ below (va_Qi (fun r u => Q r u) (fun u t => xEnd D ((fun u : XT => (wX cI cJ cB cZ ad u)) u) A t) A) args s 0 0 A) (F0 m 0 ls [])) ∧
      (∀ (t : XT) (li : Nat → Int32) (lj : Nat → Int64) (H : Heap) (locs : List Loc) (ls : Array Slot), wpX11_link k 1 t li lj Q → lv_has ls 5 [(0, .ref (ad 0)), (1, .int (li 1)), (2, .int (li 2))] → Hp D A s.heap (wX cI cJ cB cZ ad t) H locs → W p l e { frames := 3, cells := 0, slots := 0, locals := 70 } s m args below meth c H locs 0 0 (MQ below (va_Qi (fun r u => Q r u) (fun u t => xEnd D ((fun u : XT => (wX cI cJ cB cZ ad u)) u) A t) A) args s 0 0 A) (F0 m 17 ls [])) := by
    intro k
    induction k with
    | zero => exact ⟨fun _ _ _ _ _ _ hR => False.elim hR, fun _ _ _ _ _ _ hR => False.elim hR⟩
    | succ k ih =>
      refine ⟨?_, ?_⟩
      · intro t li lj H locs ls hR hl h
        have hR : wbX11_link_0 (wpX11_link k) k t li lj Q := hR
        unfold wbX11_link_0 at hR
        refine lv_aload_n hx hb dX11_link_0 rfl (lv_at hl 0 rfl) ?_
        refine lv_iload_n hx hb dX11_link_1 rfl (lv_at hl 1 rfl) ?_
        refine x_cVIF (n := 1) (As := [.int (li 1)]) (rest := []) B h (wkX11_isThere l D cI cJ cB cZ ad k t (li 1) _ hR) ⟨⟨_, rfl⟩, by decide +kernel, Nat.le_of_ble_eq_true rfl, Nat.le_of_ble_eq_true rfl⟩ gX11_link_X11_isThere (show ((wX cI cJ cB cZ ad t) : va_W)[0]? = some (_, .inr (11, _)) from rfl) rfl rfl hl.1 rfl (Nat.le_of_ble_eq_true rfl) dX11_link_2 ⟨Nat.le_of_ble_eq_true rfl, Nat.le_of_ble_eq_true rfl⟩ (fun r_1 t_1 H locs hR h => ?_)
        refine lv_if_eq (tgt := 17) hx hb dX11_link_5 (by decide) (fun c_2 => ?_) (fun c_2 => ?_)
        · have hR := hR.1 c_2
          exact ih.2 t_1 li lj H locs ls hR (lv_sub hl [0, 1, 2] rfl) h
        · have hR := hR.2 c_2
          refine lv_iload_n hx hb dX11_link_8 rfl (lv_at hl 2 rfl) ?_
          refine lv_if_lt (tgt := 17) hx hb dX11_link_9 (by decide) (fun c_3 => ?_) (fun c_3 => ?_)
          · have hR := hR.1 c_3
            exact ih.2 t_1 li lj H locs ls hR (lv_sub hl [0, 1, 2] rfl) h
          · have hR := hR.2 c_3
            refine lv_iload_n hx hb dX11_link_12 rfl (lv_at hl 2 rfl) ?_
            refine lv_iconst (v := 1) hx hb dX11_link_13 (by decide) ?_
            refine lv_icmp_le (tgt := 20) hx hb dX11_link_14 (by decide) (fun c_4 => ?_) (fun c_4 => ?_)
            · have hR := hR.1 c_4
              refine lv_aload_n hx hb dX11_link_20 rfl (lv_at hl 0 rfl) ?_
              refine lv_iload_n hx hb dX11_link_21 rfl (lv_at hl 1 rfl) ?_
              refine x_cVLF (n := 1) (As := [.int (li 1)]) (rest := []) B h (wkX11_linkOf l D cI cJ cB cZ ad k t_1 (li 1) _ hR) ⟨⟨_, rfl⟩, by decide +kernel, Nat.le_of_ble_eq_true rfl, Nat.le_of_ble_eq_true rfl⟩ gX11_link_X11_linkOf (show ((wX cI cJ cB cZ ad t_1) : va_W)[0]? = some (_, .inr (11, _)) from rfl) rfl rfl hl.1 rfl (Nat.le_of_ble_eq_true rfl) dX11_link_22 ⟨Nat.le_of_ble_eq_true rfl, Nat.le_of_ble_eq_true rfl⟩ (fun r_5 t_5 H locs hR h => ?_)
              refine lv_lstore_n (lv' := [(3, .long r_5), (0, .ref (ad 0)), (1, .int (li 1)), (2, .int (li 2))]) hx hb dX11_link_25 rfl hl (by decide) rfl (fun ls hl => ?_)
              refine lv_iload_n hx hb dX11_link_26 rfl (lv_at hl 3 rfl) ?_
              refine lv_if_ne (tgt := 37) hx hb dX11_link_27 (by decide) (fun c_6 => ?_) (fun c_6 => ?_)
              · have hR := hR.1 c_6
                refine lv_aload_n hx hb dX11_link_37 rfl (lv_at hl 1 rfl) ?_
                refine x_get (ci := 11) (C := RX11) (T := TX11) (N := 11) (v := .ref (ad 3)) B h hin11 0 2 rfl rfl (by decide) (by decide +kernel) rfl dX11_link_38 ?_
                refine lv_lload_n hx hb dX11_link_41 rfl (lv_at hl 0 rfl) ?_
                refine x_cVIF (n := 1) (As := [.long r_5]) (rest := []) B h (wkX9_eulerOf l D cI cJ cB cZ ad k t_5 r_5 _ hR) ⟨⟨_, rfl⟩, by decide +kernel, Nat.le_of_ble_eq_true rfl, Nat.le_of_ble_eq_true rfl⟩ gX11_link_X9_eulerOf (show ((wX cI cJ cB cZ ad t_5) : va_W)[3]? = some (_, .inr (9, _)) from rfl) rfl rfl hl.1 rfl (Nat.le_of_ble_eq_true rfl) dX11_link_42 ⟨Nat.le_of_ble_eq_true rfl, Nat.le_of_ble_eq_true rfl⟩ (fun r_7 t_7 H locs hR h => ?_)
                exact x_iret (w1 := (fun u : XT => (wX cI cJ cB cZ ad u))) t_7 B h hr rfl hR dX11_link_45
              · have hR := hR.2 c_6
                refine lv_lload_n hx hb dX11_link_30 rfl (lv_at hl 0 rfl) ?_
                refine x_cSIE (n := 1) (As := [.long r_5]) (rest := []) B h (wkJ13_bitCount_95d88 l D cI cJ cB cZ ad k r_5 _ hR) ⟨⟨_, rfl⟩, by decide +kernel, Nat.le_of_ble_eq_true rfl, Nat.le_of_ble_eq_true rfl⟩ gX11_link_J13_bitCount_95d88 rfl hl.1 rfl (Nat.le_of_ble_eq_true rfl) dX11_link_31 ⟨Nat.le_of_ble_eq_true rfl, Nat.le_of_ble_eq_true rfl⟩ (fun r_8 _ H locs hR h => ?_)
                refine lv_goto (tgt := 45) hx hb dX11_link_34 (by decide) ?_
                exact x_iret (w1 := (fun u : XT => (wX cI cJ cB cZ ad u))) t_5 B h hr rfl hR dX11_link_45
            · have hR := hR.2 c_4
              exact ih.2 t_1 li lj H locs ls hR (lv_sub hl [0, 1, 2] rfl) h
      · intro t li lj H locs ls hR hl h
        have hR : wbX11_link_1 (wpX11_link k) k t li lj Q := hR
        unfold wbX11_link_1 at hR
        refine lv_ldc (v := (-2147483648)) hx hb hown (hts (.constant RX11 160 (-2147483648)) (by decide +kernel)) dX11_link_17 ?_
        exact x_iret (w1 := (fun u : XT => (wX cI cJ cB cZ ad u))) t B h hr rfl hR dX11_link_19
  exact (main k).1 t _ _ s.heap [] ls hR hl h
