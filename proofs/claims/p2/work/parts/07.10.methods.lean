def wbX12_puts_0 (rec : Nat → XT → (Nat → Int32) → (Nat → Int64) → (XT → Prop) → Prop) (k : Nat) (t : XT) (li : Nat → Int32) (lj : Nat → Int64) (Q : XT → Prop) : Prop :=
  rec 1 t (uI li 2 24) lj Q
def wbX12_puts_1 (rec : Nat → XT → (Nat → Int32) → (Nat → Int64) → (XT → Prop) → Prop) (k : Nat) (t : XT) (li : Nat → Int32) (lj : Nat → Int64) (Q : XT → Prop) : Prop :=
  (((li 2) < 0) → Q t) ∧ (¬ ((li 2) < 0) → (∀ v_2 : Int32, v_2 = ((li 1) >>> ((li 2) &&& 31)) → (∀ v_3 : Int32, v_3 = v_2.toInt8.toInt32 → (vp_in (t.1 0) 160 ∧ (∀ t_4 : XT, t_4 = sA t 0 (upd (t.2.2.1 0) (t.1 0).toNatClampNeg (vp_nar .byte v_3)) → (∀ v_5 : Int32, v_5 = ((t_4.1 0) + 1) → (∀ t_6 : XT, t_6 = sI t_4 0 v_5 → (∀ v_7 : Int32, v_7 = (li 2) + Int32.ofInt (-8) → rec 1 t_6 (uI li 2 v_7) lj Q))))))))
def wpX12_puts : Nat → Nat → XT → (Nat → Int32) → (Nat → Int64) → (XT → Prop) → Prop
  | 0, _, _, _, _, _ => False
  | k + 1, 0, t, li, lj, Q => wbX12_puts_0 (wpX12_puts k) k t li lj Q
  | k + 1, 1, t, li, lj, Q => wbX12_puts_1 (wpX12_puts k) k t li lj Q
  | _ + 1, _, _, _, _, _ => False
def wqX12_puts (k : Nat) (t : XT) (a1 : Int32) (Q : XT → Prop) : Prop := wpX12_puts k 0 t (uI (fun _ => 0) 1 a1) (fun _ => 0) Q
set_option maxHeartbeats 8000000 in
set_option maxRecDepth 100000 in
theorem wkX12_puts (l : Launch) (D : va_G) (cI cJ cB cZ : ClassId) (bd : Nat → Nat) (k : Nat) (t : XT) (a1 : Int32) (Q : XT → Prop) (hR : wqX12_puts k t a1 Q) : MetV l yX12_puts wsX12_puts 0 0 0 0 D (TYS cI cJ cB cZ) (wM cI cJ cB cZ bd t) [.ref (bd 0), .int a1] (fun u => Q u) (fun u : XT => (wM cI cJ cB cZ bd u)) := by
  refine x_startV (ty := .int) (cc := cX12_puts) (by decide) rfl (Nat.le_of_ble_eq_true rfl) ?_
  intro p e s m args below meth c A ls B hr hnm h hl
  have hx := B.1.1
  have hb := B.1.2.1
  have hml := B.1.2.2.1
  have hts := B.1.2.2.2.2
  have hown : s.vm.findClass RX12 = some m.cls := B.1.2.2.2.1
  have hin12 : ∀ w ∈ u_ws RX12 TX12 31, w ∈ wsX12_puts := by decide +kernel
  have main : ∀ k : Nat, (∀ (t : XT) (li : Nat → Int32) (lj : Nat → Int64) (H : Heap) (locs : List Loc) (ls : Array Slot), wpX12_puts k 0 t li lj Q → lv_has ls 3 [(0, .ref (bd 0)), (1, .int (li 1))] → Hp D A s.heap (wM cI cJ cB cZ bd t) H locs → W p l e { frames := 0, cells := 0, slots := 0, locals := 0 } s m args below meth c H locs 0 0 (MQ below (va_Qv (fun u => Q u) (fun u t => xEnd D ((fun u : XT => (wM cI cJ cB cZ bd u)) u) A t) A) args s 0 0 A) (F0 m 0 ls [])) ∧
      (∀ (t : XT) (li : Nat → Int32) (lj : Nat → Int64) (H : Heap) (locs : List Loc) (ls : Array Slot), wpX12_puts k 1 t li lj Q → lv_has ls 3 [(0, .ref (bd 0)), (1, .int (li 1)), (2, .int (li 2))] → Hp D A s.heap (wM cI cJ cB cZ bd t) H locs → W p l e { frames := 0, cells := 0, slots := 0, locals := 0 } s m args below meth c H locs 0 0 (MQ below (va_Qv (fun u => Q u) (fun u t => xEnd D ((fun u : XT => (wM cI cJ cB cZ bd u)) u) A t) A) args s 0 0 A) (F0 m 3 ls [])) := by
    intro k
    induction k with
    | zero => exact ⟨fun _ _ _ _ _ _ hR => False.elim hR, fun _ _ _ _ _ _ hR => False.elim hR⟩
    | succ k ih =>
      refine ⟨?_, ?_⟩
      · intro t li lj H locs ls hR hl h
        have hR : wbX12_puts_0 (wpX12_puts k) k t li lj Q := hR
        unfold wbX12_puts_0 at hR
        refine lv_bipush (v := 24) hx hb dX12_puts_0 (by decide) ?_
        refine lv_istore_n (lv' := [(2, .int 24), (0, .ref (bd 0)), (1, .int (li 1))]) hx hb dX12_puts_2 rfl hl (by decide) rfl (fun ls hl => ?_)
        exact ih.2 t (uI li 2 24) lj H locs ls hR (lv_sub hl [1, 2, 0] rfl) h
      · intro t li lj H locs ls hR hl h
        have hR : wbX12_puts_1 (wpX12_puts k) k t li lj Q := hR
        unfold wbX12_puts_1 at hR
        refine lv_iload_n hx hb dX12_puts_3 rfl (lv_at hl 2 rfl) ?_
        refine lv_if_lt (tgt := 36) hx hb dX12_puts_4 (by decide) (fun c_1 => ?_) (fun c_1 => ?_)
        · have hR := hR.1 c_1
          exact x_vret (w1 := (fun u : XT => (wM cI cJ cB cZ bd u))) t B h hr hR dX12_puts_36
        · have hR := hR.2 c_1
          refine lv_aload_n hx hb dX12_puts_7 rfl (lv_at hl 0 rfl) ?_
          refine x_get (ci := 12) (C := RX12) (T := TX12) (N := 31) (v := .ref (bd 1)) B h hin12 0 0 rfl rfl (by decide) (by decide +kernel) rfl dX12_puts_8 ?_
          refine lv_aload_n hx hb dX12_puts_11 rfl (lv_at hl 0 rfl) ?_
          refine x_get (ci := 12) (C := RX12) (T := TX12) (N := 31) (v := .int (t.1 0)) B h hin12 0 1 rfl rfl (by decide) (by decide +kernel) rfl dX12_puts_12 ?_
          refine lv_iload_n hx hb dX12_puts_15 rfl (lv_at hl 1 rfl) ?_
          refine lv_iload_n hx hb dX12_puts_16 rfl (lv_at hl 2 rfl) ?_
          refine lv_ishr hx hb dX12_puts_17 ?_
          refine lv_topi (fun v_2 ev_2 => ?_)
          have hR := hR v_2 ev_2
          obtain ⟨v_3, ev_3⟩ : ∃ v : Int32, v = v_2.toInt8.toInt32 := ⟨_, rfl⟩
          have hR := hR v_3 ev_3
          refine lv_i2b (v := v_3) hx hb dX12_puts_18 ev_3.symm ?_
          obtain ⟨hb_4, hR⟩ := hR
          refine z_bast (f := (t.2.2.1 0)) B h 1 2 rfl rfl hb_4 dX12_puts_19 (fun H locs h => ?_)
          obtain ⟨t_4, et_4⟩ : ∃ v : XT, v = sA t 0 (upd (t.2.2.1 0) (t.1 0).toNatClampNeg (vp_nar .byte v_3)) := ⟨_, rfl⟩
          have hR := hR t_4 et_4
          have h : Hp D A s.heap (wM cI cJ cB cZ bd t_4) H locs := by rw [et_4]; exact h
          refine lv_aload_n hx hb dX12_puts_20 rfl (lv_at hl 0 rfl) ?_
          refine lv_dup hx hb dX12_puts_21 rfl ?_
          refine x_get (ci := 12) (C := RX12) (T := TX12) (N := 31) (v := .int (t_4.1 0)) B h hin12 0 1 rfl rfl (by decide) (by decide +kernel) rfl dX12_puts_22 ?_
          refine lv_iconst (v := 1) hx hb dX12_puts_25 (by decide) ?_
          refine lv_iadd hx hb dX12_puts_26 ?_
          refine lv_topi (fun v_5 ev_5 => ?_)
          have hR := hR v_5 ev_5
          refine x_put (ci := 12) (C := RX12) (T := TX12) (N := 31) (v := .int v_5) (ty := .int) B h hin12 tyX12 tyX12_ok nmX12 0 1 rfl rfl (by decide) (by decide +kernel) rfl rfl rfl rfl (Nat.le_of_ble_eq_true rfl) dX12_puts_27 (fun H locs h => ?_)
          obtain ⟨t_6, et_6⟩ : ∃ v : XT, v = sI t_4 0 v_5 := ⟨_, rfl⟩
          have hR := hR t_6 et_6
          have h : Hp D A s.heap (wM cI cJ cB cZ bd t_6) H locs := by rw [et_6]; exact h
          obtain ⟨v_7, ev_7⟩ : ∃ v : Int32, v = (li 2) + Int32.ofInt (-8) := ⟨_, rfl⟩
          have hR := hR v_7 ev_7
          refine lv_iinc (v := v_7) (lv' := [(2, .int v_7), (0, .ref (bd 0)), (1, .int (li 1))]) hx hb dX12_puts_30 hl (k := 2) rfl ev_7.symm (by decide) rfl (fun ls hl => ?_)
          refine lv_goto (tgt := 3) hx hb dX12_puts_33 (by decide) ?_
          exact ih.2 t_6 (uI li 2 v_7) lj H locs ls hR (lv_sub hl [1, 2, 0] rfl) h
  exact (main k).1 t _ _ s.heap [] ls hR hl h
def wbX12_feed_0 (rec : Nat → XT → (Nat → Int32) → (Nat → Int64) → (Int32 → XT → Prop) → Prop) (k : Nat) (t : XT) (li : Nat → Int32) (lj : Nat → Int64) (Q : Int32 → XT → Prop) : Prop :=
  (∀ v_1 : Int32, v_1 = ((t.1 0) + 20) → ((v_1 ≤ 160) → (wqX12_puts k t (li 1) (fun t_3 => (wqX12_puts k t_3 (li 2) (fun t_4 => (wqX12_puts k t_4 (li 3) (fun t_5 => (wqX12_puts k t_5 (li 4) (fun t_6 => (wqX12_puts k t_6 (li 5) (fun t_7 => Q (t_7.1 0) t_7))))))))))) ∧ (¬ (v_1 ≤ 160) → Q (-1) t))
def wpX12_feed : Nat → Nat → XT → (Nat → Int32) → (Nat → Int64) → (Int32 → XT → Prop) → Prop
  | 0, _, _, _, _, _ => False
  | k + 1, 0, t, li, lj, Q => wbX12_feed_0 (wpX12_feed k) k t li lj Q
  | _ + 1, _, _, _, _, _ => False
def wqX12_feed (k : Nat) (t : XT) (a1 : Int32) (a2 : Int32) (a3 : Int32) (a4 : Int32) (a5 : Int32) (Q : Int32 → XT → Prop) : Prop := wpX12_feed k 0 t (uI (uI (uI (uI (uI (fun _ => 0) 1 a1) 2 a2) 3 a3) 4 a4) 5 a5) (fun _ => 0) Q
set_option maxHeartbeats 8000000 in
set_option maxRecDepth 100000 in
theorem wkX12_feed (l : Launch) (D : va_G) (cI cJ cB cZ : ClassId) (bd : Nat → Nat) (k : Nat) (t : XT) (a1 : Int32) (a2 : Int32) (a3 : Int32) (a4 : Int32) (a5 : Int32) (Q : Int32 → XT → Prop) (hR : wqX12_feed k t a1 a2 a3 a4 a5 Q) : MetI l yX12_feed wsX12_feed 1 22 0 0 D (TYS cI cJ cB cZ) (wM cI cJ cB cZ bd t) [.ref (bd 0), .int a1, .int a2, .int a3, .int a4, .int a5] (fun r u => Q r u) (fun u : XT => (wM cI cJ cB cZ bd u)) := by
  refine x_startI (ty := .int) (cc := cX12_feed) (by decide) rfl (Nat.le_of_ble_eq_true rfl) ?_
  intro p e s m args below meth c A ls B hr hnm h hl
  have hx := B.1.1
  have hb := B.1.2.1
  have hml := B.1.2.2.1
  have hts := B.1.2.2.2.2
  have hown : s.vm.findClass RX12 = some m.cls := B.1.2.2.2.1
  have hin12 : ∀ w ∈ u_ws RX12 TX12 31, w ∈ wsX12_feed := by decide +kernel
  have main : ∀ k : Nat, (∀ (t : XT) (li : Nat → Int32) (lj : Nat → Int64) (H : Heap) (locs : List Loc) (ls : Array Slot), wpX12_feed k 0 t li lj Q → lv_has ls 6 [(0, .ref (bd 0)), (1, .int (li 1)), (2, .int (li 2)), (3, .int (li 3)), (4, .int (li 4)), (5, .int (li 5))] → Hp D A s.heap (wM cI cJ cB cZ bd t) H locs → W p l e { frames := 1, cells := 0, slots := 0, locals := 22 } s m args below meth c H locs 0 0 (MQ below (va_Qi (fun r u => Q r u) (fun u t => xEnd D ((fun u : XT => (wM cI cJ cB cZ bd u)) u) A t) A) args s 0 0 A) (F0 m 0 ls [])) := by
    intro k
    induction k with
    | zero => exact fun _ _ _ _ _ _ hR => False.elim hR
    | succ k ih =>
      intro t li lj H locs ls hR hl h
      have hR : wbX12_feed_0 (wpX12_feed k) k t li lj Q := hR
      unfold wbX12_feed_0 at hR
      refine lv_aload_n hx hb dX12_feed_0 rfl (lv_at hl 0 rfl) ?_
      refine x_get (ci := 12) (C := RX12) (T := TX12) (N := 31) (v := .int (t.1 0)) B h hin12 0 1 rfl rfl (by decide) (by decide +kernel) rfl dX12_feed_1 ?_
      refine lv_bipush (v := 20) hx hb dX12_feed_4 (by decide) ?_
      refine lv_iadd hx hb dX12_feed_6 ?_
      refine lv_topi (fun v_1 ev_1 => ?_)
      have hR := hR v_1 ev_1
      refine lv_sipush (v := 160) hx hb dX12_feed_7 (by decide) ?_
      refine lv_icmp_le (tgt := 15) hx hb dX12_feed_10 (by decide) (fun c_2 => ?_) (fun c_2 => ?_)
      · have hR := hR.1 c_2
        refine lv_aload_n hx hb dX12_feed_15 rfl (lv_at hl 0 rfl) ?_
        refine lv_iload_n hx hb dX12_feed_16 rfl (lv_at hl 1 rfl) ?_
        refine x_cVVF (n := 1) (As := [.int (li 1)]) (rest := []) B h (wkX12_puts l D cI cJ cB cZ bd k t (li 1) _ hR) ⟨⟨_, rfl⟩, by decide +kernel, Nat.le_of_ble_eq_true rfl, Nat.le_of_ble_eq_true rfl⟩ gX12_feed_X12_puts (show ((wM cI cJ cB cZ bd t) : va_W)[0]? = some (_, .inr (12, _)) from rfl) rfl rfl hl.1 rfl (Nat.le_of_ble_eq_true rfl) dX12_feed_17 ⟨Nat.le_of_ble_eq_true rfl, Nat.le_of_ble_eq_true rfl⟩ (fun t_3 H locs hR h => ?_)
        refine lv_aload_n hx hb dX12_feed_20 rfl (lv_at hl 0 rfl) ?_
        refine lv_iload_n hx hb dX12_feed_21 rfl (lv_at hl 2 rfl) ?_
        refine x_cVVF (n := 1) (As := [.int (li 2)]) (rest := []) B h (wkX12_puts l D cI cJ cB cZ bd k t_3 (li 2) _ hR) ⟨⟨_, rfl⟩, by decide +kernel, Nat.le_of_ble_eq_true rfl, Nat.le_of_ble_eq_true rfl⟩ gX12_feed_X12_puts (show ((wM cI cJ cB cZ bd t_3) : va_W)[0]? = some (_, .inr (12, _)) from rfl) rfl rfl hl.1 rfl (Nat.le_of_ble_eq_true rfl) dX12_feed_22 ⟨Nat.le_of_ble_eq_true rfl, Nat.le_of_ble_eq_true rfl⟩ (fun t_4 H locs hR h => ?_)
        refine lv_aload_n hx hb dX12_feed_25 rfl (lv_at hl 0 rfl) ?_
        refine lv_iload_n hx hb dX12_feed_26 rfl (lv_at hl 3 rfl) ?_
        refine x_cVVF (n := 1) (As := [.int (li 3)]) (rest := []) B h (wkX12_puts l D cI cJ cB cZ bd k t_4 (li 3) _ hR) ⟨⟨_, rfl⟩, by decide +kernel, Nat.le_of_ble_eq_true rfl, Nat.le_of_ble_eq_true rfl⟩ gX12_feed_X12_puts (show ((wM cI cJ cB cZ bd t_4) : va_W)[0]? = some (_, .inr (12, _)) from rfl) rfl rfl hl.1 rfl (Nat.le_of_ble_eq_true rfl) dX12_feed_27 ⟨Nat.le_of_ble_eq_true rfl, Nat.le_of_ble_eq_true rfl⟩ (fun t_5 H locs hR h => ?_)
        refine lv_aload_n hx hb dX12_feed_30 rfl (lv_at hl 0 rfl) ?_
        refine lv_iload hx hb dX12_feed_31 (lv_at hl 4 rfl) ?_
        refine x_cVVF (n := 1) (As := [.int (li 4)]) (rest := []) B h (wkX12_puts l D cI cJ cB cZ bd k t_5 (li 4) _ hR) ⟨⟨_, rfl⟩, by decide +kernel, Nat.le_of_ble_eq_true rfl, Nat.le_of_ble_eq_true rfl⟩ gX12_feed_X12_puts (show ((wM cI cJ cB cZ bd t_5) : va_W)[0]? = some (_, .inr (12, _)) from rfl) rfl rfl hl.1 rfl (Nat.le_of_ble_eq_true rfl) dX12_feed_33 ⟨Nat.le_of_ble_eq_true rfl, Nat.le_of_ble_eq_true rfl⟩ (fun t_6 H locs hR h => ?_)
        refine lv_aload_n hx hb dX12_feed_36 rfl (lv_at hl 0 rfl) ?_
        refine lv_iload hx hb dX12_feed_37 (lv_at hl 5 rfl) ?_
        refine x_cVVF (n := 1) (As := [.int (li 5)]) (rest := []) B h (wkX12_puts l D cI cJ cB cZ bd k t_6 (li 5) _ hR) ⟨⟨_, rfl⟩, by decide +kernel, Nat.le_of_ble_eq_true rfl, Nat.le_of_ble_eq_true rfl⟩ gX12_feed_X12_puts (show ((wM cI cJ cB cZ bd t_6) : va_W)[0]? = some (_, .inr (12, _)) from rfl) rfl rfl hl.1 rfl (Nat.le_of_ble_eq_true rfl) dX12_feed_39 ⟨Nat.le_of_ble_eq_true rfl, Nat.le_of_ble_eq_true rfl⟩ (fun t_7 H locs hR h => ?_)
        refine lv_aload_n hx hb dX12_feed_42 rfl (lv_at hl 0 rfl) ?_
        refine x_get (ci := 12) (C := RX12) (T := TX12) (N := 31) (v := .int (t_7.1 0)) B h hin12 0 1 rfl rfl (by decide) (by decide +kernel) rfl dX12_feed_43 ?_
        exact x_iret (w1 := (fun u : XT => (wM cI cJ cB cZ bd u))) t_7 B h hr rfl hR dX12_feed_46
      · have hR := hR.2 c_2
        refine lv_iconst (v := (-1)) hx hb dX12_feed_13 (by decide) ?_
        exact x_iret (w1 := (fun u : XT => (wM cI cJ cB cZ bd u))) t B h hr rfl hR dX12_feed_14
  exact (main k) t _ _ s.heap [] ls hR hl h
def wbX12_end_0 (rec : Nat → XT → (Nat → Int32) → (Nat → Int64) → (Int32 → XT → Prop) → Prop) (k : Nat) (t : XT) (li : Nat → Int32) (lj : Nat → Int64) (Q : Int32 → XT → Prop) : Prop :=
  (((li 1) < 0) → rec 1 t li lj Q) ∧ (¬ ((li 1) < 0) → (((li 1) ≤ (t.1 0)) → (∀ t_3 : XT, t_3 = sI t 0 (li 1) → Q (li 1) t_3)) ∧ (¬ ((li 1) ≤ (t.1 0)) → rec 1 t li lj Q))
def wbX12_end_1 (rec : Nat → XT → (Nat → Int32) → (Nat → Int64) → (Int32 → XT → Prop) → Prop) (k : Nat) (t : XT) (li : Nat → Int32) (lj : Nat → Int64) (Q : Int32 → XT → Prop) : Prop :=
  Q (-1) t
def wpX12_end : Nat → Nat → XT → (Nat → Int32) → (Nat → Int64) → (Int32 → XT → Prop) → Prop
  | 0, _, _, _, _, _ => False
  | k + 1, 0, t, li, lj, Q => wbX12_end_0 (wpX12_end k) k t li lj Q
  | k + 1, 1, t, li, lj, Q => wbX12_end_1 (wpX12_end k) k t li lj Q
  | _ + 1, _, _, _, _, _ => False
def wqX12_end (k : Nat) (t : XT) (a1 : Int32) (Q : Int32 → XT → Prop) : Prop := wpX12_end k 0 t (uI (fun _ => 0) 1 a1) (fun _ => 0) Q
set_option maxHeartbeats 8000000 in
set_option maxRecDepth 100000 in
theorem wkX12_end (l : Launch) (D : va_G) (cI cJ cB cZ : ClassId) (bd : Nat → Nat) (k : Nat) (t : XT) (a1 : Int32) (Q : Int32 → XT → Prop) (hR : wqX12_end k t a1 Q) : MetI l yX12_end wsX12_end 0 0 0 0 D (TYS cI cJ cB cZ) (wM cI cJ cB cZ bd t) [.ref (bd 0), .int a1] (fun r u => Q r u) (fun u : XT => (wM cI cJ cB cZ bd u)) := by
  refine x_startI (ty := .int) (cc := cX12_end) (by decide) rfl (Nat.le_of_ble_eq_true rfl) ?_
  intro p e s m args below meth c A ls B hr hnm h hl
  have hx := B.1.1
  have hb := B.1.2.1
  have hml := B.1.2.2.1
  have hts := B.1.2.2.2.2
  have hown : s.vm.findClass RX12 = some m.cls := B.1.2.2.2.1
  have hin12 : ∀ w ∈ u_ws RX12 TX12 31, w ∈ wsX12_end := by decide +kernel
  have main : ∀ k : Nat, (∀ (t : XT) (li : Nat → Int32) (lj : Nat → Int64) (H : Heap) (locs : List Loc) (ls : Array Slot), wpX12_end k 0 t li lj Q → lv_has ls 2 [(0, .ref (bd 0)), (1, .int (li 1))] → Hp D A s.heap (wM cI cJ cB cZ bd t) H locs → W p l e { frames := 0, cells := 0, slots := 0, locals := 0 } s m args below meth c H locs 0 0 (MQ below (va_Qi (fun r u => Q r u) (fun u t => xEnd D ((fun u : XT => (wM cI cJ cB cZ bd u)) u) A t) A) args s 0 0 A) (F0 m 0 ls [])) ∧
      (∀ (t : XT) (li : Nat → Int32) (lj : Nat → Int64) (H : Heap) (locs : List Loc) (ls : Array Slot), wpX12_end k 1 t li lj Q → lv_has ls 2 [(0, .ref (bd 0)), (1, .int (li 1))] → Hp D A s.heap (wM cI cJ cB cZ bd t) H locs → W p l e { frames := 0, cells := 0, slots := 0, locals := 0 } s m args below meth c H locs 0 0 (MQ below (va_Qi (fun r u => Q r u) (fun u t => xEnd D ((fun u : XT => (wM cI cJ cB cZ bd u)) u) A t) A) args s 0 0 A) (F0 m 12 ls [])) := by
    intro k
    induction k with
    | zero => exact ⟨fun _ _ _ _ _ _ hR => False.elim hR, fun _ _ _ _ _ _ hR => False.elim hR⟩
    | succ k ih =>
      refine ⟨?_, ?_⟩
      · intro t li lj H locs ls hR hl h
        have hR : wbX12_end_0 (wpX12_end k) k t li lj Q := hR
        unfold wbX12_end_0 at hR
        refine lv_iload_n hx hb dX12_end_0 rfl (lv_at hl 1 rfl) ?_
        refine lv_if_lt (tgt := 12) hx hb dX12_end_1 (by decide) (fun c_1 => ?_) (fun c_1 => ?_)
        · have hR := hR.1 c_1
          exact ih.2 t li lj H locs ls hR (lv_sub hl [0, 1] rfl) h
        · have hR := hR.2 c_1
          refine lv_iload_n hx hb dX12_end_4 rfl (lv_at hl 1 rfl) ?_
          refine lv_aload_n hx hb dX12_end_5 rfl (lv_at hl 0 rfl) ?_
          refine x_get (ci := 12) (C := RX12) (T := TX12) (N := 31) (v := .int (t.1 0)) B h hin12 0 1 rfl rfl (by decide) (by decide +kernel) rfl dX12_end_6 ?_
          refine lv_icmp_le (tgt := 14) hx hb dX12_end_9 (by decide) (fun c_2 => ?_) (fun c_2 => ?_)
          · have hR := hR.1 c_2
            refine lv_aload_n hx hb dX12_end_14 rfl (lv_at hl 0 rfl) ?_
            refine lv_iload_n hx hb dX12_end_15 rfl (lv_at hl 1 rfl) ?_
            refine x_put (ci := 12) (C := RX12) (T := TX12) (N := 31) (v := .int (li 1)) (ty := .int) B h hin12 tyX12 tyX12_ok nmX12 0 1 rfl rfl (by decide) (by decide +kernel) rfl rfl rfl rfl (Nat.le_of_ble_eq_true rfl) dX12_end_16 (fun H locs h => ?_)
            obtain ⟨t_3, et_3⟩ : ∃ v : XT, v = sI t 0 (li 1) := ⟨_, rfl⟩
            have hR := hR t_3 et_3
            have h : Hp D A s.heap (wM cI cJ cB cZ bd t_3) H locs := by rw [et_3]; exact h
            refine lv_iload_n hx hb dX12_end_19 rfl (lv_at hl 1 rfl) ?_
            exact x_iret (w1 := (fun u : XT => (wM cI cJ cB cZ bd u))) t_3 B h hr rfl hR dX12_end_20
          · have hR := hR.2 c_2
            exact ih.2 t li lj H locs ls hR (lv_sub hl [0, 1] rfl) h
      · intro t li lj H locs ls hR hl h
        have hR : wbX12_end_1 (wpX12_end k) k t li lj Q := hR
        unfold wbX12_end_1 at hR
        refine lv_iconst (v := (-1)) hx hb dX12_end_12 (by decide) ?_
        exact x_iret (w1 := (fun u : XT => (wM cI cJ cB cZ bd u))) t B h hr rfl hR dX12_end_13
  exact (main k).1 t _ _ s.heap [] ls hR hl h
def wbX12_isRight_0 (rec : Nat → XT → (Nat → Int32) → (Nat → Int64) → (Int32 → XT → Prop) → Prop) (k : Nat) (t : XT) (li : Nat → Int32) (lj : Nat → Int64) (Q : Int32 → XT → Prop) : Prop :=
  ((¬ (t.1 2) = (-1)) → Q 0 t) ∧ (((t.1 2) = (-1)) → Q 1 t)
def wpX12_isRight : Nat → Nat → XT → (Nat → Int32) → (Nat → Int64) → (Int32 → XT → Prop) → Prop
  | 0, _, _, _, _, _ => False
  | k + 1, 0, t, li, lj, Q => wbX12_isRight_0 (wpX12_isRight k) k t li lj Q
  | _ + 1, _, _, _, _, _ => False
def wqX12_isRight (k : Nat) (t : XT)  (Q : Int32 → XT → Prop) : Prop := wpX12_isRight k 0 t (fun _ => 0) (fun _ => 0) Q
set_option maxHeartbeats 8000000 in
set_option maxRecDepth 100000 in
theorem wkX12_isRight (l : Launch) (D : va_G) (cI cJ cB cZ : ClassId) (bd : Nat → Nat) (k : Nat) (t : XT)  (Q : Int32 → XT → Prop) (hR : wqX12_isRight k t  Q) : MetI l yX12_isRight wsX12_isRight 0 0 0 0 D (TYS cI cJ cB cZ) (wM cI cJ cB cZ bd t) [.ref (bd 0)] (fun r u => Q r u) (fun u : XT => (wM cI cJ cB cZ bd u)) := by
  refine x_startI (ty := .boolean) (cc := cX12_isRight) (by decide) rfl (Nat.le_of_ble_eq_true rfl) ?_
  intro p e s m args below meth c A ls B hr hnm h hl
  have hx := B.1.1
  have hb := B.1.2.1
  have hml := B.1.2.2.1
  have hts := B.1.2.2.2.2
  have hown : s.vm.findClass RX12 = some m.cls := B.1.2.2.2.1
  have hin12 : ∀ w ∈ u_ws RX12 TX12 31, w ∈ wsX12_isRight := by decide +kernel
  have main : ∀ k : Nat, (∀ (t : XT) (li : Nat → Int32) (lj : Nat → Int64) (H : Heap) (locs : List Loc) (ls : Array Slot), wpX12_isRight k 0 t li lj Q → lv_has ls 1 [(0, .ref (bd 0))] → Hp D A s.heap (wM cI cJ cB cZ bd t) H locs → W p l e { frames := 0, cells := 0, slots := 0, locals := 0 } s m args below meth c H locs 0 0 (MQ below (va_Qi (fun r u => Q r u) (fun u t => xEnd D ((fun u : XT => (wM cI cJ cB cZ bd u)) u) A t) A) args s 0 0 A) (F0 m 0 ls [])) := by
    intro k
    induction k with
    | zero => exact fun _ _ _ _ _ _ hR => False.elim hR
    | succ k ih =>
      intro t li lj H locs ls hR hl h
      have hR : wbX12_isRight_0 (wpX12_isRight k) k t li lj Q := hR
      unfold wbX12_isRight_0 at hR
      refine lv_aload_n hx hb dX12_isRight_0 rfl (lv_at hl 0 rfl) ?_
      refine x_get (ci := 12) (C := RX12) (T := TX12) (N := 31) (v := .int (t.1 2)) B h hin12 0 3 rfl rfl (by decide) (by decide +kernel) rfl dX12_isRight_1 ?_
      refine lv_iconst (v := (-1)) hx hb dX12_isRight_4 (by decide) ?_
      refine lv_icmp_ne (tgt := 12) hx hb dX12_isRight_5 (by decide) (fun c_1 => ?_) (fun c_1 => ?_)
      · have hR := hR.1 c_1
        refine lv_iconst (v := 0) hx hb dX12_isRight_12 (by decide) ?_
        exact x_iret (w1 := (fun u : XT => (wM cI cJ cB cZ bd u))) t B h hr rfl hR dX12_isRight_13
      · have hR := hR.2 c_1
        refine lv_iconst (v := 1) hx hb dX12_isRight_8 (by decide) ?_
        refine lv_goto (tgt := 13) hx hb dX12_isRight_9 (by decide) ?_
        exact x_iret (w1 := (fun u : XT => (wM cI cJ cB cZ bd u))) t B h hr rfl hR dX12_isRight_13
  exact (main k) t _ _ s.heap [] ls hR hl h
def wbX12_byteNow_0 (rec : Nat → XT → (Nat → Int32) → (Nat → Int64) → (Int32 → XT → Prop) → Prop) (k : Nat) (t : XT) (li : Nat → Int32) (lj : Nat → Int64) (Q : Int32 → XT → Prop) : Prop :=
  ((((t.1 0) : Int32) ≤ (t.1 1)) → Q (-1) t) ∧ (¬ (((t.1 0) : Int32) ≤ (t.1 1)) → (vp_in (t.1 1) 160 ∧ (∀ v_2 : Int32, v_2 = (t.2.2.1 0) (t.1 1).toNatClampNeg → (∀ v_3 : Int32, v_3 = (v_2 &&& 255) → Q v_3 t))))
def wpX12_byteNow : Nat → Nat → XT → (Nat → Int32) → (Nat → Int64) → (Int32 → XT → Prop) → Prop
  | 0, _, _, _, _, _ => False
  | k + 1, 0, t, li, lj, Q => wbX12_byteNow_0 (wpX12_byteNow k) k t li lj Q
  | _ + 1, _, _, _, _, _ => False
def wqX12_byteNow (k : Nat) (t : XT)  (Q : Int32 → XT → Prop) : Prop := wpX12_byteNow k 0 t (fun _ => 0) (fun _ => 0) Q
set_option maxHeartbeats 8000000 in
set_option maxRecDepth 100000 in
theorem wkX12_byteNow (l : Launch) (D : va_G) (cI cJ cB cZ : ClassId) (bd : Nat → Nat) (k : Nat) (t : XT)  (Q : Int32 → XT → Prop) (hR : wqX12_byteNow k t  Q) : MetI l yX12_byteNow wsX12_byteNow 0 0 0 0 D (TYS cI cJ cB cZ) (wM cI cJ cB cZ bd t) [.ref (bd 0)] (fun r u => Q r u) (fun u : XT => (wM cI cJ cB cZ bd u)) := by
  refine x_startI (ty := .int) (cc := cX12_byteNow) (by decide) rfl (Nat.le_of_ble_eq_true rfl) ?_
  intro p e s m args below meth c A ls B hr hnm h hl
  have hx := B.1.1
  have hb := B.1.2.1
  have hml := B.1.2.2.1
  have hts := B.1.2.2.2.2
  have hown : s.vm.findClass RX12 = some m.cls := B.1.2.2.2.1
  have hin12 : ∀ w ∈ u_ws RX12 TX12 31, w ∈ wsX12_byteNow := by decide +kernel
  have main : ∀ k : Nat, (∀ (t : XT) (li : Nat → Int32) (lj : Nat → Int64) (H : Heap) (locs : List Loc) (ls : Array Slot), wpX12_byteNow k 0 t li lj Q → lv_has ls 1 [(0, .ref (bd 0))] → Hp D A s.heap (wM cI cJ cB cZ bd t) H locs → W p l e { frames := 0, cells := 0, slots := 0, locals := 0 } s m args below meth c H locs 0 0 (MQ below (va_Qi (fun r u => Q r u) (fun u t => xEnd D ((fun u : XT => (wM cI cJ cB cZ bd u)) u) A t) A) args s 0 0 A) (F0 m 0 ls [])) := by
    intro k
    induction k with
    | zero => exact fun _ _ _ _ _ _ hR => False.elim hR
    | succ k ih =>
      intro t li lj H locs ls hR hl h
      have hR : wbX12_byteNow_0 (wpX12_byteNow k) k t li lj Q := hR
      unfold wbX12_byteNow_0 at hR
      refine lv_aload_n hx hb dX12_byteNow_0 rfl (lv_at hl 0 rfl) ?_
      refine x_get (ci := 12) (C := RX12) (T := TX12) (N := 31) (v := .int (t.1 1)) B h hin12 0 2 rfl rfl (by decide) (by decide +kernel) rfl dX12_byteNow_1 ?_
      refine lv_aload_n hx hb dX12_byteNow_4 rfl (lv_at hl 0 rfl) ?_
      refine x_get (ci := 12) (C := RX12) (T := TX12) (N := 31) (v := .int (t.1 0)) B h hin12 0 1 rfl rfl (by decide) (by decide +kernel) rfl dX12_byteNow_5 ?_
      refine lv_icmp_ge (tgt := 27) hx hb dX12_byteNow_8 (by decide) (fun c_1 => ?_) (fun c_1 => ?_)
      · have hR := hR.1 c_1
        refine lv_iconst (v := (-1)) hx hb dX12_byteNow_27 (by decide) ?_
        exact x_iret (w1 := (fun u : XT => (wM cI cJ cB cZ bd u))) t B h hr rfl hR dX12_byteNow_28
      · have hR := hR.2 c_1
        refine lv_aload_n hx hb dX12_byteNow_11 rfl (lv_at hl 0 rfl) ?_
        refine x_get (ci := 12) (C := RX12) (T := TX12) (N := 31) (v := .ref (bd 1)) B h hin12 0 0 rfl rfl (by decide) (by decide +kernel) rfl dX12_byteNow_12 ?_
        refine lv_aload_n hx hb dX12_byteNow_15 rfl (lv_at hl 0 rfl) ?_
        refine x_get (ci := 12) (C := RX12) (T := TX12) (N := 31) (v := .int (t.1 1)) B h hin12 0 2 rfl rfl (by decide) (by decide +kernel) rfl dX12_byteNow_16 ?_
        obtain ⟨hb_2, hR⟩ := hR
        refine va_bald (f := (t.2.2.1 0)) hx hb B.2.1 h.1 1 2 rfl rfl hb_2 dX12_byteNow_19 ?_
        refine lv_topi (fun v_2 ev_2 => ?_)
        have hR := hR v_2 ev_2
        refine lv_sipush (v := 255) hx hb dX12_byteNow_20 (by decide) ?_
        refine lv_iand hx hb dX12_byteNow_23 ?_
        refine lv_topi (fun v_3 ev_3 => ?_)
        have hR := hR v_3 ev_3
        refine lv_goto (tgt := 28) hx hb dX12_byteNow_24 (by decide) ?_
        exact x_iret (w1 := (fun u : XT => (wM cI cJ cB cZ bd u))) t B h hr rfl hR dX12_byteNow_28
  exact (main k) t _ _ s.heap [] ls hR hl h
def wbX12_fails_0 (rec : Nat → XT → (Nat → Int32) → (Nat → Int64) → (XT → Prop) → Prop) (k : Nat) (t : XT) (li : Nat → Int32) (lj : Nat → Int64) (Q : XT → Prop) : Prop :=
  ((¬ (t.1 2) = (-1)) → Q t) ∧ (((t.1 2) = (-1)) → (∀ v_2 : Int32, v_2 = (8 * (li 2)) → (∀ v_3 : Int32, v_3 = (v_2 + (li 1)) → (∀ t_4 : XT, t_4 = sI t 2 v_3 → Q t_4))))
def wpX12_fails : Nat → Nat → XT → (Nat → Int32) → (Nat → Int64) → (XT → Prop) → Prop
  | 0, _, _, _, _, _ => False
  | k + 1, 0, t, li, lj, Q => wbX12_fails_0 (wpX12_fails k) k t li lj Q
  | _ + 1, _, _, _, _, _ => False
def wqX12_fails (k : Nat) (t : XT) (a1 : Int32) (a2 : Int32) (Q : XT → Prop) : Prop := wpX12_fails k 0 t (uI (uI (fun _ => 0) 1 a1) 2 a2) (fun _ => 0) Q
set_option maxHeartbeats 8000000 in
set_option maxRecDepth 100000 in
theorem wkX12_fails (l : Launch) (D : va_G) (cI cJ cB cZ : ClassId) (bd : Nat → Nat) (k : Nat) (t : XT) (a1 : Int32) (a2 : Int32) (Q : XT → Prop) (hR : wqX12_fails k t a1 a2 Q) : MetV l yX12_fails wsX12_fails 0 0 0 0 D (TYS cI cJ cB cZ) (wM cI cJ cB cZ bd t) [.ref (bd 0), .int a1, .int a2] (fun u => Q u) (fun u : XT => (wM cI cJ cB cZ bd u)) := by
  refine x_startV (ty := .int) (cc := cX12_fails) (by decide) rfl (Nat.le_of_ble_eq_true rfl) ?_
  intro p e s m args below meth c A ls B hr hnm h hl
  have hx := B.1.1
  have hb := B.1.2.1
  have hml := B.1.2.2.1
  have hts := B.1.2.2.2.2
  have hown : s.vm.findClass RX12 = some m.cls := B.1.2.2.2.1
  have hin12 : ∀ w ∈ u_ws RX12 TX12 31, w ∈ wsX12_fails := by decide +kernel
  have main : ∀ k : Nat, (∀ (t : XT) (li : Nat → Int32) (lj : Nat → Int64) (H : Heap) (locs : List Loc) (ls : Array Slot), wpX12_fails k 0 t li lj Q → lv_has ls 3 [(0, .ref (bd 0)), (1, .int (li 1)), (2, .int (li 2))] → Hp D A s.heap (wM cI cJ cB cZ bd t) H locs → W p l e { frames := 0, cells := 0, slots := 0, locals := 0 } s m args below meth c H locs 0 0 (MQ below (va_Qv (fun u => Q u) (fun u t => xEnd D ((fun u : XT => (wM cI cJ cB cZ bd u)) u) A t) A) args s 0 0 A) (F0 m 0 ls [])) := by
    intro k
    induction k with
    | zero => exact fun _ _ _ _ _ _ hR => False.elim hR
    | succ k ih =>
      intro t li lj H locs ls hR hl h
      have hR : wbX12_fails_0 (wpX12_fails k) k t li lj Q := hR
      unfold wbX12_fails_0 at hR
      refine lv_aload_n hx hb dX12_fails_0 rfl (lv_at hl 0 rfl) ?_
      refine x_get (ci := 12) (C := RX12) (T := TX12) (N := 31) (v := .int (t.1 2)) B h hin12 0 3 rfl rfl (by decide) (by decide +kernel) rfl dX12_fails_1 ?_
      refine lv_iconst (v := (-1)) hx hb dX12_fails_4 (by decide) ?_
      refine lv_icmp_ne (tgt := 18) hx hb dX12_fails_5 (by decide) (fun c_1 => ?_) (fun c_1 => ?_)
      · have hR := hR.1 c_1
        exact x_vret (w1 := (fun u : XT => (wM cI cJ cB cZ bd u))) t B h hr hR dX12_fails_18
      · have hR := hR.2 c_1
        refine lv_aload_n hx hb dX12_fails_8 rfl (lv_at hl 0 rfl) ?_
        refine lv_bipush (v := 8) hx hb dX12_fails_9 (by decide) ?_
        refine lv_iload_n hx hb dX12_fails_11 rfl (lv_at hl 2 rfl) ?_
        refine lv_imul hx hb dX12_fails_12 ?_
        refine lv_topi (fun v_2 ev_2 => ?_)
        have hR := hR v_2 ev_2
        refine lv_iload_n hx hb dX12_fails_13 rfl (lv_at hl 1 rfl) ?_
        refine lv_iadd hx hb dX12_fails_14 ?_
        refine lv_topi (fun v_3 ev_3 => ?_)
        have hR := hR v_3 ev_3
        refine x_put (ci := 12) (C := RX12) (T := TX12) (N := 31) (v := .int v_3) (ty := .int) B h hin12 tyX12 tyX12_ok nmX12 0 3 rfl rfl (by decide) (by decide +kernel) rfl rfl rfl rfl (Nat.le_of_ble_eq_true rfl) dX12_fails_15 (fun H locs h => ?_)
        obtain ⟨t_4, et_4⟩ : ∃ v : XT, v = sI t 2 v_3 := ⟨_, rfl⟩
        have hR := hR t_4 et_4
        have h : Hp D A s.heap (wM cI cJ cB cZ bd t_4) H locs := by rw [et_4]; exact h
        exact x_vret (w1 := (fun u : XT => (wM cI cJ cB cZ bd u))) t_4 B h hr hR dX12_fails_18
  exact (main k) t _ _ s.heap [] ls hR hl h
set_option maxRecDepth 20000 in
theorem ggX12_blanks_X12_byteNow : GoodIn wsX12_blanks wsX12_byteNow := goodIn_r _ [6, 1, 7, 8, 9, 10, 11, 12, 13, 14, 15, 16, 17, 18, 19, 20, 21, 22, 23, 24, 25, 26, 27, 28, 29, 30, 31, 32, 33, 34, 35, 36, 37, 38, 39] (by decide +kernel) (by decide +kernel)
set_option maxRecDepth 20000 in
theorem gX12_blanks_X12_byteNow : GoodIn wsX12_blanks (wsV RX12 94 RX12 yX12_byteNow wsX12_byteNow) := goodIn_app (goodIn_of _ (by decide +kernel)) ggX12_blanks_X12_byteNow
def wbX12_blanks_0 (rec : Nat → XT → (Nat → Int32) → (Nat → Int64) → (XT → Prop) → Prop) (k : Nat) (t : XT) (li : Nat → Int32) (lj : Nat → Int64) (Q : XT → Prop) : Prop :=
  (wqX12_byteNow k t  (fun r_1 t_1 => ((¬ r_1 = 32) → Q t_1) ∧ ((r_1 = 32) → (∀ v_3 : Int32, v_3 = ((t_1.1 1) + 1) → (∀ t_4 : XT, t_4 = sI t_1 1 v_3 → rec 0 t_4 li lj Q)))))
def wpX12_blanks : Nat → Nat → XT → (Nat → Int32) → (Nat → Int64) → (XT → Prop) → Prop
  | 0, _, _, _, _, _ => False
  | k + 1, 0, t, li, lj, Q => wbX12_blanks_0 (wpX12_blanks k) k t li lj Q
  | _ + 1, _, _, _, _, _ => False
def wqX12_blanks (k : Nat) (t : XT)  (Q : XT → Prop) : Prop := wpX12_blanks k 0 t (fun _ => 0) (fun _ => 0) Q
set_option maxHeartbeats 8000000 in
set_option maxRecDepth 100000 in
theorem wkX12_blanks (l : Launch) (D : va_G) (cI cJ cB cZ : ClassId) (bd : Nat → Nat) (k : Nat) (t : XT)  (Q : XT → Prop) (hR : wqX12_blanks k t  Q) : MetV l yX12_blanks wsX12_blanks 1 20 0 0 D (TYS cI cJ cB cZ) (wM cI cJ cB cZ bd t) [.ref (bd 0)] (fun u => Q u) (fun u : XT => (wM cI cJ cB cZ bd u)) := by
  refine x_startV (ty := .int) (cc := cX12_blanks) (by decide) rfl (Nat.le_of_ble_eq_true rfl) ?_
  intro p e s m args below meth c A ls B hr hnm h hl
  have hx := B.1.1
  have hb := B.1.2.1
  have hml := B.1.2.2.1
  have hts := B.1.2.2.2.2
  have hown : s.vm.findClass RX12 = some m.cls := B.1.2.2.2.1
  have hin12 : ∀ w ∈ u_ws RX12 TX12 31, w ∈ wsX12_blanks := by decide +kernel
  have main : ∀ k : Nat, (∀ (t : XT) (li : Nat → Int32) (lj : Nat → Int64) (H : Heap) (locs : List Loc) (ls : Array Slot), wpX12_blanks k 0 t li lj Q → lv_has ls 1 [(0, .ref (bd 0))] → Hp D A s.heap (wM cI cJ cB cZ bd t) H locs → W p l e { frames := 1, cells := 0, slots := 0, locals := 20 } s m args below meth c H locs 0 0 (MQ below (va_Qv (fun u => Q u) (fun u t => xEnd D ((fun u : XT => (wM cI cJ cB cZ bd u)) u) A t) A) args s 0 0 A) (F0 m 0 ls [])) := by
    intro k
    induction k with
    | zero => exact fun _ _ _ _ _ _ hR => False.elim hR
    | succ k ih =>
      intro t li lj H locs ls hR hl h
      have hR : wbX12_blanks_0 (wpX12_blanks k) k t li lj Q := hR
      unfold wbX12_blanks_0 at hR
      refine lv_aload_n hx hb dX12_blanks_0 rfl (lv_at hl 0 rfl) ?_
      refine x_cVIF (n := 0) (As := []) (rest := []) B h (wkX12_byteNow l D cI cJ cB cZ bd k t  _ hR) ⟨⟨_, rfl⟩, by decide +kernel, Nat.le_of_ble_eq_true rfl, Nat.le_of_ble_eq_true rfl⟩ gX12_blanks_X12_byteNow (show ((wM cI cJ cB cZ bd t) : va_W)[0]? = some (_, .inr (12, _)) from rfl) rfl rfl hl.1 rfl (Nat.le_of_ble_eq_true rfl) dX12_blanks_1 ⟨Nat.le_of_ble_eq_true rfl, Nat.le_of_ble_eq_true rfl⟩ (fun r_1 t_1 H locs hR h => ?_)
      refine lv_bipush (v := 32) hx hb dX12_blanks_4 (by decide) ?_
      refine lv_icmp_ne (tgt := 22) hx hb dX12_blanks_6 (by decide) (fun c_2 => ?_) (fun c_2 => ?_)
      · have hR := hR.1 c_2
        exact x_vret (w1 := (fun u : XT => (wM cI cJ cB cZ bd u))) t_1 B h hr hR dX12_blanks_22
      · have hR := hR.2 c_2
        refine lv_aload_n hx hb dX12_blanks_9 rfl (lv_at hl 0 rfl) ?_
        refine lv_dup hx hb dX12_blanks_10 rfl ?_
        refine x_get (ci := 12) (C := RX12) (T := TX12) (N := 31) (v := .int (t_1.1 1)) B h hin12 0 2 rfl rfl (by decide) (by decide +kernel) rfl dX12_blanks_11 ?_
        refine lv_iconst (v := 1) hx hb dX12_blanks_14 (by decide) ?_
        refine lv_iadd hx hb dX12_blanks_15 ?_
        refine lv_topi (fun v_3 ev_3 => ?_)
        have hR := hR v_3 ev_3
        refine x_put (ci := 12) (C := RX12) (T := TX12) (N := 31) (v := .int v_3) (ty := .int) B h hin12 tyX12 tyX12_ok nmX12 0 2 rfl rfl (by decide) (by decide +kernel) rfl rfl rfl rfl (Nat.le_of_ble_eq_true rfl) dX12_blanks_16 (fun H locs h => ?_)
        obtain ⟨t_4, et_4⟩ : ∃ v : XT, v = sI t_1 1 v_3 := ⟨_, rfl⟩
        have hR := hR t_4 et_4
        have h : Hp D A s.heap (wM cI cJ cB cZ bd t_4) H locs := by rw [et_4]; exact h
        refine lv_goto (tgt := 0) hx hb dX12_blanks_19 (by decide) ?_
        exact ih t_4 li lj H locs ls hR (lv_sub hl [0] rfl) h
  exact (main k) t _ _ s.heap [] ls hR hl h
def wbX12_in_0 (rec : Nat → (Nat → Int32) → (Nat → Int64) → (Int32 → Prop) → Prop) (k : Nat) (li : Nat → Int32) (lj : Nat → Int64) (Q : Int32 → Prop) : Prop :=
  (((li 0) < (li 1)) → rec 1 li lj Q) ∧ (¬ ((li 0) < (li 1)) → ((((li 2) : Int32) < (li 0)) → rec 1 li lj Q) ∧ (¬ (((li 2) : Int32) < (li 0)) → Q 1))
def wbX12_in_1 (rec : Nat → (Nat → Int32) → (Nat → Int64) → (Int32 → Prop) → Prop) (k : Nat) (li : Nat → Int32) (lj : Nat → Int64) (Q : Int32 → Prop) : Prop :=
  Q 0
def wpX12_in : Nat → Nat → (Nat → Int32) → (Nat → Int64) → (Int32 → Prop) → Prop
  | 0, _, _, _, _ => False
  | k + 1, 0, li, lj, Q => wbX12_in_0 (wpX12_in k) k li lj Q
  | k + 1, 1, li, lj, Q => wbX12_in_1 (wpX12_in k) k li lj Q
  | _ + 1, _, _, _, _ => False
def wqX12_in (k : Nat) (a0 : Int32) (a1 : Int32) (a2 : Int32) (Q : Int32 → Prop) : Prop := wpX12_in k 0 (uI (uI (uI (fun _ => 0) 0 a0) 1 a1) 2 a2) (fun _ => 0) Q
set_option maxHeartbeats 8000000 in
set_option maxRecDepth 100000 in
theorem wkX12_in (l : Launch) (D : va_G) (cI cJ cB cZ : ClassId) (ad : Nat → Nat) (k : Nat) (a0 : Int32) (a1 : Int32) (a2 : Int32) (Q : Int32 → Prop) (hR : wqX12_in k a0 a1 a2 Q) : MetI l yX12_in wsX12_in 0 0 0 0 D (TYS cI cJ cB cZ) [] [.int a0, .int a1, .int a2] (fun r _ => Q r) (fun _ : Unit => []) := by
  refine x_startI (ty := .boolean) (cc := cX12_in) (by decide) rfl (Nat.le_of_ble_eq_true rfl) ?_
  intro p e s m args below meth c A ls B hr hnm h hl
  have hx := B.1.1
  have hb := B.1.2.1
  have hml := B.1.2.2.1
  have hts := B.1.2.2.2.2
  have hown : s.vm.findClass RX12 = some m.cls := B.1.2.2.2.1
  have main : ∀ k : Nat, (∀ (li : Nat → Int32) (lj : Nat → Int64) (H : Heap) (locs : List Loc) (ls : Array Slot), wpX12_in k 0 li lj Q → lv_has ls 3 [(0, .int (li 0)), (1, .int (li 1)), (2, .int (li 2))] → Hp D A s.heap [] H locs → W p l e { frames := 0, cells := 0, slots := 0, locals := 0 } s m args below meth c H locs 0 0 (MQ below (va_Qi (fun r _ => Q r) (fun u t => xEnd D ((fun _ : Unit => []) u) A t) A) args s 0 0 A) (F0 m 0 ls [])) ∧
      (∀ (li : Nat → Int32) (lj : Nat → Int64) (H : Heap) (locs : List Loc) (ls : Array Slot), wpX12_in k 1 li lj Q → lv_has ls 3 [(0, .int (li 0)), (1, .int (li 1)), (2, .int (li 2))] → Hp D A s.heap [] H locs → W p l e { frames := 0, cells := 0, slots := 0, locals := 0 } s m args below meth c H locs 0 0 (MQ below (va_Qi (fun r _ => Q r) (fun u t => xEnd D ((fun _ : Unit => []) u) A t) A) args s 0 0 A) (F0 m 14 ls [])) := by
    intro k
    induction k with
    | zero => exact ⟨fun _ _ _ _ _ hR => False.elim hR, fun _ _ _ _ _ hR => False.elim hR⟩
    | succ k ih =>
      refine ⟨?_, ?_⟩
      · intro li lj H locs ls hR hl h
        have hR : wbX12_in_0 (wpX12_in k) k li lj Q := hR
        unfold wbX12_in_0 at hR
        refine lv_iload_n hx hb dX12_in_0 rfl (lv_at hl 0 rfl) ?_
        refine lv_iload_n hx hb dX12_in_1 rfl (lv_at hl 1 rfl) ?_
        refine lv_icmp_lt (tgt := 14) hx hb dX12_in_2 (by decide) (fun c_1 => ?_) (fun c_1 => ?_)
        · have hR := hR.1 c_1
          exact ih.2 li lj H locs ls hR (lv_sub hl [0, 1, 2] rfl) h
        · have hR := hR.2 c_1
          refine lv_iload_n hx hb dX12_in_5 rfl (lv_at hl 0 rfl) ?_
          refine lv_iload_n hx hb dX12_in_6 rfl (lv_at hl 2 rfl) ?_
          refine lv_icmp_gt (tgt := 14) hx hb dX12_in_7 (by decide) (fun c_2 => ?_) (fun c_2 => ?_)
          · have hR := hR.1 c_2
            exact ih.2 li lj H locs ls hR (lv_sub hl [0, 1, 2] rfl) h
          · have hR := hR.2 c_2
            refine lv_iconst (v := 1) hx hb dX12_in_10 (by decide) ?_
            refine lv_goto (tgt := 15) hx hb dX12_in_11 (by decide) ?_
            exact x_iret (w1 := (fun _ : Unit => [])) () B h hr rfl hR dX12_in_15
      · intro li lj H locs ls hR hl h
        have hR : wbX12_in_1 (wpX12_in k) k li lj Q := hR
        unfold wbX12_in_1 at hR
        refine lv_iconst (v := 0) hx hb dX12_in_14 (by decide) ?_
        exact x_iret (w1 := (fun _ : Unit => [])) () B h hr rfl hR dX12_in_15
  exact (main k).1 _ _ s.heap [] ls hR hl h
set_option maxRecDepth 20000 in
theorem ggX12_isLetter_X12_byteNow : GoodIn wsX12_isLetter wsX12_byteNow := goodIn_r _ [5, 6, 7, 8, 12, 13, 14, 15, 16, 17, 18, 19, 20, 21, 22, 23, 24, 25, 26, 27, 28, 29, 30, 31, 32, 33, 34, 35, 36, 37, 38, 39, 40, 41, 42] (by decide +kernel) (by decide +kernel)
set_option maxRecDepth 20000 in
theorem gX12_isLetter_X12_byteNow : GoodIn wsX12_isLetter (wsV RX12 94 RX12 yX12_byteNow wsX12_byteNow) := goodIn_app (goodIn_of _ (by decide +kernel)) ggX12_isLetter_X12_byteNow
set_option maxRecDepth 20000 in
theorem ggX12_isLetter_X12_in : GoodIn wsX12_isLetter wsX12_in := goodIn_r _ [11] (by decide +kernel) (by decide +kernel)
set_option maxRecDepth 20000 in
theorem gX12_isLetter_X12_in : GoodIn wsX12_isLetter (va_wsS RX12 101 yX12_in wsX12_in) := goodIn_app (goodIn_of _ (by decide +kernel)) ggX12_isLetter_X12_in
def wbX12_isLetter_0 (rec : Nat → XT → (Nat → Int32) → (Nat → Int64) → (Int32 → XT → Prop) → Prop) (k : Nat) (t : XT) (li : Nat → Int32) (lj : Nat → Int64) (Q : Int32 → XT → Prop) : Prop :=
  (wqX12_byteNow k t  (fun r_1 t_1 => (wqX12_in k r_1 97 104 (fun r_2 => ((r_2 = 0 ∨ r_2 = 1) ∧ Q r_2 t_1)))))
def wpX12_isLetter : Nat → Nat → XT → (Nat → Int32) → (Nat → Int64) → (Int32 → XT → Prop) → Prop
  | 0, _, _, _, _, _ => False
  | k + 1, 0, t, li, lj, Q => wbX12_isLetter_0 (wpX12_isLetter k) k t li lj Q
  | _ + 1, _, _, _, _, _ => False
def wqX12_isLetter (k : Nat) (t : XT)  (Q : Int32 → XT → Prop) : Prop := wpX12_isLetter k 0 t (fun _ => 0) (fun _ => 0) Q
set_option maxHeartbeats 8000000 in
set_option maxRecDepth 100000 in
theorem wkX12_isLetter (l : Launch) (D : va_G) (cI cJ cB cZ : ClassId) (bd : Nat → Nat) (k : Nat) (t : XT)  (Q : Int32 → XT → Prop) (hR : wqX12_isLetter k t  Q) : MetI l yX12_isLetter wsX12_isLetter 1 22 0 0 D (TYS cI cJ cB cZ) (wM cI cJ cB cZ bd t) [.ref (bd 0)] (fun r u => Q r u) (fun u : XT => (wM cI cJ cB cZ bd u)) := by
  refine x_startI (ty := .boolean) (cc := cX12_isLetter) (by decide) rfl (Nat.le_of_ble_eq_true rfl) ?_
  intro p e s m args below meth c A ls B hr hnm h hl
  have hx := B.1.1
  have hb := B.1.2.1
  have hml := B.1.2.2.1
  have hts := B.1.2.2.2.2
  have hown : s.vm.findClass RX12 = some m.cls := B.1.2.2.2.1
  have main : ∀ k : Nat, (∀ (t : XT) (li : Nat → Int32) (lj : Nat → Int64) (H : Heap) (locs : List Loc) (ls : Array Slot), wpX12_isLetter k 0 t li lj Q → lv_has ls 1 [(0, .ref (bd 0))] → Hp D A s.heap (wM cI cJ cB cZ bd t) H locs → W p l e { frames := 1, cells := 0, slots := 0, locals := 22 } s m args below meth c H locs 0 0 (MQ below (va_Qi (fun r u => Q r u) (fun u t => xEnd D ((fun u : XT => (wM cI cJ cB cZ bd u)) u) A t) A) args s 0 0 A) (F0 m 0 ls [])) := by
    intro k
    induction k with
    | zero => exact fun _ _ _ _ _ _ hR => False.elim hR
    | succ k ih =>
      intro t li lj H locs ls hR hl h
      have hR : wbX12_isLetter_0 (wpX12_isLetter k) k t li lj Q := hR
      unfold wbX12_isLetter_0 at hR
      refine lv_aload_n hx hb dX12_isLetter_0 rfl (lv_at hl 0 rfl) ?_
      refine x_cVIF (n := 0) (As := []) (rest := []) B h (wkX12_byteNow l D cI cJ cB cZ bd k t  _ hR) ⟨⟨_, rfl⟩, by decide +kernel, Nat.le_of_ble_eq_true rfl, Nat.le_of_ble_eq_true rfl⟩ gX12_isLetter_X12_byteNow (show ((wM cI cJ cB cZ bd t) : va_W)[0]? = some (_, .inr (12, _)) from rfl) rfl rfl hl.1 rfl (Nat.le_of_ble_eq_true rfl) dX12_isLetter_1 ⟨Nat.le_of_ble_eq_true rfl, Nat.le_of_ble_eq_true rfl⟩ (fun r_1 t_1 H locs hR h => ?_)
      refine lv_bipush (v := 97) hx hb dX12_isLetter_4 (by decide) ?_
      refine lv_bipush (v := 104) hx hb dX12_isLetter_6 (by decide) ?_
      refine x_cSIE (n := 3) (As := [.int r_1, .int 97, .int 104]) (rest := []) B h (wkX12_in l D cI cJ cB cZ bd k r_1 97 104 _ hR) ⟨⟨_, rfl⟩, by decide +kernel, Nat.le_of_ble_eq_true rfl, Nat.le_of_ble_eq_true rfl⟩ gX12_isLetter_X12_in rfl hl.1 rfl (Nat.le_of_ble_eq_true rfl) dX12_isLetter_8 ⟨Nat.le_of_ble_eq_true rfl, Nat.le_of_ble_eq_true rfl⟩ (fun r_2 _ H locs hR h => ?_)
      obtain ⟨hz_3, hR⟩ := hR
      exact x_iret (w1 := (fun u : XT => (wM cI cJ cB cZ bd u))) t_1 B h hr (by rcases hz_3 with h_ | h_ <;> rw [h_] <;> rfl) hR dX12_isLetter_11
  exact (main k) t _ _ s.heap [] ls hR hl h
def wbJ6_bitCount_0f7a4_0 (rec : Nat → (Nat → Int32) → (Nat → Int64) → (Int32 → Prop) → Prop) (k : Nat) (li : Nat → Int32) (lj : Nat → Int64) (Q : Int32 → Prop) : Prop :=
  (∀ v_1 : Int32, v_1 = ((li 0).toUInt32 >>> ((1 : Int32).toUInt32 &&& Int32.toUInt32 31)).toInt32 → (∀ v_2 : Int32, v_2 = (v_1 &&& 1431655765) → (∀ v_3 : Int32, v_3 = ((li 0) - v_2) → (∀ v_4 : Int32, v_4 = (v_3 &&& 858993459) → (∀ v_5 : Int32, v_5 = (v_3.toUInt32 >>> ((2 : Int32).toUInt32 &&& Int32.toUInt32 31)).toInt32 → (∀ v_6 : Int32, v_6 = (v_5 &&& 858993459) → (∀ v_7 : Int32, v_7 = (v_4 + v_6) → (∀ v_8 : Int32, v_8 = (v_7.toUInt32 >>> ((4 : Int32).toUInt32 &&& Int32.toUInt32 31)).toInt32 → (∀ v_9 : Int32, v_9 = (v_7 + v_8) → (∀ v_10 : Int32, v_10 = (v_9 &&& 252645135) → (∀ v_11 : Int32, v_11 = (v_10.toUInt32 >>> ((8 : Int32).toUInt32 &&& Int32.toUInt32 31)).toInt32 → (∀ v_12 : Int32, v_12 = (v_10 + v_11) → (∀ v_13 : Int32, v_13 = (v_12.toUInt32 >>> ((16 : Int32).toUInt32 &&& Int32.toUInt32 31)).toInt32 → (∀ v_14 : Int32, v_14 = (v_12 + v_13) → (∀ v_15 : Int32, v_15 = (v_14 &&& 63) → Q v_15)))))))))))))))
def wpJ6_bitCount_0f7a4 : Nat → Nat → (Nat → Int32) → (Nat → Int64) → (Int32 → Prop) → Prop
  | 0, _, _, _, _ => False
  | k + 1, 0, li, lj, Q => wbJ6_bitCount_0f7a4_0 (wpJ6_bitCount_0f7a4 k) k li lj Q
  | _ + 1, _, _, _, _ => False
def wqJ6_bitCount_0f7a4 (k : Nat) (a0 : Int32) (Q : Int32 → Prop) : Prop := wpJ6_bitCount_0f7a4 k 0 (uI (fun _ => 0) 0 a0) (fun _ => 0) Q
set_option maxHeartbeats 8000000 in
set_option maxRecDepth 100000 in
theorem wkJ6_bitCount_0f7a4 (l : Launch) (D : va_G) (cI cJ cB cZ : ClassId) (ad : Nat → Nat) (k : Nat) (a0 : Int32) (Q : Int32 → Prop) (hR : wqJ6_bitCount_0f7a4 k a0 Q) : MetI l yJ6_bitCount_0f7a4 wsJ6_bitCount_0f7a4 0 0 0 0 D (TYS cI cJ cB cZ) [] [.int a0] (fun r _ => Q r) (fun _ : Unit => []) := by
  refine x_startI (ty := .int) (cc := cJ6_bitCount_0f7a4) (by decide) rfl (Nat.le_of_ble_eq_true rfl) ?_
  intro p e s m args below meth c A ls B hr hnm h hl
  have hx := B.1.1
  have hb := B.1.2.1
  have hml := B.1.2.2.1
  have hts := B.1.2.2.2.2
  have hown : s.vm.findClass RJ6 = some m.cls := B.1.2.2.2.1
  have main : ∀ k : Nat, (∀ (li : Nat → Int32) (lj : Nat → Int64) (H : Heap) (locs : List Loc) (ls : Array Slot), wpJ6_bitCount_0f7a4 k 0 li lj Q → lv_has ls 1 [(0, .int (li 0))] → Hp D A s.heap [] H locs → W p l e { frames := 0, cells := 0, slots := 0, locals := 0 } s m args below meth c H locs 0 0 (MQ below (va_Qi (fun r _ => Q r) (fun u t => xEnd D ((fun _ : Unit => []) u) A t) A) args s 0 0 A) (F0 m 0 ls [])) := by
    intro k
    induction k with
    | zero => exact fun _ _ _ _ _ hR => False.elim hR
    | succ k ih =>
      intro li lj H locs ls hR hl h
      have hR : wbJ6_bitCount_0f7a4_0 (wpJ6_bitCount_0f7a4 k) k li lj Q := hR
      unfold wbJ6_bitCount_0f7a4_0 at hR
      refine lv_iload_n hx hb dJ6_bitCount_0f7a4_0 rfl (lv_at hl 0 rfl) ?_
      refine lv_iload_n hx hb dJ6_bitCount_0f7a4_1 rfl (lv_at hl 0 rfl) ?_
      refine lv_iconst (v := 1) hx hb dJ6_bitCount_0f7a4_2 (by decide) ?_
      obtain ⟨v_1, ev_1⟩ : ∃ v : Int32, v = ((li 0).toUInt32 >>> ((1 : Int32).toUInt32 &&& Int32.toUInt32 31)).toInt32 := ⟨_, rfl⟩
      have hR := hR v_1 ev_1
      refine lv_iushr (v := v_1) hx hb dJ6_bitCount_0f7a4_3 ev_1.symm ?_
      refine lv_ldcw (v := 1431655765) hx hb hown (hts (.constant RJ6 265 1431655765) (by decide +kernel)) dJ6_bitCount_0f7a4_4 ?_
      refine lv_iand hx hb dJ6_bitCount_0f7a4_7 ?_
      refine lv_topi (fun v_2 ev_2 => ?_)
      have hR := hR v_2 ev_2
      refine lv_isub hx hb dJ6_bitCount_0f7a4_8 ?_
      refine lv_topi (fun v_3 ev_3 => ?_)
      have hR := hR v_3 ev_3
      refine lv_istore_n (lv' := [(0, .int v_3)]) hx hb dJ6_bitCount_0f7a4_9 rfl hl (by decide) rfl (fun ls hl => ?_)
      refine lv_iload_n hx hb dJ6_bitCount_0f7a4_10 rfl (lv_at hl 0 rfl) ?_
      refine lv_ldcw (v := 858993459) hx hb hown (hts (.constant RJ6 266 858993459) (by decide +kernel)) dJ6_bitCount_0f7a4_11 ?_
      refine lv_iand hx hb dJ6_bitCount_0f7a4_14 ?_
      refine lv_topi (fun v_4 ev_4 => ?_)
      have hR := hR v_4 ev_4
      refine lv_iload_n hx hb dJ6_bitCount_0f7a4_15 rfl (lv_at hl 0 rfl) ?_
      refine lv_iconst (v := 2) hx hb dJ6_bitCount_0f7a4_16 (by decide) ?_
      obtain ⟨v_5, ev_5⟩ : ∃ v : Int32, v = (v_3.toUInt32 >>> ((2 : Int32).toUInt32 &&& Int32.toUInt32 31)).toInt32 := ⟨_, rfl⟩
      have hR := hR v_5 ev_5
      refine lv_iushr (v := v_5) hx hb dJ6_bitCount_0f7a4_17 ev_5.symm ?_
      refine lv_ldcw (v := 858993459) hx hb hown (hts (.constant RJ6 266 858993459) (by decide +kernel)) dJ6_bitCount_0f7a4_18 ?_
      refine lv_iand hx hb dJ6_bitCount_0f7a4_21 ?_
      refine lv_topi (fun v_6 ev_6 => ?_)
      have hR := hR v_6 ev_6
      refine lv_iadd hx hb dJ6_bitCount_0f7a4_22 ?_
      refine lv_topi (fun v_7 ev_7 => ?_)
      have hR := hR v_7 ev_7
      refine lv_istore_n (lv' := [(0, .int v_7)]) hx hb dJ6_bitCount_0f7a4_23 rfl hl (by decide) rfl (fun ls hl => ?_)
      refine lv_iload_n hx hb dJ6_bitCount_0f7a4_24 rfl (lv_at hl 0 rfl) ?_
      refine lv_iload_n hx hb dJ6_bitCount_0f7a4_25 rfl (lv_at hl 0 rfl) ?_
      refine lv_iconst (v := 4) hx hb dJ6_bitCount_0f7a4_26 (by decide) ?_
      obtain ⟨v_8, ev_8⟩ : ∃ v : Int32, v = (v_7.toUInt32 >>> ((4 : Int32).toUInt32 &&& Int32.toUInt32 31)).toInt32 := ⟨_, rfl⟩
      have hR := hR v_8 ev_8
      refine lv_iushr (v := v_8) hx hb dJ6_bitCount_0f7a4_27 ev_8.symm ?_
      refine lv_iadd hx hb dJ6_bitCount_0f7a4_28 ?_
      refine lv_topi (fun v_9 ev_9 => ?_)
      have hR := hR v_9 ev_9
      refine lv_ldcw (v := 252645135) hx hb hown (hts (.constant RJ6 267 252645135) (by decide +kernel)) dJ6_bitCount_0f7a4_29 ?_
      refine lv_iand hx hb dJ6_bitCount_0f7a4_32 ?_
      refine lv_topi (fun v_10 ev_10 => ?_)
      have hR := hR v_10 ev_10
      refine lv_istore_n (lv' := [(0, .int v_10)]) hx hb dJ6_bitCount_0f7a4_33 rfl hl (by decide) rfl (fun ls hl => ?_)
      refine lv_iload_n hx hb dJ6_bitCount_0f7a4_34 rfl (lv_at hl 0 rfl) ?_
      refine lv_iload_n hx hb dJ6_bitCount_0f7a4_35 rfl (lv_at hl 0 rfl) ?_
      refine lv_bipush (v := 8) hx hb dJ6_bitCount_0f7a4_36 (by decide) ?_
      obtain ⟨v_11, ev_11⟩ : ∃ v : Int32, v = (v_10.toUInt32 >>> ((8 : Int32).toUInt32 &&& Int32.toUInt32 31)).toInt32 := ⟨_, rfl⟩
      have hR := hR v_11 ev_11
      refine lv_iushr (v := v_11) hx hb dJ6_bitCount_0f7a4_38 ev_11.symm ?_
      refine lv_iadd hx hb dJ6_bitCount_0f7a4_39 ?_
      refine lv_topi (fun v_12 ev_12 => ?_)
      have hR := hR v_12 ev_12
      refine lv_istore_n (lv' := [(0, .int v_12)]) hx hb dJ6_bitCount_0f7a4_40 rfl hl (by decide) rfl (fun ls hl => ?_)
      refine lv_iload_n hx hb dJ6_bitCount_0f7a4_41 rfl (lv_at hl 0 rfl) ?_
      refine lv_iload_n hx hb dJ6_bitCount_0f7a4_42 rfl (lv_at hl 0 rfl) ?_
      refine lv_bipush (v := 16) hx hb dJ6_bitCount_0f7a4_43 (by decide) ?_
      obtain ⟨v_13, ev_13⟩ : ∃ v : Int32, v = (v_12.toUInt32 >>> ((16 : Int32).toUInt32 &&& Int32.toUInt32 31)).toInt32 := ⟨_, rfl⟩
      have hR := hR v_13 ev_13
      refine lv_iushr (v := v_13) hx hb dJ6_bitCount_0f7a4_45 ev_13.symm ?_
      refine lv_iadd hx hb dJ6_bitCount_0f7a4_46 ?_
      refine lv_topi (fun v_14 ev_14 => ?_)
      have hR := hR v_14 ev_14
      refine lv_istore_n (lv' := [(0, .int v_14)]) hx hb dJ6_bitCount_0f7a4_47 rfl hl (by decide) rfl (fun ls hl => ?_)
      refine lv_iload_n hx hb dJ6_bitCount_0f7a4_48 rfl (lv_at hl 0 rfl) ?_
      refine lv_bipush (v := 63) hx hb dJ6_bitCount_0f7a4_49 (by decide) ?_
      refine lv_iand hx hb dJ6_bitCount_0f7a4_51 ?_
      refine lv_topi (fun v_15 ev_15 => ?_)
      have hR := hR v_15 ev_15
      exact x_iret (w1 := (fun _ : Unit => [])) () B h hr rfl hR dJ6_bitCount_0f7a4_52
  exact (main k) _ _ s.heap [] ls hR hl h
def wbX12_takesSets_0 (rec : Nat → XT → (Nat → Int32) → (Nat → Int64) → (XT → Prop) → Prop) (k : Nat) (t : XT) (li : Nat → Int32) (lj : Nat → Int64) (Q : XT → Prop) : Prop :=
  rec 1 t (uI li 2 1) lj Q
def wbX12_takesSets_1 (rec : Nat → XT → (Nat → Int32) → (Nat → Int64) → (XT → Prop) → Prop) (k : Nat) (t : XT) (li : Nat → Int32) (lj : Nat → Int64) (Q : XT → Prop) : Prop :=
  (((256 : Int32) ≤ (li 2)) → Q t) ∧ (¬ ((256 : Int32) ≤ (li 2)) → (∀ v_2 : Int32, v_2 = ((li 1) ^^^ (-1)) → (∀ v_3 : Int32, v_3 = ((li 2) &&& v_2) → ((¬ v_3 = 0) → rec 2 t li lj Q) ∧ ((v_3 = 0) → (vp_in (li 2) 256 ∧ (∀ t_5 : XT, t_5 = sA t 1 (upd (t.2.2.1 1) (li 2).toNatClampNeg (vp_nar .boolean 1)) → rec 2 t_5 li lj Q))))))
def wbX12_takesSets_2 (rec : Nat → XT → (Nat → Int32) → (Nat → Int64) → (XT → Prop) → Prop) (k : Nat) (t : XT) (li : Nat → Int32) (lj : Nat → Int64) (Q : XT → Prop) : Prop :=
  (∀ v_6 : Int32, v_6 = (li 2) + Int32.ofInt 1 → rec 1 t (uI li 2 v_6) lj Q)
def wpX12_takesSets : Nat → Nat → XT → (Nat → Int32) → (Nat → Int64) → (XT → Prop) → Prop
  | 0, _, _, _, _, _ => False
  | k + 1, 0, t, li, lj, Q => wbX12_takesSets_0 (wpX12_takesSets k) k t li lj Q
  | k + 1, 1, t, li, lj, Q => wbX12_takesSets_1 (wpX12_takesSets k) k t li lj Q
  | k + 1, 2, t, li, lj, Q => wbX12_takesSets_2 (wpX12_takesSets k) k t li lj Q
  | _ + 1, _, _, _, _, _ => False
def wqX12_takesSets (k : Nat) (t : XT) (a1 : Int32) (Q : XT → Prop) : Prop := wpX12_takesSets k 0 t (uI (fun _ => 0) 1 a1) (fun _ => 0) Q
set_option maxHeartbeats 8000000 in
set_option maxRecDepth 100000 in
theorem wkX12_takesSets (l : Launch) (D : va_G) (cI cJ cB cZ : ClassId) (bd : Nat → Nat) (k : Nat) (t : XT) (a1 : Int32) (Q : XT → Prop) (hR : wqX12_takesSets k t a1 Q) : MetV l yX12_takesSets wsX12_takesSets 0 0 0 0 D (TYS cI cJ cB cZ) (wM cI cJ cB cZ bd t) [.ref (bd 0), .int a1] (fun u => Q u) (fun u : XT => (wM cI cJ cB cZ bd u)) := by
  refine x_startV (ty := .int) (cc := cX12_takesSets) (by decide) rfl (Nat.le_of_ble_eq_true rfl) ?_
  intro p e s m args below meth c A ls B hr hnm h hl
  have hx := B.1.1
  have hb := B.1.2.1
  have hml := B.1.2.2.1
  have hts := B.1.2.2.2.2
  have hown : s.vm.findClass RX12 = some m.cls := B.1.2.2.2.1
  have hin12 : ∀ w ∈ u_ws RX12 TX12 31, w ∈ wsX12_takesSets := by decide +kernel
  have main : ∀ k : Nat, (∀ (t : XT) (li : Nat → Int32) (lj : Nat → Int64) (H : Heap) (locs : List Loc) (ls : Array Slot), wpX12_takesSets k 0 t li lj Q → lv_has ls 3 [(0, .ref (bd 0)), (1, .int (li 1))] → Hp D A s.heap (wM cI cJ cB cZ bd t) H locs → W p l e { frames := 0, cells := 0, slots := 0, locals := 0 } s m args below meth c H locs 0 0 (MQ below (va_Qv (fun u => Q u) (fun u t => xEnd D ((fun u : XT => (wM cI cJ cB cZ bd u)) u) A t) A) args s 0 0 A) (F0 m 0 ls [])) ∧
      (∀ (t : XT) (li : Nat → Int32) (lj : Nat → Int64) (H : Heap) (locs : List Loc) (ls : Array Slot), wpX12_takesSets k 1 t li lj Q → lv_has ls 3 [(0, .ref (bd 0)), (1, .int (li 1)), (2, .int (li 2))] → Hp D A s.heap (wM cI cJ cB cZ bd t) H locs → W p l e { frames := 0, cells := 0, slots := 0, locals := 0 } s m args below meth c H locs 0 0 (MQ below (va_Qv (fun u => Q u) (fun u t => xEnd D ((fun u : XT => (wM cI cJ cB cZ bd u)) u) A t) A) args s 0 0 A) (F0 m 2 ls [])) ∧
      (∀ (t : XT) (li : Nat → Int32) (lj : Nat → Int64) (H : Heap) (locs : List Loc) (ls : Array Slot), wpX12_takesSets k 2 t li lj Q → lv_has ls 3 [(0, .ref (bd 0)), (1, .int (li 1)), (2, .int (li 2))] → Hp D A s.heap (wM cI cJ cB cZ bd t) H locs → W p l e { frames := 0, cells := 0, slots := 0, locals := 0 } s m args below meth c H locs 0 0 (MQ below (va_Qv (fun u => Q u) (fun u t => xEnd D ((fun u : XT => (wM cI cJ cB cZ bd u)) u) A t) A) args s 0 0 A) (F0 m 24 ls [])) := by
    intro k
    induction k with
    | zero => exact ⟨fun _ _ _ _ _ _ hR => False.elim hR, fun _ _ _ _ _ _ hR => False.elim hR, fun _ _ _ _ _ _ hR => False.elim hR⟩
    | succ k ih =>
      refine ⟨?_, ?_, ?_⟩
      · intro t li lj H locs ls hR hl h
        have hR : wbX12_takesSets_0 (wpX12_takesSets k) k t li lj Q := hR
        unfold wbX12_takesSets_0 at hR
        refine lv_iconst (v := 1) hx hb dX12_takesSets_0 (by decide) ?_
        refine lv_istore_n (lv' := [(2, .int 1), (0, .ref (bd 0)), (1, .int (li 1))]) hx hb dX12_takesSets_1 rfl hl (by decide) rfl (fun ls hl => ?_)
        exact ih.2.1 t (uI li 2 1) lj H locs ls hR (lv_sub hl [1, 2, 0] rfl) h
      · intro t li lj H locs ls hR hl h
        have hR : wbX12_takesSets_1 (wpX12_takesSets k) k t li lj Q := hR
        unfold wbX12_takesSets_1 at hR
        refine lv_iload_n hx hb dX12_takesSets_2 rfl (lv_at hl 2 rfl) ?_
        refine lv_sipush (v := 256) hx hb dX12_takesSets_3 (by decide) ?_
        refine lv_icmp_ge (tgt := 30) hx hb dX12_takesSets_6 (by decide) (fun c_1 => ?_) (fun c_1 => ?_)
        · have hR := hR.1 c_1
          exact x_vret (w1 := (fun u : XT => (wM cI cJ cB cZ bd u))) t B h hr hR dX12_takesSets_30
        · have hR := hR.2 c_1
          refine lv_iload_n hx hb dX12_takesSets_9 rfl (lv_at hl 2 rfl) ?_
          refine lv_iload_n hx hb dX12_takesSets_10 rfl (lv_at hl 1 rfl) ?_
          refine lv_iconst (v := (-1)) hx hb dX12_takesSets_11 (by decide) ?_
          refine lv_ixor hx hb dX12_takesSets_12 ?_
          refine lv_topi (fun v_2 ev_2 => ?_)
          have hR := hR v_2 ev_2
          refine lv_iand hx hb dX12_takesSets_13 ?_
          refine lv_topi (fun v_3 ev_3 => ?_)
          have hR := hR v_3 ev_3
          refine lv_if_ne (tgt := 24) hx hb dX12_takesSets_14 (by decide) (fun c_4 => ?_) (fun c_4 => ?_)
          · have hR := hR.1 c_4
            exact ih.2.2 t li lj H locs ls hR (lv_sub hl [0, 1, 2] rfl) h
          · have hR := hR.2 c_4
            refine lv_aload_n hx hb dX12_takesSets_17 rfl (lv_at hl 0 rfl) ?_
            refine x_get (ci := 12) (C := RX12) (T := TX12) (N := 31) (v := .ref (bd 2)) B h hin12 0 4 rfl rfl (by decide) (by decide +kernel) rfl dX12_takesSets_18 ?_
            refine lv_iload_n hx hb dX12_takesSets_21 rfl (lv_at hl 2 rfl) ?_
            refine lv_iconst (v := 1) hx hb dX12_takesSets_22 (by decide) ?_
            obtain ⟨hb_5, hR⟩ := hR
            refine z_zast (f := (t.2.2.1 1)) B h 2 3 rfl rfl hb_5 dX12_takesSets_23 (fun H locs h => ?_)
            obtain ⟨t_5, et_5⟩ : ∃ v : XT, v = sA t 1 (upd (t.2.2.1 1) (li 2).toNatClampNeg (vp_nar .boolean 1)) := ⟨_, rfl⟩
            have hR := hR t_5 et_5
            have h : Hp D A s.heap (wM cI cJ cB cZ bd t_5) H locs := by rw [et_5]; exact h
            exact ih.2.2 t_5 li lj H locs ls hR (lv_sub hl [0, 1, 2] rfl) h
      · intro t li lj H locs ls hR hl h
        have hR : wbX12_takesSets_2 (wpX12_takesSets k) k t li lj Q := hR
        unfold wbX12_takesSets_2 at hR
        obtain ⟨v_6, ev_6⟩ : ∃ v : Int32, v = (li 2) + Int32.ofInt 1 := ⟨_, rfl⟩
        have hR := hR v_6 ev_6
        refine lv_iinc (v := v_6) (lv' := [(2, .int v_6), (0, .ref (bd 0)), (1, .int (li 1))]) hx hb dX12_takesSets_24 hl (k := 2) rfl ev_6.symm (by decide) rfl (fun ls hl => ?_)
        refine lv_goto (tgt := 2) hx hb dX12_takesSets_27 (by decide) ?_
        exact ih.2.1 t (uI li 2 v_6) lj H locs ls hR (lv_sub hl [1, 2, 0] rfl) h
  exact (main k).1 t _ _ s.heap [] ls hR hl h
def wbX12_truth_0 (rec : Nat → (Nat → Int32) → (Nat → Int64) → (Int32 → Prop) → Prop) (k : Nat) (li : Nat → Int32) (lj : Nat → Int64) (Q : Int32 → Prop) : Prop :=
  (((li 0) = 0) → Q 0) ∧ (¬ ((li 0) = 0) → Q 1)
def wpX12_truth : Nat → Nat → (Nat → Int32) → (Nat → Int64) → (Int32 → Prop) → Prop
  | 0, _, _, _, _ => False
  | k + 1, 0, li, lj, Q => wbX12_truth_0 (wpX12_truth k) k li lj Q
  | _ + 1, _, _, _, _ => False
def wqX12_truth (k : Nat) (a0 : Int32) (Q : Int32 → Prop) : Prop := wpX12_truth k 0 (uI (fun _ => 0) 0 a0) (fun _ => 0) Q
set_option maxHeartbeats 8000000 in
set_option maxRecDepth 100000 in
theorem wkX12_truth (l : Launch) (D : va_G) (cI cJ cB cZ : ClassId) (ad : Nat → Nat) (k : Nat) (a0 : Int32) (Q : Int32 → Prop) (hR : wqX12_truth k a0 Q) : MetI l yX12_truth wsX12_truth 0 0 0 0 D (TYS cI cJ cB cZ) [] [.int a0] (fun r _ => Q r) (fun _ : Unit => []) := by
  refine x_startI (ty := .int) (cc := cX12_truth) (by decide) rfl (Nat.le_of_ble_eq_true rfl) ?_
  intro p e s m args below meth c A ls B hr hnm h hl
  have hx := B.1.1
  have hb := B.1.2.1
  have hml := B.1.2.2.1
  have hts := B.1.2.2.2.2
  have hown : s.vm.findClass RX12 = some m.cls := B.1.2.2.2.1
  have main : ∀ k : Nat, (∀ (li : Nat → Int32) (lj : Nat → Int64) (H : Heap) (locs : List Loc) (ls : Array Slot), wpX12_truth k 0 li lj Q → lv_has ls 1 [(0, .int (li 0))] → Hp D A s.heap [] H locs → W p l e { frames := 0, cells := 0, slots := 0, locals := 0 } s m args below meth c H locs 0 0 (MQ below (va_Qi (fun r _ => Q r) (fun u t => xEnd D ((fun _ : Unit => []) u) A t) A) args s 0 0 A) (F0 m 0 ls [])) := by
    intro k
    induction k with
    | zero => exact fun _ _ _ _ _ hR => False.elim hR
    | succ k ih =>
      intro li lj H locs ls hR hl h
      have hR : wbX12_truth_0 (wpX12_truth k) k li lj Q := hR
      unfold wbX12_truth_0 at hR
      refine lv_iload_n hx hb dX12_truth_0 rfl (lv_at hl 0 rfl) ?_
      refine lv_if_eq (tgt := 8) hx hb dX12_truth_1 (by decide) (fun c_1 => ?_) (fun c_1 => ?_)
      · have hR := hR.1 c_1
        refine lv_iconst (v := 0) hx hb dX12_truth_8 (by decide) ?_
        exact x_iret (w1 := (fun _ : Unit => [])) () B h hr rfl hR dX12_truth_9
      · have hR := hR.2 c_1
        refine lv_iconst (v := 1) hx hb dX12_truth_4 (by decide) ?_
        refine lv_goto (tgt := 9) hx hb dX12_truth_5 (by decide) ?_
        exact x_iret (w1 := (fun _ : Unit => [])) () B h hr rfl hR dX12_truth_9
  exact (main k) _ _ s.heap [] ls hR hl h
set_option maxRecDepth 20000 in
theorem ggX12_toldMany_X12_truth : GoodIn wsX12_toldMany wsX12_truth := goodIn_r _ [5] (by decide +kernel) (by decide +kernel)
set_option maxRecDepth 20000 in
theorem gX12_toldMany_X12_truth : GoodIn wsX12_toldMany (va_wsS RX12 105 yX12_truth wsX12_truth) := goodIn_app (goodIn_of _ (by decide +kernel)) ggX12_toldMany_X12_truth
def wbX12_toldMany_0 (rec : Nat → XT → (Nat → Int32) → (Nat → Int64) → (Int32 → XT → Prop) → Prop) (k : Nat) (t : XT) (li : Nat → Int32) (lj : Nat → Int64) (Q : Int32 → XT → Prop) : Prop :=
  rec 1 t (uI (uI li 1 0) 2 1) lj Q
def wbX12_toldMany_1 (rec : Nat → XT → (Nat → Int32) → (Nat → Int64) → (Int32 → XT → Prop) → Prop) (k : Nat) (t : XT) (li : Nat → Int32) (lj : Nat → Int64) (Q : Int32 → XT → Prop) : Prop :=
  (((256 : Int32) ≤ (li 2)) → Q (li 1) t) ∧ (¬ ((256 : Int32) ≤ (li 2)) → (vp_in (li 2) 256 ∧ (∀ v_2 : Int32, v_2 = (t.2.2.1 1) (li 2).toNatClampNeg → (wqX12_truth k v_2 (fun r_3 => (∀ v_4 : Int32, v_4 = ((li 1) + r_3) → (∀ v_5 : Int32, v_5 = (li 2) + Int32.ofInt 1 → rec 1 t (uI (uI li 1 v_4) 2 v_5) lj Q)))))))
def wpX12_toldMany : Nat → Nat → XT → (Nat → Int32) → (Nat → Int64) → (Int32 → XT → Prop) → Prop
  | 0, _, _, _, _, _ => False
  | k + 1, 0, t, li, lj, Q => wbX12_toldMany_0 (wpX12_toldMany k) k t li lj Q
  | k + 1, 1, t, li, lj, Q => wbX12_toldMany_1 (wpX12_toldMany k) k t li lj Q
  | _ + 1, _, _, _, _, _ => False
def wqX12_toldMany (k : Nat) (t : XT)  (Q : Int32 → XT → Prop) : Prop := wpX12_toldMany k 0 t (fun _ => 0) (fun _ => 0) Q
set_option maxHeartbeats 8000000 in
set_option maxRecDepth 100000 in
theorem wkX12_toldMany (l : Launch) (D : va_G) (cI cJ cB cZ : ClassId) (bd : Nat → Nat) (k : Nat) (t : XT)  (Q : Int32 → XT → Prop) (hR : wqX12_toldMany k t  Q) : MetI l yX12_toldMany wsX12_toldMany 1 20 0 0 D (TYS cI cJ cB cZ) (wM cI cJ cB cZ bd t) [.ref (bd 0)] (fun r u => Q r u) (fun u : XT => (wM cI cJ cB cZ bd u)) := by
  refine x_startI (ty := .int) (cc := cX12_toldMany) (by decide) rfl (Nat.le_of_ble_eq_true rfl) ?_
  intro p e s m args below meth c A ls B hr hnm h hl
  have hx := B.1.1
  have hb := B.1.2.1
  have hml := B.1.2.2.1
  have hts := B.1.2.2.2.2
  have hown : s.vm.findClass RX12 = some m.cls := B.1.2.2.2.1
  have hin12 : ∀ w ∈ u_ws RX12 TX12 31, w ∈ wsX12_toldMany := by decide +kernel
  have main : ∀ k : Nat, (∀ (t : XT) (li : Nat → Int32) (lj : Nat → Int64) (H : Heap) (locs : List Loc) (ls : Array Slot), wpX12_toldMany k 0 t li lj Q → lv_has ls 3 [(0, .ref (bd 0))] → Hp D A s.heap (wM cI cJ cB cZ bd t) H locs → W p l e { frames := 1, cells := 0, slots := 0, locals := 20 } s m args below meth c H locs 0 0 (MQ below (va_Qi (fun r u => Q r u) (fun u t => xEnd D ((fun u : XT => (wM cI cJ cB cZ bd u)) u) A t) A) args s 0 0 A) (F0 m 0 ls [])) ∧
      (∀ (t : XT) (li : Nat → Int32) (lj : Nat → Int64) (H : Heap) (locs : List Loc) (ls : Array Slot), wpX12_toldMany k 1 t li lj Q → lv_has ls 3 [(0, .ref (bd 0)), (1, .int (li 1)), (2, .int (li 2))] → Hp D A s.heap (wM cI cJ cB cZ bd t) H locs → W p l e { frames := 1, cells := 0, slots := 0, locals := 20 } s m args below meth c H locs 0 0 (MQ below (va_Qi (fun r u => Q r u) (fun u t => xEnd D ((fun u : XT => (wM cI cJ cB cZ bd u)) u) A t) A) args s 0 0 A) (F0 m 4 ls [])) := by
    intro k
    induction k with
    | zero => exact ⟨fun _ _ _ _ _ _ hR => False.elim hR, fun _ _ _ _ _ _ hR => False.elim hR⟩
    | succ k ih =>
      refine ⟨?_, ?_⟩
      · intro t li lj H locs ls hR hl h
        have hR : wbX12_toldMany_0 (wpX12_toldMany k) k t li lj Q := hR
        unfold wbX12_toldMany_0 at hR
        refine lv_iconst (v := 0) hx hb dX12_toldMany_0 (by decide) ?_
        refine lv_istore_n (lv' := [(1, .int 0), (0, .ref (bd 0))]) hx hb dX12_toldMany_1 rfl hl (by decide) rfl (fun ls hl => ?_)
        refine lv_iconst (v := 1) hx hb dX12_toldMany_2 (by decide) ?_
        refine lv_istore_n (lv' := [(2, .int 1), (1, .int 0), (0, .ref (bd 0))]) hx hb dX12_toldMany_3 rfl hl (by decide) rfl (fun ls hl => ?_)
        exact ih.2 t (uI (uI li 1 0) 2 1) lj H locs ls hR (lv_sub hl [2, 1, 0] rfl) h
      · intro t li lj H locs ls hR hl h
        have hR : wbX12_toldMany_1 (wpX12_toldMany k) k t li lj Q := hR
        unfold wbX12_toldMany_1 at hR
        refine lv_iload_n hx hb dX12_toldMany_4 rfl (lv_at hl 2 rfl) ?_
        refine lv_sipush (v := 256) hx hb dX12_toldMany_5 (by decide) ?_
        refine lv_icmp_ge (tgt := 29) hx hb dX12_toldMany_8 (by decide) (fun c_1 => ?_) (fun c_1 => ?_)
        · have hR := hR.1 c_1
          refine lv_iload_n hx hb dX12_toldMany_29 rfl (lv_at hl 1 rfl) ?_
          exact x_iret (w1 := (fun u : XT => (wM cI cJ cB cZ bd u))) t B h hr rfl hR dX12_toldMany_30
        · have hR := hR.2 c_1
          refine lv_iload_n hx hb dX12_toldMany_11 rfl (lv_at hl 1 rfl) ?_
          refine lv_aload_n hx hb dX12_toldMany_12 rfl (lv_at hl 0 rfl) ?_
          refine x_get (ci := 12) (C := RX12) (T := TX12) (N := 31) (v := .ref (bd 2)) B h hin12 0 4 rfl rfl (by decide) (by decide +kernel) rfl dX12_toldMany_13 ?_
          refine lv_iload_n hx hb dX12_toldMany_16 rfl (lv_at hl 2 rfl) ?_
          obtain ⟨hb_2, hR⟩ := hR
          refine va_zald (f := (t.2.2.1 1)) hx hb B.2.1 h.1 2 3 rfl rfl hb_2 dX12_toldMany_17 ?_
          refine lv_topi (fun v_2 ev_2 => ?_)
          have hR := hR v_2 ev_2
          refine x_cSIE (n := 1) (As := [.int v_2]) (rest := [.int (li 1)]) B h (wkX12_truth l D cI cJ cB cZ bd k v_2 _ hR) ⟨⟨_, rfl⟩, by decide +kernel, Nat.le_of_ble_eq_true rfl, Nat.le_of_ble_eq_true rfl⟩ gX12_toldMany_X12_truth rfl hl.1 rfl (Nat.le_of_ble_eq_true rfl) dX12_toldMany_18 ⟨Nat.le_of_ble_eq_true rfl, Nat.le_of_ble_eq_true rfl⟩ (fun r_3 _ H locs hR h => ?_)
          refine lv_iadd hx hb dX12_toldMany_21 ?_
          refine lv_topi (fun v_4 ev_4 => ?_)
          have hR := hR v_4 ev_4
          refine lv_istore_n (lv' := [(1, .int v_4), (0, .ref (bd 0)), (2, .int (li 2))]) hx hb dX12_toldMany_22 rfl hl (by decide) rfl (fun ls hl => ?_)
          obtain ⟨v_5, ev_5⟩ : ∃ v : Int32, v = (li 2) + Int32.ofInt 1 := ⟨_, rfl⟩
          have hR := hR v_5 ev_5
          refine lv_iinc (v := v_5) (lv' := [(2, .int v_5), (1, .int v_4), (0, .ref (bd 0))]) hx hb dX12_toldMany_23 hl (k := 2) rfl ev_5.symm (by decide) rfl (fun ls hl => ?_)
          refine lv_goto (tgt := 4) hx hb dX12_toldMany_26 (by decide) ?_
          exact ih.2 t (uI (uI li 1 v_4) 2 v_5) lj H locs ls hR (lv_sub hl [2, 1, 0] rfl) h
  exact (main k).1 t _ _ s.heap [] ls hR hl h
