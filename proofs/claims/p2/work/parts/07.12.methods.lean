set_option maxRecDepth 20000 in
theorem ggX12_isSimplex_X12_in : GoodIn wsX12_isSimplex wsX12_in := goodIn_r _ [5] (by decide +kernel) (by decide +kernel)
set_option maxRecDepth 20000 in
theorem gX12_isSimplex_X12_in : GoodIn wsX12_isSimplex (va_wsS RX12 101 yX12_in wsX12_in) := goodIn_app (goodIn_of _ (by decide +kernel)) ggX12_isSimplex_X12_in
def wbX12_isSimplex_0 (rec : Nat → XT → (Nat → Int32) → (Nat → Int64) → (Int32 → XT → Prop) → Prop) (k : Nat) (t : XT) (li : Nat → Int32) (lj : Nat → Int64) (Q : Int32 → XT → Prop) : Prop :=
  (∀ v_1 : Int32, v_1 = ((t.1 3) - 1) → (wqX12_in k (li 1) 0 v_1 (fun r_2 => ((r_2 = 0 ∨ r_2 = 1) ∧ Q r_2 t))))
def wpX12_isSimplex : Nat → Nat → XT → (Nat → Int32) → (Nat → Int64) → (Int32 → XT → Prop) → Prop
  | 0, _, _, _, _, _ => False
  | k + 1, 0, t, li, lj, Q => wbX12_isSimplex_0 (wpX12_isSimplex k) k t li lj Q
  | _ + 1, _, _, _, _, _ => False
def wqX12_isSimplex (k : Nat) (t : XT) (a1 : Int32) (Q : Int32 → XT → Prop) : Prop := wpX12_isSimplex k 0 t (uI (fun _ => 0) 1 a1) (fun _ => 0) Q
set_option maxHeartbeats 8000000 in
set_option maxRecDepth 100000 in
theorem wkX12_isSimplex (l : Launch) (D : va_G) (cI cJ cB cZ : ClassId) (bd : Nat → Nat) (k : Nat) (t : XT) (a1 : Int32) (Q : Int32 → XT → Prop) (hR : wqX12_isSimplex k t a1 Q) : MetI l yX12_isSimplex wsX12_isSimplex 1 22 0 0 D (TYS cI cJ cB cZ) (wM cI cJ cB cZ bd t) [.ref (bd 0), .int a1] (fun r u => Q r u) (fun u : XT => (wM cI cJ cB cZ bd u)) := by
  refine x_startI (ty := .boolean) (cc := cX12_isSimplex) (by decide) rfl (Nat.le_of_ble_eq_true rfl) ?_
  intro p e s m args below meth c A ls B hr hnm h hl
  have hx := B.1.1
  have hb := B.1.2.1
  have hml := B.1.2.2.1
  have hts := B.1.2.2.2.2
  have hown : s.vm.findClass RX12 = some m.cls := B.1.2.2.2.1
  have hin12 : ∀ w ∈ u_ws RX12 TX12 31, w ∈ wsX12_isSimplex := by decide +kernel
  have main : ∀ k : Nat, (∀ (t : XT) (li : Nat → Int32) (lj : Nat → Int64) (H : Heap) (locs : List Loc) (ls : Array Slot), wpX12_isSimplex k 0 t li lj Q → lv_has ls 2 [(0, .ref (bd 0)), (1, .int (li 1))] → Hp D A s.heap (wM cI cJ cB cZ bd t) H locs → W p l e { frames := 1, cells := 0, slots := 0, locals := 22 } s m args below meth c H locs 0 0 (MQ below (va_Qi (fun r u => Q r u) (fun u t => xEnd D ((fun u : XT => (wM cI cJ cB cZ bd u)) u) A t) A) args s 0 0 A) (F0 m 0 ls [])) := by
    intro k
    induction k with
    | zero => exact fun _ _ _ _ _ _ hR => False.elim hR
    | succ k ih =>
      intro t li lj H locs ls hR hl h
      have hR : wbX12_isSimplex_0 (wpX12_isSimplex k) k t li lj Q := hR
      unfold wbX12_isSimplex_0 at hR
      refine lv_iload_n hx hb dX12_isSimplex_0 rfl (lv_at hl 1 rfl) ?_
      refine lv_iconst (v := 0) hx hb dX12_isSimplex_1 (by decide) ?_
      refine lv_aload_n hx hb dX12_isSimplex_2 rfl (lv_at hl 0 rfl) ?_
      refine x_get (ci := 12) (C := RX12) (T := TX12) (N := 31) (v := .int (t.1 3)) B h hin12 0 5 rfl rfl (by decide) (by decide +kernel) rfl dX12_isSimplex_3 ?_
      refine lv_iconst (v := 1) hx hb dX12_isSimplex_6 (by decide) ?_
      refine lv_isub hx hb dX12_isSimplex_7 ?_
      refine lv_topi (fun v_1 ev_1 => ?_)
      have hR := hR v_1 ev_1
      refine x_cSIE (n := 3) (As := [.int (li 1), .int 0, .int v_1]) (rest := []) B h (wkX12_in l D cI cJ cB cZ bd k (li 1) 0 v_1 _ hR) ⟨⟨_, rfl⟩, by decide +kernel, Nat.le_of_ble_eq_true rfl, Nat.le_of_ble_eq_true rfl⟩ gX12_isSimplex_X12_in rfl hl.1 rfl (Nat.le_of_ble_eq_true rfl) dX12_isSimplex_8 ⟨Nat.le_of_ble_eq_true rfl, Nat.le_of_ble_eq_true rfl⟩ (fun r_2 _ H locs hR h => ?_)
      obtain ⟨hz_3, hR⟩ := hR
      exact x_iret (w1 := (fun u : XT => (wM cI cJ cB cZ bd u))) t B h hr (by rcases hz_3 with h_ | h_ <;> rw [h_] <;> rfl) hR dX12_isSimplex_11
  exact (main k) t _ _ s.heap [] ls hR hl h
set_option maxRecDepth 20000 in
theorem ggX12_dimOf_J6_bitCount_0f7a4 : GoodIn wsX12_dimOf wsJ6_bitCount_0f7a4 := goodIn_r _ [5, 6, 7, 8] (by decide +kernel) (by decide +kernel)
set_option maxRecDepth 20000 in
theorem gX12_dimOf_J6_bitCount_0f7a4 : GoodIn wsX12_dimOf (va_wsS RX12 123 yJ6_bitCount_0f7a4 wsJ6_bitCount_0f7a4) := goodIn_app (goodIn_of _ (by decide +kernel)) ggX12_dimOf_J6_bitCount_0f7a4
def wbX12_dimOf_0 (rec : Nat → XT → (Nat → Int32) → (Nat → Int64) → (Int32 → XT → Prop) → Prop) (k : Nat) (t : XT) (li : Nat → Int32) (lj : Nat → Int64) (Q : Int32 → XT → Prop) : Prop :=
  (vp_in (li 1) 60 ∧ (∀ v_1 : Int32, v_1 = (t.2.2.1 2) (li 1).toNatClampNeg → (wqJ6_bitCount_0f7a4 k v_1 (fun r_2 => (∀ v_3 : Int32, v_3 = (r_2 - 1) → Q v_3 t)))))
def wpX12_dimOf : Nat → Nat → XT → (Nat → Int32) → (Nat → Int64) → (Int32 → XT → Prop) → Prop
  | 0, _, _, _, _, _ => False
  | k + 1, 0, t, li, lj, Q => wbX12_dimOf_0 (wpX12_dimOf k) k t li lj Q
  | _ + 1, _, _, _, _, _ => False
def wqX12_dimOf (k : Nat) (t : XT) (a1 : Int32) (Q : Int32 → XT → Prop) : Prop := wpX12_dimOf k 0 t (uI (fun _ => 0) 1 a1) (fun _ => 0) Q
set_option maxHeartbeats 8000000 in
set_option maxRecDepth 100000 in
theorem wkX12_dimOf (l : Launch) (D : va_G) (cI cJ cB cZ : ClassId) (bd : Nat → Nat) (k : Nat) (t : XT) (a1 : Int32) (Q : Int32 → XT → Prop) (hR : wqX12_dimOf k t a1 Q) : MetI l yX12_dimOf wsX12_dimOf 1 20 0 0 D (TYS cI cJ cB cZ) (wM cI cJ cB cZ bd t) [.ref (bd 0), .int a1] (fun r u => Q r u) (fun u : XT => (wM cI cJ cB cZ bd u)) := by
  refine x_startI (ty := .int) (cc := cX12_dimOf) (by decide) rfl (Nat.le_of_ble_eq_true rfl) ?_
  intro p e s m args below meth c A ls B hr hnm h hl
  have hx := B.1.1
  have hb := B.1.2.1
  have hml := B.1.2.2.1
  have hts := B.1.2.2.2.2
  have hown : s.vm.findClass RX12 = some m.cls := B.1.2.2.2.1
  have hin12 : ∀ w ∈ u_ws RX12 TX12 31, w ∈ wsX12_dimOf := by decide +kernel
  have main : ∀ k : Nat, (∀ (t : XT) (li : Nat → Int32) (lj : Nat → Int64) (H : Heap) (locs : List Loc) (ls : Array Slot), wpX12_dimOf k 0 t li lj Q → lv_has ls 2 [(0, .ref (bd 0)), (1, .int (li 1))] → Hp D A s.heap (wM cI cJ cB cZ bd t) H locs → W p l e { frames := 1, cells := 0, slots := 0, locals := 20 } s m args below meth c H locs 0 0 (MQ below (va_Qi (fun r u => Q r u) (fun u t => xEnd D ((fun u : XT => (wM cI cJ cB cZ bd u)) u) A t) A) args s 0 0 A) (F0 m 0 ls [])) := by
    intro k
    induction k with
    | zero => exact fun _ _ _ _ _ _ hR => False.elim hR
    | succ k ih =>
      intro t li lj H locs ls hR hl h
      have hR : wbX12_dimOf_0 (wpX12_dimOf k) k t li lj Q := hR
      unfold wbX12_dimOf_0 at hR
      refine lv_aload_n hx hb dX12_dimOf_0 rfl (lv_at hl 0 rfl) ?_
      refine x_get (ci := 12) (C := RX12) (T := TX12) (N := 31) (v := .ref (bd 3)) B h hin12 0 6 rfl rfl (by decide) (by decide +kernel) rfl dX12_dimOf_1 ?_
      refine lv_iload_n hx hb dX12_dimOf_4 rfl (lv_at hl 1 rfl) ?_
      obtain ⟨hb_1, hR⟩ := hR
      refine va_iald (f := (t.2.2.1 2)) hx hb B.2.1 h.1 3 0 rfl rfl hb_1 dX12_dimOf_5 ?_
      refine lv_topi (fun v_1 ev_1 => ?_)
      have hR := hR v_1 ev_1
      refine x_cSIE (n := 1) (As := [.int v_1]) (rest := []) B h (wkJ6_bitCount_0f7a4 l D cI cJ cB cZ bd k v_1 _ hR) ⟨⟨_, rfl⟩, by decide +kernel, Nat.le_of_ble_eq_true rfl, Nat.le_of_ble_eq_true rfl⟩ gX12_dimOf_J6_bitCount_0f7a4 rfl hl.1 rfl (Nat.le_of_ble_eq_true rfl) dX12_dimOf_6 ⟨Nat.le_of_ble_eq_true rfl, Nat.le_of_ble_eq_true rfl⟩ (fun r_2 _ H locs hR h => ?_)
      refine lv_iconst (v := 1) hx hb dX12_dimOf_9 (by decide) ?_
      refine lv_isub hx hb dX12_dimOf_10 ?_
      refine lv_topi (fun v_3 ev_3 => ?_)
      have hR := hR v_3 ev_3
      exact x_iret (w1 := (fun u : XT => (wM cI cJ cB cZ bd u))) t B h hr rfl hR dX12_dimOf_11
  exact (main k) t _ _ s.heap [] ls hR hl h
def wbX12_isLower_0 (rec : Nat → XT → (Nat → Int32) → (Nat → Int64) → (Int32 → XT → Prop) → Prop) (k : Nat) (t : XT) (li : Nat → Int32) (lj : Nat → Int64) (Q : Int32 → XT → Prop) : Prop :=
  (vp_in (li 1) 60 ∧ (∀ v_1 : Int32, v_1 = (t.2.2.1 4) (li 1).toNatClampNeg → ((v_1 = (-1)) → rec 1 t li lj Q) ∧ (¬ (v_1 = (-1)) → (vp_in (li 1) 60 ∧ (∀ v_3 : Int32, v_3 = (t.2.2.1 4) (li 1).toNatClampNeg → ((v_3 ≤ (li 1)) → rec 1 t li lj Q) ∧ (¬ (v_3 ≤ (li 1)) → Q 1 t))))))
def wbX12_isLower_1 (rec : Nat → XT → (Nat → Int32) → (Nat → Int64) → (Int32 → XT → Prop) → Prop) (k : Nat) (t : XT) (li : Nat → Int32) (lj : Nat → Int64) (Q : Int32 → XT → Prop) : Prop :=
  Q 0 t
def wpX12_isLower : Nat → Nat → XT → (Nat → Int32) → (Nat → Int64) → (Int32 → XT → Prop) → Prop
  | 0, _, _, _, _, _ => False
  | k + 1, 0, t, li, lj, Q => wbX12_isLower_0 (wpX12_isLower k) k t li lj Q
  | k + 1, 1, t, li, lj, Q => wbX12_isLower_1 (wpX12_isLower k) k t li lj Q
  | _ + 1, _, _, _, _, _ => False
def wqX12_isLower (k : Nat) (t : XT) (a1 : Int32) (Q : Int32 → XT → Prop) : Prop := wpX12_isLower k 0 t (uI (fun _ => 0) 1 a1) (fun _ => 0) Q
set_option maxHeartbeats 8000000 in
set_option maxRecDepth 100000 in
theorem wkX12_isLower (l : Launch) (D : va_G) (cI cJ cB cZ : ClassId) (bd : Nat → Nat) (k : Nat) (t : XT) (a1 : Int32) (Q : Int32 → XT → Prop) (hR : wqX12_isLower k t a1 Q) : MetI l yX12_isLower wsX12_isLower 0 0 0 0 D (TYS cI cJ cB cZ) (wM cI cJ cB cZ bd t) [.ref (bd 0), .int a1] (fun r u => Q r u) (fun u : XT => (wM cI cJ cB cZ bd u)) := by
  refine x_startI (ty := .boolean) (cc := cX12_isLower) (by decide) rfl (Nat.le_of_ble_eq_true rfl) ?_
  intro p e s m args below meth c A ls B hr hnm h hl
  have hx := B.1.1
  have hb := B.1.2.1
  have hml := B.1.2.2.1
  have hts := B.1.2.2.2.2
  have hown : s.vm.findClass RX12 = some m.cls := B.1.2.2.2.1
  have hin12 : ∀ w ∈ u_ws RX12 TX12 31, w ∈ wsX12_isLower := by decide +kernel
  have main : ∀ k : Nat, (∀ (t : XT) (li : Nat → Int32) (lj : Nat → Int64) (H : Heap) (locs : List Loc) (ls : Array Slot), wpX12_isLower k 0 t li lj Q → lv_has ls 2 [(0, .ref (bd 0)), (1, .int (li 1))] → Hp D A s.heap (wM cI cJ cB cZ bd t) H locs → W p l e { frames := 0, cells := 0, slots := 0, locals := 0 } s m args below meth c H locs 0 0 (MQ below (va_Qi (fun r u => Q r u) (fun u t => xEnd D ((fun u : XT => (wM cI cJ cB cZ bd u)) u) A t) A) args s 0 0 A) (F0 m 0 ls [])) ∧
      (∀ (t : XT) (li : Nat → Int32) (lj : Nat → Int64) (H : Heap) (locs : List Loc) (ls : Array Slot), wpX12_isLower k 1 t li lj Q → lv_has ls 2 [(0, .ref (bd 0)), (1, .int (li 1))] → Hp D A s.heap (wM cI cJ cB cZ bd t) H locs → W p l e { frames := 0, cells := 0, slots := 0, locals := 0 } s m args below meth c H locs 0 0 (MQ below (va_Qi (fun r u => Q r u) (fun u t => xEnd D ((fun u : XT => (wM cI cJ cB cZ bd u)) u) A t) A) args s 0 0 A) (F0 m 24 ls [])) := by
    intro k
    induction k with
    | zero => exact ⟨fun _ _ _ _ _ _ hR => False.elim hR, fun _ _ _ _ _ _ hR => False.elim hR⟩
    | succ k ih =>
      refine ⟨?_, ?_⟩
      · intro t li lj H locs ls hR hl h
        have hR : wbX12_isLower_0 (wpX12_isLower k) k t li lj Q := hR
        unfold wbX12_isLower_0 at hR
        refine lv_aload_n hx hb dX12_isLower_0 rfl (lv_at hl 0 rfl) ?_
        refine x_get (ci := 12) (C := RX12) (T := TX12) (N := 31) (v := .ref (bd 5)) B h hin12 0 8 rfl rfl (by decide) (by decide +kernel) rfl dX12_isLower_1 ?_
        refine lv_iload_n hx hb dX12_isLower_4 rfl (lv_at hl 1 rfl) ?_
        obtain ⟨hb_1, hR⟩ := hR
        refine va_iald (f := (t.2.2.1 4)) hx hb B.2.1 h.1 5 0 rfl rfl hb_1 dX12_isLower_5 ?_
        refine lv_topi (fun v_1 ev_1 => ?_)
        have hR := hR v_1 ev_1
        refine lv_iconst (v := (-1)) hx hb dX12_isLower_6 (by decide) ?_
        refine lv_icmp_eq (tgt := 24) hx hb dX12_isLower_7 (by decide) (fun c_2 => ?_) (fun c_2 => ?_)
        · have hR := hR.1 c_2
          exact ih.2 t li lj H locs ls hR (lv_sub hl [0, 1] rfl) h
        · have hR := hR.2 c_2
          refine lv_aload_n hx hb dX12_isLower_10 rfl (lv_at hl 0 rfl) ?_
          refine x_get (ci := 12) (C := RX12) (T := TX12) (N := 31) (v := .ref (bd 5)) B h hin12 0 8 rfl rfl (by decide) (by decide +kernel) rfl dX12_isLower_11 ?_
          refine lv_iload_n hx hb dX12_isLower_14 rfl (lv_at hl 1 rfl) ?_
          obtain ⟨hb_3, hR⟩ := hR
          refine va_iald (f := (t.2.2.1 4)) hx hb B.2.1 h.1 5 0 rfl rfl hb_3 dX12_isLower_15 ?_
          refine lv_topi (fun v_3 ev_3 => ?_)
          have hR := hR v_3 ev_3
          refine lv_iload_n hx hb dX12_isLower_16 rfl (lv_at hl 1 rfl) ?_
          refine lv_icmp_le (tgt := 24) hx hb dX12_isLower_17 (by decide) (fun c_4 => ?_) (fun c_4 => ?_)
          · have hR := hR.1 c_4
            exact ih.2 t li lj H locs ls hR (lv_sub hl [0, 1] rfl) h
          · have hR := hR.2 c_4
            refine lv_iconst (v := 1) hx hb dX12_isLower_20 (by decide) ?_
            refine lv_goto (tgt := 25) hx hb dX12_isLower_21 (by decide) ?_
            exact x_iret (w1 := (fun u : XT => (wM cI cJ cB cZ bd u))) t B h hr rfl hR dX12_isLower_25
      · intro t li lj H locs ls hR hl h
        have hR : wbX12_isLower_1 (wpX12_isLower k) k t li lj Q := hR
        unfold wbX12_isLower_1 at hR
        refine lv_iconst (v := 0) hx hb dX12_isLower_24 (by decide) ?_
        exact x_iret (w1 := (fun u : XT => (wM cI cJ cB cZ bd u))) t B h hr rfl hR dX12_isLower_25
  exact (main k).1 t _ _ s.heap [] ls hR hl h
set_option maxRecDepth 20000 in
theorem ggX12_isFace_X12_dimOf : GoodIn wsX12_isFace wsX12_dimOf := goodIn_r _ [6, 1, 7, 8, 9, 10, 11, 12, 13, 14, 15, 16, 17, 18, 19, 20, 21, 22, 23, 24, 25, 26, 27, 28, 29, 30, 31, 32, 33, 34, 35, 36, 37, 38, 39, 40, 41, 42, 43, 44] (by decide +kernel) (by decide +kernel)
set_option maxRecDepth 20000 in
theorem gX12_isFace_X12_dimOf : GoodIn wsX12_isFace (wsV RX12 149 RX12 yX12_dimOf wsX12_dimOf) := goodIn_app (goodIn_of _ (by decide +kernel)) ggX12_isFace_X12_dimOf
def wbX12_isFace_0 (rec : Nat → XT → (Nat → Int32) → (Nat → Int64) → (Int32 → XT → Prop) → Prop) (k : Nat) (t : XT) (li : Nat → Int32) (lj : Nat → Int64) (Q : Int32 → XT → Prop) : Prop :=
  (wqX12_dimOf k t (li 2) (fun r_1 t_1 => (wqX12_dimOf k t_1 (li 1) (fun r_2 t_2 => (∀ v_3 : Int32, v_3 = (r_2 + 1) → ((¬ r_1 = v_3) → rec 1 t_2 li lj Q) ∧ ((r_1 = v_3) → (vp_in (li 1) 60 ∧ (∀ v_5 : Int32, v_5 = (t_2.2.2.1 2) (li 1).toNatClampNeg → (vp_in (li 2) 60 ∧ (∀ v_6 : Int32, v_6 = (t_2.2.2.1 2) (li 2).toNatClampNeg → (∀ v_7 : Int32, v_7 = (v_6 ^^^ (-1)) → (∀ v_8 : Int32, v_8 = (v_5 &&& v_7) → ((¬ v_8 = 0) → rec 1 t_2 li lj Q) ∧ ((v_8 = 0) → Q 1 t_2)))))))))))))
def wbX12_isFace_1 (rec : Nat → XT → (Nat → Int32) → (Nat → Int64) → (Int32 → XT → Prop) → Prop) (k : Nat) (t : XT) (li : Nat → Int32) (lj : Nat → Int64) (Q : Int32 → XT → Prop) : Prop :=
  Q 0 t
def wpX12_isFace : Nat → Nat → XT → (Nat → Int32) → (Nat → Int64) → (Int32 → XT → Prop) → Prop
  | 0, _, _, _, _, _ => False
  | k + 1, 0, t, li, lj, Q => wbX12_isFace_0 (wpX12_isFace k) k t li lj Q
  | k + 1, 1, t, li, lj, Q => wbX12_isFace_1 (wpX12_isFace k) k t li lj Q
  | _ + 1, _, _, _, _, _ => False
def wqX12_isFace (k : Nat) (t : XT) (a1 : Int32) (a2 : Int32) (Q : Int32 → XT → Prop) : Prop := wpX12_isFace k 0 t (uI (uI (fun _ => 0) 1 a1) 2 a2) (fun _ => 0) Q
set_option maxHeartbeats 8000000 in
set_option maxRecDepth 100000 in
theorem wkX12_isFace (l : Launch) (D : va_G) (cI cJ cB cZ : ClassId) (bd : Nat → Nat) (k : Nat) (t : XT) (a1 : Int32) (a2 : Int32) (Q : Int32 → XT → Prop) (hR : wqX12_isFace k t a1 a2 Q) : MetI l yX12_isFace wsX12_isFace 2 41 0 0 D (TYS cI cJ cB cZ) (wM cI cJ cB cZ bd t) [.ref (bd 0), .int a1, .int a2] (fun r u => Q r u) (fun u : XT => (wM cI cJ cB cZ bd u)) := by
  refine x_startI (ty := .boolean) (cc := cX12_isFace) (by decide) rfl (Nat.le_of_ble_eq_true rfl) ?_
  intro p e s m args below meth c A ls B hr hnm h hl
  have hx := B.1.1
  have hb := B.1.2.1
  have hml := B.1.2.2.1
  have hts := B.1.2.2.2.2
  have hown : s.vm.findClass RX12 = some m.cls := B.1.2.2.2.1
  have hin12 : ∀ w ∈ u_ws RX12 TX12 31, w ∈ wsX12_isFace := by decide +kernel
  have main : ∀ k : Nat, (∀ (t : XT) (li : Nat → Int32) (lj : Nat → Int64) (H : Heap) (locs : List Loc) (ls : Array Slot), wpX12_isFace k 0 t li lj Q → lv_has ls 3 [(0, .ref (bd 0)), (1, .int (li 1)), (2, .int (li 2))] → Hp D A s.heap (wM cI cJ cB cZ bd t) H locs → W p l e { frames := 2, cells := 0, slots := 0, locals := 41 } s m args below meth c H locs 0 0 (MQ below (va_Qi (fun r u => Q r u) (fun u t => xEnd D ((fun u : XT => (wM cI cJ cB cZ bd u)) u) A t) A) args s 0 0 A) (F0 m 0 ls [])) ∧
      (∀ (t : XT) (li : Nat → Int32) (lj : Nat → Int64) (H : Heap) (locs : List Loc) (ls : Array Slot), wpX12_isFace k 1 t li lj Q → lv_has ls 3 [(0, .ref (bd 0)), (1, .int (li 1)), (2, .int (li 2))] → Hp D A s.heap (wM cI cJ cB cZ bd t) H locs → W p l e { frames := 2, cells := 0, slots := 0, locals := 41 } s m args below meth c H locs 0 0 (MQ below (va_Qi (fun r u => Q r u) (fun u t => xEnd D ((fun u : XT => (wM cI cJ cB cZ bd u)) u) A t) A) args s 0 0 A) (F0 m 37 ls [])) := by
    intro k
    induction k with
    | zero => exact ⟨fun _ _ _ _ _ _ hR => False.elim hR, fun _ _ _ _ _ _ hR => False.elim hR⟩
    | succ k ih =>
      refine ⟨?_, ?_⟩
      · intro t li lj H locs ls hR hl h
        have hR : wbX12_isFace_0 (wpX12_isFace k) k t li lj Q := hR
        unfold wbX12_isFace_0 at hR
        refine lv_aload_n hx hb dX12_isFace_0 rfl (lv_at hl 0 rfl) ?_
        refine lv_iload_n hx hb dX12_isFace_1 rfl (lv_at hl 2 rfl) ?_
        refine x_cVIF (n := 1) (As := [.int (li 2)]) (rest := []) B h (wkX12_dimOf l D cI cJ cB cZ bd k t (li 2) _ hR) ⟨⟨_, rfl⟩, by decide +kernel, Nat.le_of_ble_eq_true rfl, Nat.le_of_ble_eq_true rfl⟩ gX12_isFace_X12_dimOf (show ((wM cI cJ cB cZ bd t) : va_W)[0]? = some (_, .inr (12, _)) from rfl) rfl rfl hl.1 rfl (Nat.le_of_ble_eq_true rfl) dX12_isFace_2 ⟨Nat.le_of_ble_eq_true rfl, Nat.le_of_ble_eq_true rfl⟩ (fun r_1 t_1 H locs hR h => ?_)
        refine lv_aload_n hx hb dX12_isFace_5 rfl (lv_at hl 0 rfl) ?_
        refine lv_iload_n hx hb dX12_isFace_6 rfl (lv_at hl 1 rfl) ?_
        refine x_cVIF (n := 1) (As := [.int (li 1)]) (rest := [.int r_1]) B h (wkX12_dimOf l D cI cJ cB cZ bd k t_1 (li 1) _ hR) ⟨⟨_, rfl⟩, by decide +kernel, Nat.le_of_ble_eq_true rfl, Nat.le_of_ble_eq_true rfl⟩ gX12_isFace_X12_dimOf (show ((wM cI cJ cB cZ bd t_1) : va_W)[0]? = some (_, .inr (12, _)) from rfl) rfl rfl hl.1 rfl (Nat.le_of_ble_eq_true rfl) dX12_isFace_7 ⟨Nat.le_of_ble_eq_true rfl, Nat.le_of_ble_eq_true rfl⟩ (fun r_2 t_2 H locs hR h => ?_)
        refine lv_iconst (v := 1) hx hb dX12_isFace_10 (by decide) ?_
        refine lv_iadd hx hb dX12_isFace_11 ?_
        refine lv_topi (fun v_3 ev_3 => ?_)
        have hR := hR v_3 ev_3
        refine lv_icmp_ne (tgt := 37) hx hb dX12_isFace_12 (by decide) (fun c_4 => ?_) (fun c_4 => ?_)
        · have hR := hR.1 c_4
          exact ih.2 t_2 li lj H locs ls hR (lv_sub hl [0, 1, 2] rfl) h
        · have hR := hR.2 c_4
          refine lv_aload_n hx hb dX12_isFace_15 rfl (lv_at hl 0 rfl) ?_
          refine x_get (ci := 12) (C := RX12) (T := TX12) (N := 31) (v := .ref (bd 3)) B h hin12 0 6 rfl rfl (by decide) (by decide +kernel) rfl dX12_isFace_16 ?_
          refine lv_iload_n hx hb dX12_isFace_19 rfl (lv_at hl 1 rfl) ?_
          obtain ⟨hb_5, hR⟩ := hR
          refine va_iald (f := (t_2.2.2.1 2)) hx hb B.2.1 h.1 3 0 rfl rfl hb_5 dX12_isFace_20 ?_
          refine lv_topi (fun v_5 ev_5 => ?_)
          have hR := hR v_5 ev_5
          refine lv_aload_n hx hb dX12_isFace_21 rfl (lv_at hl 0 rfl) ?_
          refine x_get (ci := 12) (C := RX12) (T := TX12) (N := 31) (v := .ref (bd 3)) B h hin12 0 6 rfl rfl (by decide) (by decide +kernel) rfl dX12_isFace_22 ?_
          refine lv_iload_n hx hb dX12_isFace_25 rfl (lv_at hl 2 rfl) ?_
          obtain ⟨hb_6, hR⟩ := hR
          refine va_iald (f := (t_2.2.2.1 2)) hx hb B.2.1 h.1 3 0 rfl rfl hb_6 dX12_isFace_26 ?_
          refine lv_topi (fun v_6 ev_6 => ?_)
          have hR := hR v_6 ev_6
          refine lv_iconst (v := (-1)) hx hb dX12_isFace_27 (by decide) ?_
          refine lv_ixor hx hb dX12_isFace_28 ?_
          refine lv_topi (fun v_7 ev_7 => ?_)
          have hR := hR v_7 ev_7
          refine lv_iand hx hb dX12_isFace_29 ?_
          refine lv_topi (fun v_8 ev_8 => ?_)
          have hR := hR v_8 ev_8
          refine lv_if_ne (tgt := 37) hx hb dX12_isFace_30 (by decide) (fun c_9 => ?_) (fun c_9 => ?_)
          · have hR := hR.1 c_9
            exact ih.2 t_2 li lj H locs ls hR (lv_sub hl [0, 1, 2] rfl) h
          · have hR := hR.2 c_9
            refine lv_iconst (v := 1) hx hb dX12_isFace_33 (by decide) ?_
            refine lv_goto (tgt := 38) hx hb dX12_isFace_34 (by decide) ?_
            exact x_iret (w1 := (fun u : XT => (wM cI cJ cB cZ bd u))) t_2 B h hr rfl hR dX12_isFace_38
      · intro t li lj H locs ls hR hl h
        have hR : wbX12_isFace_1 (wpX12_isFace k) k t li lj Q := hR
        unfold wbX12_isFace_1 at hR
        refine lv_iconst (v := 0) hx hb dX12_isFace_37 (by decide) ?_
        exact x_iret (w1 := (fun u : XT => (wM cI cJ cB cZ bd u))) t B h hr rfl hR dX12_isFace_38
  exact (main k).1 t _ _ s.heap [] ls hR hl h
set_option maxRecDepth 20000 in
theorem ggX12_isFaceThere_X12_isFace : GoodIn wsX12_isFaceThere wsX12_isFace := goodIn_r _ [6, 7, 8, 9, 10, 5, 11, 12, 13, 14, 15, 16, 17, 18, 19, 20, 21, 22, 23, 24, 25, 26, 27, 28, 29, 30, 31, 32, 33, 34, 35, 36, 37, 38, 39, 40, 41, 42, 43, 44, 45, 46, 47, 48, 49] (by decide +kernel) (by decide +kernel)
set_option maxRecDepth 20000 in
theorem gX12_isFaceThere_X12_isFace : GoodIn wsX12_isFaceThere (wsV RX12 152 RX12 yX12_isFace wsX12_isFace) := goodIn_app (goodIn_of _ (by decide +kernel)) ggX12_isFaceThere_X12_isFace
def wbX12_isFaceThere_0 (rec : Nat → XT → (Nat → Int32) → (Nat → Int64) → (Int32 → XT → Prop) → Prop) (k : Nat) (t : XT) (li : Nat → Int32) (lj : Nat → Int64) (Q : Int32 → XT → Prop) : Prop :=
  (vp_in (li 1) 60 ∧ (∀ v_1 : Int32, v_1 = (t.2.2.1 5) (li 1).toNatClampNeg → ((¬ v_1 = 0) → rec 1 t li lj Q) ∧ ((v_1 = 0) → (vp_in (li 2) 60 ∧ (∀ v_3 : Int32, v_3 = (t.2.2.1 5) (li 2).toNatClampNeg → ((¬ v_3 = 0) → rec 1 t li lj Q) ∧ ((v_3 = 0) → (wqX12_isFace k t (li 1) (li 2) (fun r_5 t_5 => ((r_5 = 0) → rec 1 t_5 li lj Q) ∧ (¬ (r_5 = 0) → Q 1 t_5)))))))))
def wbX12_isFaceThere_1 (rec : Nat → XT → (Nat → Int32) → (Nat → Int64) → (Int32 → XT → Prop) → Prop) (k : Nat) (t : XT) (li : Nat → Int32) (lj : Nat → Int64) (Q : Int32 → XT → Prop) : Prop :=
  Q 0 t
def wpX12_isFaceThere : Nat → Nat → XT → (Nat → Int32) → (Nat → Int64) → (Int32 → XT → Prop) → Prop
  | 0, _, _, _, _, _ => False
  | k + 1, 0, t, li, lj, Q => wbX12_isFaceThere_0 (wpX12_isFaceThere k) k t li lj Q
  | k + 1, 1, t, li, lj, Q => wbX12_isFaceThere_1 (wpX12_isFaceThere k) k t li lj Q
  | _ + 1, _, _, _, _, _ => False
def wqX12_isFaceThere (k : Nat) (t : XT) (a1 : Int32) (a2 : Int32) (Q : Int32 → XT → Prop) : Prop := wpX12_isFaceThere k 0 t (uI (uI (fun _ => 0) 1 a1) 2 a2) (fun _ => 0) Q
set_option maxHeartbeats 8000000 in
set_option maxRecDepth 100000 in
theorem wkX12_isFaceThere (l : Launch) (D : va_G) (cI cJ cB cZ : ClassId) (bd : Nat → Nat) (k : Nat) (t : XT) (a1 : Int32) (a2 : Int32) (Q : Int32 → XT → Prop) (hR : wqX12_isFaceThere k t a1 a2 Q) : MetI l yX12_isFaceThere wsX12_isFaceThere 3 63 0 0 D (TYS cI cJ cB cZ) (wM cI cJ cB cZ bd t) [.ref (bd 0), .int a1, .int a2] (fun r u => Q r u) (fun u : XT => (wM cI cJ cB cZ bd u)) := by
  refine x_startI (ty := .boolean) (cc := cX12_isFaceThere) (by decide) rfl (Nat.le_of_ble_eq_true rfl) ?_
  intro p e s m args below meth c A ls B hr hnm h hl
  have hx := B.1.1
  have hb := B.1.2.1
  have hml := B.1.2.2.1
  have hts := B.1.2.2.2.2
  have hown : s.vm.findClass RX12 = some m.cls := B.1.2.2.2.1
  have hin12 : ∀ w ∈ u_ws RX12 TX12 31, w ∈ wsX12_isFaceThere := by decide +kernel
  have main : ∀ k : Nat, (∀ (t : XT) (li : Nat → Int32) (lj : Nat → Int64) (H : Heap) (locs : List Loc) (ls : Array Slot), wpX12_isFaceThere k 0 t li lj Q → lv_has ls 3 [(0, .ref (bd 0)), (1, .int (li 1)), (2, .int (li 2))] → Hp D A s.heap (wM cI cJ cB cZ bd t) H locs → W p l e { frames := 3, cells := 0, slots := 0, locals := 63 } s m args below meth c H locs 0 0 (MQ below (va_Qi (fun r u => Q r u) (fun u t => xEnd D ((fun u : XT => (wM cI cJ cB cZ bd u)) u) A t) A) args s 0 0 A) (F0 m 0 ls [])) ∧
      (∀ (t : XT) (li : Nat → Int32) (lj : Nat → Int64) (H : Heap) (locs : List Loc) (ls : Array Slot), wpX12_isFaceThere k 1 t li lj Q → lv_has ls 3 [(0, .ref (bd 0)), (1, .int (li 1)), (2, .int (li 2))] → Hp D A s.heap (wM cI cJ cB cZ bd t) H locs → W p l e { frames := 3, cells := 0, slots := 0, locals := 63 } s m args below meth c H locs 0 0 (MQ below (va_Qi (fun r u => Q r u) (fun u t => xEnd D ((fun u : XT => (wM cI cJ cB cZ bd u)) u) A t) A) args s 0 0 A) (F0 m 31 ls [])) := by
    intro k
    induction k with
    | zero => exact ⟨fun _ _ _ _ _ _ hR => False.elim hR, fun _ _ _ _ _ _ hR => False.elim hR⟩
    | succ k ih =>
      refine ⟨?_, ?_⟩
      · intro t li lj H locs ls hR hl h
        have hR : wbX12_isFaceThere_0 (wpX12_isFaceThere k) k t li lj Q := hR
        unfold wbX12_isFaceThere_0 at hR
        refine lv_aload_n hx hb dX12_isFaceThere_0 rfl (lv_at hl 0 rfl) ?_
        refine x_get (ci := 12) (C := RX12) (T := TX12) (N := 31) (v := .ref (bd 6)) B h hin12 0 9 rfl rfl (by decide) (by decide +kernel) rfl dX12_isFaceThere_1 ?_
        refine lv_iload_n hx hb dX12_isFaceThere_4 rfl (lv_at hl 1 rfl) ?_
        obtain ⟨hb_1, hR⟩ := hR
        refine va_zald (f := (t.2.2.1 5)) hx hb B.2.1 h.1 6 3 rfl rfl hb_1 dX12_isFaceThere_5 ?_
        refine lv_topi (fun v_1 ev_1 => ?_)
        have hR := hR v_1 ev_1
        refine lv_if_ne (tgt := 31) hx hb dX12_isFaceThere_6 (by decide) (fun c_2 => ?_) (fun c_2 => ?_)
        · have hR := hR.1 c_2
          exact ih.2 t li lj H locs ls hR (lv_sub hl [0, 1, 2] rfl) h
        · have hR := hR.2 c_2
          refine lv_aload_n hx hb dX12_isFaceThere_9 rfl (lv_at hl 0 rfl) ?_
          refine x_get (ci := 12) (C := RX12) (T := TX12) (N := 31) (v := .ref (bd 6)) B h hin12 0 9 rfl rfl (by decide) (by decide +kernel) rfl dX12_isFaceThere_10 ?_
          refine lv_iload_n hx hb dX12_isFaceThere_13 rfl (lv_at hl 2 rfl) ?_
          obtain ⟨hb_3, hR⟩ := hR
          refine va_zald (f := (t.2.2.1 5)) hx hb B.2.1 h.1 6 3 rfl rfl hb_3 dX12_isFaceThere_14 ?_
          refine lv_topi (fun v_3 ev_3 => ?_)
          have hR := hR v_3 ev_3
          refine lv_if_ne (tgt := 31) hx hb dX12_isFaceThere_15 (by decide) (fun c_4 => ?_) (fun c_4 => ?_)
          · have hR := hR.1 c_4
            exact ih.2 t li lj H locs ls hR (lv_sub hl [0, 1, 2] rfl) h
          · have hR := hR.2 c_4
            refine lv_aload_n hx hb dX12_isFaceThere_18 rfl (lv_at hl 0 rfl) ?_
            refine lv_iload_n hx hb dX12_isFaceThere_19 rfl (lv_at hl 1 rfl) ?_
            refine lv_iload_n hx hb dX12_isFaceThere_20 rfl (lv_at hl 2 rfl) ?_
            refine x_cVIF (n := 2) (As := [.int (li 1), .int (li 2)]) (rest := []) B h (wkX12_isFace l D cI cJ cB cZ bd k t (li 1) (li 2) _ hR) ⟨⟨_, rfl⟩, by decide +kernel, Nat.le_of_ble_eq_true rfl, Nat.le_of_ble_eq_true rfl⟩ gX12_isFaceThere_X12_isFace (show ((wM cI cJ cB cZ bd t) : va_W)[0]? = some (_, .inr (12, _)) from rfl) rfl rfl hl.1 rfl (Nat.le_of_ble_eq_true rfl) dX12_isFaceThere_21 ⟨Nat.le_of_ble_eq_true rfl, Nat.le_of_ble_eq_true rfl⟩ (fun r_5 t_5 H locs hR h => ?_)
            refine lv_if_eq (tgt := 31) hx hb dX12_isFaceThere_24 (by decide) (fun c_6 => ?_) (fun c_6 => ?_)
            · have hR := hR.1 c_6
              exact ih.2 t_5 li lj H locs ls hR (lv_sub hl [0, 1, 2] rfl) h
            · have hR := hR.2 c_6
              refine lv_iconst (v := 1) hx hb dX12_isFaceThere_27 (by decide) ?_
              refine lv_goto (tgt := 32) hx hb dX12_isFaceThere_28 (by decide) ?_
              exact x_iret (w1 := (fun u : XT => (wM cI cJ cB cZ bd u))) t_5 B h hr rfl hR dX12_isFaceThere_32
      · intro t li lj H locs ls hR hl h
        have hR : wbX12_isFaceThere_1 (wpX12_isFaceThere k) k t li lj Q := hR
        unfold wbX12_isFaceThere_1 at hR
        refine lv_iconst (v := 0) hx hb dX12_isFaceThere_31 (by decide) ?_
        exact x_iret (w1 := (fun u : XT => (wM cI cJ cB cZ bd u))) t B h hr rfl hR dX12_isFaceThere_32
  exact (main k).1 t _ _ s.heap [] ls hR hl h
set_option maxRecDepth 20000 in
theorem ggX12_laysHeights_X12_isFaceThere : GoodIn wsX12_laysHeights wsX12_isFaceThere := goodIn_r _ [8, 9, 10, 11, 12, 7, 13, 14, 15, 16, 17, 18, 19, 20, 21, 22, 23, 24, 25, 26, 27, 28, 29, 30, 31, 32, 33, 34, 35, 36, 37, 38, 39, 40, 41, 42, 43, 44, 45, 46, 47, 48, 49, 50, 51, 52, 53, 54, 55, 56] (by decide +kernel) (by decide +kernel)
set_option maxRecDepth 20000 in
theorem gX12_laysHeights_X12_isFaceThere : GoodIn wsX12_laysHeights (wsV RX12 162 RX12 yX12_isFaceThere wsX12_isFaceThere) := goodIn_app (goodIn_of _ (by decide +kernel)) ggX12_laysHeights_X12_isFaceThere
def wbX12_laysHeights_0 (rec : Nat → XT → (Nat → Int32) → (Nat → Int64) → (XT → Prop) → Prop) (k : Nat) (t : XT) (li : Nat → Int32) (lj : Nat → Int64) (Q : XT → Prop) : Prop :=
  rec 1 t (uI li 1 0) lj Q
def wbX12_laysHeights_1 (rec : Nat → XT → (Nat → Int32) → (Nat → Int64) → (XT → Prop) → Prop) (k : Nat) (t : XT) (li : Nat → Int32) (lj : Nat → Int64) (Q : XT → Prop) : Prop :=
  ((((t.1 3) : Int32) ≤ (li 1)) → rec 2 t (uI li 1 1) lj Q) ∧ (¬ (((t.1 3) : Int32) ≤ (li 1)) → (vp_in (li 1) 60 ∧ (∀ t_2 : XT, t_2 = sA t 6 (upd (t.2.2.1 6) (li 1).toNatClampNeg 0) → (∀ v_3 : Int32, v_3 = (li 1) + Int32.ofInt 1 → rec 1 t_2 (uI li 1 v_3) lj Q))))
def wbX12_laysHeights_2 (rec : Nat → XT → (Nat → Int32) → (Nat → Int64) → (XT → Prop) → Prop) (k : Nat) (t : XT) (li : Nat → Int32) (lj : Nat → Int64) (Q : XT → Prop) : Prop :=
  (((li 1) = 0) → Q t) ∧ (¬ ((li 1) = 0) → rec 3 t (uI (uI li 1 0) 2 0) lj Q)
def wbX12_laysHeights_3 (rec : Nat → XT → (Nat → Int32) → (Nat → Int64) → (XT → Prop) → Prop) (k : Nat) (t : XT) (li : Nat → Int32) (lj : Nat → Int64) (Q : XT → Prop) : Prop :=
  ((((t.1 3) : Int32) ≤ (li 2)) → rec 2 t li lj Q) ∧ (¬ (((t.1 3) : Int32) ≤ (li 2)) → rec 4 t (uI li 3 0) lj Q)
def wbX12_laysHeights_4 (rec : Nat → XT → (Nat → Int32) → (Nat → Int64) → (XT → Prop) → Prop) (k : Nat) (t : XT) (li : Nat → Int32) (lj : Nat → Int64) (Q : XT → Prop) : Prop :=
  ((((t.1 3) : Int32) ≤ (li 3)) → (∀ v_7 : Int32, v_7 = (li 2) + Int32.ofInt 1 → rec 3 t (uI li 2 v_7) lj Q)) ∧ (¬ (((t.1 3) : Int32) ≤ (li 3)) → (wqX12_isFaceThere k t (li 3) (li 2) (fun r_8 t_8 => ((r_8 = 0) → rec 5 t_8 li lj Q) ∧ (¬ (r_8 = 0) → (vp_in (li 2) 60 ∧ (∀ v_10 : Int32, v_10 = (t_8.2.2.1 4) (li 2).toNatClampNeg → ((v_10 = (li 3)) → rec 5 t_8 li lj Q) ∧ (¬ (v_10 = (li 3)) → rec 6 t_8 (uI li 100 1) lj Q)))))))
def wbX12_laysHeights_5 (rec : Nat → XT → (Nat → Int32) → (Nat → Int64) → (XT → Prop) → Prop) (k : Nat) (t : XT) (li : Nat → Int32) (lj : Nat → Int64) (Q : XT → Prop) : Prop :=
  rec 6 t (uI li 100 0) lj Q
def wbX12_laysHeights_6 (rec : Nat → XT → (Nat → Int32) → (Nat → Int64) → (XT → Prop) → Prop) (k : Nat) (t : XT) (li : Nat → Int32) (lj : Nat → Int64) (Q : XT → Prop) : Prop :=
  (wqX12_isFaceThere k t (li 2) (li 3) (fun r_12 t_12 => ((r_12 = 0) → rec 7 t_12 (uI li 4 (li 100)) lj Q) ∧ (¬ (r_12 = 0) → (vp_in (li 2) 60 ∧ (∀ v_14 : Int32, v_14 = (t_12.2.2.1 4) (li 2).toNatClampNeg → ((¬ v_14 = (li 3)) → rec 7 t_12 (uI li 4 (li 100)) lj Q) ∧ ((v_14 = (li 3)) → rec 8 t_12 (uI (uI li 4 (li 100)) 100 1) lj Q))))))
def wbX12_laysHeights_7 (rec : Nat → XT → (Nat → Int32) → (Nat → Int64) → (XT → Prop) → Prop) (k : Nat) (t : XT) (li : Nat → Int32) (lj : Nat → Int64) (Q : XT → Prop) : Prop :=
  rec 8 t (uI li 100 0) lj Q
def wbX12_laysHeights_8 (rec : Nat → XT → (Nat → Int32) → (Nat → Int64) → (XT → Prop) → Prop) (k : Nat) (t : XT) (li : Nat → Int32) (lj : Nat → Int64) (Q : XT → Prop) : Prop :=
  ((¬ (li 4) = 0) → rec 9 t (uI li 5 (li 100)) lj Q) ∧ (((li 4) = 0) → (((li 100) = 0) → rec 10 t (uI li 5 (li 100)) lj Q) ∧ (¬ ((li 100) = 0) → rec 9 t (uI li 5 (li 100)) lj Q))
def wbX12_laysHeights_9 (rec : Nat → XT → (Nat → Int32) → (Nat → Int64) → (XT → Prop) → Prop) (k : Nat) (t : XT) (li : Nat → Int32) (lj : Nat → Int64) (Q : XT → Prop) : Prop :=
  (vp_in (li 2) 60 ∧ (∀ v_18 : Int32, v_18 = (t.2.2.1 6) (li 2).toNatClampNeg → (vp_in (li 3) 60 ∧ (∀ v_19 : Int32, v_19 = (t.2.2.1 6) (li 3).toNatClampNeg → (∀ v_20 : Int32, v_20 = (v_19 + 1) → (((v_20 : Int32) ≤ v_18) → rec 10 t li lj Q) ∧ (¬ ((v_20 : Int32) ≤ v_18) → (vp_in (li 3) 60 ∧ (∀ v_22 : Int32, v_22 = (t.2.2.1 6) (li 3).toNatClampNeg → (∀ v_23 : Int32, v_23 = (v_22 + 1) → (vp_in (li 2) 60 ∧ (∀ t_24 : XT, t_24 = sA t 6 (upd (t.2.2.1 6) (li 2).toNatClampNeg v_23) → rec 10 t_24 (uI li 1 1) lj Q)))))))))))
def wbX12_laysHeights_10 (rec : Nat → XT → (Nat → Int32) → (Nat → Int64) → (XT → Prop) → Prop) (k : Nat) (t : XT) (li : Nat → Int32) (lj : Nat → Int64) (Q : XT → Prop) : Prop :=
  (∀ v_25 : Int32, v_25 = (li 3) + Int32.ofInt 1 → rec 4 t (uI li 3 v_25) lj Q)
def wpX12_laysHeights : Nat → Nat → XT → (Nat → Int32) → (Nat → Int64) → (XT → Prop) → Prop
  | 0, _, _, _, _, _ => False
  | k + 1, 0, t, li, lj, Q => wbX12_laysHeights_0 (wpX12_laysHeights k) k t li lj Q
  | k + 1, 1, t, li, lj, Q => wbX12_laysHeights_1 (wpX12_laysHeights k) k t li lj Q
  | k + 1, 2, t, li, lj, Q => wbX12_laysHeights_2 (wpX12_laysHeights k) k t li lj Q
  | k + 1, 3, t, li, lj, Q => wbX12_laysHeights_3 (wpX12_laysHeights k) k t li lj Q
  | k + 1, 4, t, li, lj, Q => wbX12_laysHeights_4 (wpX12_laysHeights k) k t li lj Q
  | k + 1, 5, t, li, lj, Q => wbX12_laysHeights_5 (wpX12_laysHeights k) k t li lj Q
  | k + 1, 6, t, li, lj, Q => wbX12_laysHeights_6 (wpX12_laysHeights k) k t li lj Q
  | k + 1, 7, t, li, lj, Q => wbX12_laysHeights_7 (wpX12_laysHeights k) k t li lj Q
  | k + 1, 8, t, li, lj, Q => wbX12_laysHeights_8 (wpX12_laysHeights k) k t li lj Q
  | k + 1, 9, t, li, lj, Q => wbX12_laysHeights_9 (wpX12_laysHeights k) k t li lj Q
  | k + 1, 10, t, li, lj, Q => wbX12_laysHeights_10 (wpX12_laysHeights k) k t li lj Q
  | _ + 1, _, _, _, _, _ => False
def wqX12_laysHeights (k : Nat) (t : XT)  (Q : XT → Prop) : Prop := wpX12_laysHeights k 0 t (fun _ => 0) (fun _ => 0) Q
set_option maxHeartbeats 8000000 in
set_option maxRecDepth 100000 in
theorem wkX12_laysHeights (l : Launch) (D : va_G) (cI cJ cB cZ : ClassId) (bd : Nat → Nat) (k : Nat) (t : XT)  (Q : XT → Prop) (hR : wqX12_laysHeights k t  Q) : MetV l yX12_laysHeights wsX12_laysHeights 4 85 0 0 D (TYS cI cJ cB cZ) (wM cI cJ cB cZ bd t) [.ref (bd 0)] (fun u => Q u) (fun u : XT => (wM cI cJ cB cZ bd u)) := by
  refine x_startV (ty := .int) (cc := cX12_laysHeights) (by decide) rfl (Nat.le_of_ble_eq_true rfl) ?_
  intro p e s m args below meth c A ls B hr hnm h hl
  have hx := B.1.1
  have hb := B.1.2.1
  have hml := B.1.2.2.1
  have hts := B.1.2.2.2.2
  have hown : s.vm.findClass RX12 = some m.cls := B.1.2.2.2.1
  have hin12 : ∀ w ∈ u_ws RX12 TX12 31, w ∈ wsX12_laysHeights := by decide +kernel
  have main : ∀ k : Nat, (∀ (t : XT) (li : Nat → Int32) (lj : Nat → Int64) (H : Heap) (locs : List Loc) (ls : Array Slot), wpX12_laysHeights k 0 t li lj Q → lv_has ls 6 [(0, .ref (bd 0))] → Hp D A s.heap (wM cI cJ cB cZ bd t) H locs → W p l e { frames := 4, cells := 0, slots := 0, locals := 85 } s m args below meth c H locs 0 0 (MQ below (va_Qv (fun u => Q u) (fun u t => xEnd D ((fun u : XT => (wM cI cJ cB cZ bd u)) u) A t) A) args s 0 0 A) (F0 m 0 ls [])) ∧
      (∀ (t : XT) (li : Nat → Int32) (lj : Nat → Int64) (H : Heap) (locs : List Loc) (ls : Array Slot), wpX12_laysHeights k 1 t li lj Q → lv_has ls 6 [(0, .ref (bd 0)), (1, .int (li 1))] → Hp D A s.heap (wM cI cJ cB cZ bd t) H locs → W p l e { frames := 4, cells := 0, slots := 0, locals := 85 } s m args below meth c H locs 0 0 (MQ below (va_Qv (fun u => Q u) (fun u t => xEnd D ((fun u : XT => (wM cI cJ cB cZ bd u)) u) A t) A) args s 0 0 A) (F0 m 2 ls [])) ∧
      (∀ (t : XT) (li : Nat → Int32) (lj : Nat → Int64) (H : Heap) (locs : List Loc) (ls : Array Slot), wpX12_laysHeights k 2 t li lj Q → lv_has ls 6 [(0, .ref (bd 0)), (1, .int (li 1))] → Hp D A s.heap (wM cI cJ cB cZ bd t) H locs → W p l e { frames := 4, cells := 0, slots := 0, locals := 85 } s m args below meth c H locs 0 0 (MQ below (va_Qv (fun u => Q u) (fun u t => xEnd D ((fun u : XT => (wM cI cJ cB cZ bd u)) u) A t) A) args s 0 0 A) (F0 m 25 ls [])) ∧
      (∀ (t : XT) (li : Nat → Int32) (lj : Nat → Int64) (H : Heap) (locs : List Loc) (ls : Array Slot), wpX12_laysHeights k 3 t li lj Q → lv_has ls 6 [(0, .ref (bd 0)), (1, .int (li 1)), (2, .int (li 2))] → Hp D A s.heap (wM cI cJ cB cZ bd t) H locs → W p l e { frames := 4, cells := 0, slots := 0, locals := 85 } s m args below meth c H locs 0 0 (MQ below (va_Qv (fun u => Q u) (fun u t => xEnd D ((fun u : XT => (wM cI cJ cB cZ bd u)) u) A t) A) args s 0 0 A) (F0 m 33 ls [])) ∧
      (∀ (t : XT) (li : Nat → Int32) (lj : Nat → Int64) (H : Heap) (locs : List Loc) (ls : Array Slot), wpX12_laysHeights k 4 t li lj Q → lv_has ls 6 [(0, .ref (bd 0)), (1, .int (li 1)), (2, .int (li 2)), (3, .int (li 3))] → Hp D A s.heap (wM cI cJ cB cZ bd t) H locs → W p l e { frames := 4, cells := 0, slots := 0, locals := 85 } s m args below meth c H locs 0 0 (MQ below (va_Qv (fun u => Q u) (fun u t => xEnd D ((fun u : XT => (wM cI cJ cB cZ bd u)) u) A t) A) args s 0 0 A) (F0 m 43 ls [])) ∧
      (∀ (t : XT) (li : Nat → Int32) (lj : Nat → Int64) (H : Heap) (locs : List Loc) (ls : Array Slot), wpX12_laysHeights k 5 t li lj Q → lv_has ls 6 [(0, .ref (bd 0)), (1, .int (li 1)), (2, .int (li 2)), (3, .int (li 3))] → Hp D A s.heap (wM cI cJ cB cZ bd t) H locs → W p l e { frames := 4, cells := 0, slots := 0, locals := 85 } s m args below meth c H locs 0 0 (MQ below (va_Qv (fun u => Q u) (fun u t => xEnd D ((fun u : XT => (wM cI cJ cB cZ bd u)) u) A t) A) args s 0 0 A) (F0 m 74 ls [])) ∧
      (∀ (t : XT) (li : Nat → Int32) (lj : Nat → Int64) (H : Heap) (locs : List Loc) (ls : Array Slot), wpX12_laysHeights k 6 t li lj Q → lv_has ls 6 [(0, .ref (bd 0)), (1, .int (li 1)), (2, .int (li 2)), (3, .int (li 3))] → Hp D A s.heap (wM cI cJ cB cZ bd t) H locs → W p l e { frames := 4, cells := 0, slots := 0, locals := 85 } s m args below meth c H locs 0 0 (MQ below (va_Qv (fun u => Q u) (fun u t => xEnd D ((fun u : XT => (wM cI cJ cB cZ bd u)) u) A t) A) args s 0 0 A) (F0 m 75 ls [.int (li 100)])) ∧
      (∀ (t : XT) (li : Nat → Int32) (lj : Nat → Int64) (H : Heap) (locs : List Loc) (ls : Array Slot), wpX12_laysHeights k 7 t li lj Q → lv_has ls 6 [(0, .ref (bd 0)), (1, .int (li 1)), (2, .int (li 2)), (3, .int (li 3)), (4, .int (li 4))] → Hp D A s.heap (wM cI cJ cB cZ bd t) H locs → W p l e { frames := 4, cells := 0, slots := 0, locals := 85 } s m args below meth c H locs 0 0 (MQ below (va_Qv (fun u => Q u) (fun u t => xEnd D ((fun u : XT => (wM cI cJ cB cZ bd u)) u) A t) A) args s 0 0 A) (F0 m 100 ls [])) ∧
      (∀ (t : XT) (li : Nat → Int32) (lj : Nat → Int64) (H : Heap) (locs : List Loc) (ls : Array Slot), wpX12_laysHeights k 8 t li lj Q → lv_has ls 6 [(0, .ref (bd 0)), (1, .int (li 1)), (2, .int (li 2)), (3, .int (li 3)), (4, .int (li 4))] → Hp D A s.heap (wM cI cJ cB cZ bd t) H locs → W p l e { frames := 4, cells := 0, slots := 0, locals := 85 } s m args below meth c H locs 0 0 (MQ below (va_Qv (fun u => Q u) (fun u t => xEnd D ((fun u : XT => (wM cI cJ cB cZ bd u)) u) A t) A) args s 0 0 A) (F0 m 101 ls [.int (li 100)])) ∧
      (∀ (t : XT) (li : Nat → Int32) (lj : Nat → Int64) (H : Heap) (locs : List Loc) (ls : Array Slot), wpX12_laysHeights k 9 t li lj Q → lv_has ls 6 [(0, .ref (bd 0)), (1, .int (li 1)), (2, .int (li 2)), (3, .int (li 3)), (4, .int (li 4)), (5, .int (li 5))] → Hp D A s.heap (wM cI cJ cB cZ bd t) H locs → W p l e { frames := 4, cells := 0, slots := 0, locals := 85 } s m args below meth c H locs 0 0 (MQ below (va_Qv (fun u => Q u) (fun u t => xEnd D ((fun u : XT => (wM cI cJ cB cZ bd u)) u) A t) A) args s 0 0 A) (F0 m 113 ls [])) ∧
      (∀ (t : XT) (li : Nat → Int32) (lj : Nat → Int64) (H : Heap) (locs : List Loc) (ls : Array Slot), wpX12_laysHeights k 10 t li lj Q → lv_has ls 6 [(0, .ref (bd 0)), (1, .int (li 1)), (2, .int (li 2)), (3, .int (li 3)), (4, .int (li 4)), (5, .int (li 5))] → Hp D A s.heap (wM cI cJ cB cZ bd t) H locs → W p l e { frames := 4, cells := 0, slots := 0, locals := 85 } s m args below meth c H locs 0 0 (MQ below (va_Qv (fun u => Q u) (fun u t => xEnd D ((fun u : XT => (wM cI cJ cB cZ bd u)) u) A t) A) args s 0 0 A) (F0 m 146 ls [])) := by
    intro k
    induction k with
    | zero => exact ⟨fun _ _ _ _ _ _ hR => False.elim hR, fun _ _ _ _ _ _ hR => False.elim hR, fun _ _ _ _ _ _ hR => False.elim hR, fun _ _ _ _ _ _ hR => False.elim hR, fun _ _ _ _ _ _ hR => False.elim hR, fun _ _ _ _ _ _ hR => False.elim hR, fun _ _ _ _ _ _ hR => False.elim hR, fun _ _ _ _ _ _ hR => False.elim hR, fun _ _ _ _ _ _ hR => False.elim hR, fun _ _ _ _ _ _ hR => False.elim hR, fun _ _ _ _ _ _ hR => False.elim hR⟩
    | succ k ih =>
      refine ⟨?_, ?_, ?_, ?_, ?_, ?_, ?_, ?_, ?_, ?_, ?_⟩
      · intro t li lj H locs ls hR hl h
        have hR : wbX12_laysHeights_0 (wpX12_laysHeights k) k t li lj Q := hR
        unfold wbX12_laysHeights_0 at hR
        refine lv_iconst (v := 0) hx hb dX12_laysHeights_0 (by decide) ?_
        refine lv_istore_n (lv' := [(1, .int 0), (0, .ref (bd 0))]) hx hb dX12_laysHeights_1 rfl hl (by decide) rfl (fun ls hl => ?_)
        exact ih.2.1 t (uI li 1 0) lj H locs ls hR (lv_sub hl [1, 0] rfl) h
      · intro t li lj H locs ls hR hl h
        have hR : wbX12_laysHeights_1 (wpX12_laysHeights k) k t li lj Q := hR
        unfold wbX12_laysHeights_1 at hR
        refine lv_iload_n hx hb dX12_laysHeights_2 rfl (lv_at hl 1 rfl) ?_
        refine lv_aload_n hx hb dX12_laysHeights_3 rfl (lv_at hl 0 rfl) ?_
        refine x_get (ci := 12) (C := RX12) (T := TX12) (N := 31) (v := .int (t.1 3)) B h hin12 0 5 rfl rfl (by decide) (by decide +kernel) rfl dX12_laysHeights_4 ?_
        refine lv_icmp_ge (tgt := 23) hx hb dX12_laysHeights_7 (by decide) (fun c_1 => ?_) (fun c_1 => ?_)
        · have hR := hR.1 c_1
          refine lv_iconst (v := 1) hx hb dX12_laysHeights_23 (by decide) ?_
          refine lv_istore_n (lv' := [(1, .int 1), (0, .ref (bd 0))]) hx hb dX12_laysHeights_24 rfl hl (by decide) rfl (fun ls hl => ?_)
          exact ih.2.2.1 t (uI li 1 1) lj H locs ls hR (lv_sub hl [1, 0] rfl) h
        · have hR := hR.2 c_1
          refine lv_aload_n hx hb dX12_laysHeights_10 rfl (lv_at hl 0 rfl) ?_
          refine x_get (ci := 12) (C := RX12) (T := TX12) (N := 31) (v := .ref (bd 7)) B h hin12 0 10 rfl rfl (by decide) (by decide +kernel) rfl dX12_laysHeights_11 ?_
          refine lv_iload_n hx hb dX12_laysHeights_14 rfl (lv_at hl 1 rfl) ?_
          refine lv_iconst (v := 0) hx hb dX12_laysHeights_15 (by decide) ?_
          obtain ⟨hb_2, hR⟩ := hR
          refine z_iast (f := (t.2.2.1 6)) B h 7 0 rfl rfl hb_2 dX12_laysHeights_16 (fun H locs h => ?_)
          obtain ⟨t_2, et_2⟩ : ∃ v : XT, v = sA t 6 (upd (t.2.2.1 6) (li 1).toNatClampNeg 0) := ⟨_, rfl⟩
          have hR := hR t_2 et_2
          have h : Hp D A s.heap (wM cI cJ cB cZ bd t_2) H locs := by rw [et_2]; exact h
          obtain ⟨v_3, ev_3⟩ : ∃ v : Int32, v = (li 1) + Int32.ofInt 1 := ⟨_, rfl⟩
          have hR := hR v_3 ev_3
          refine lv_iinc (v := v_3) (lv' := [(1, .int v_3), (0, .ref (bd 0))]) hx hb dX12_laysHeights_17 hl (k := 1) rfl ev_3.symm (by decide) rfl (fun ls hl => ?_)
          refine lv_goto (tgt := 2) hx hb dX12_laysHeights_20 (by decide) ?_
          exact ih.2.1 t_2 (uI li 1 v_3) lj H locs ls hR (lv_sub hl [1, 0] rfl) h
      · intro t li lj H locs ls hR hl h
        have hR : wbX12_laysHeights_2 (wpX12_laysHeights k) k t li lj Q := hR
        unfold wbX12_laysHeights_2 at hR
        refine lv_iload_n hx hb dX12_laysHeights_25 rfl (lv_at hl 1 rfl) ?_
        refine lv_if_eq (tgt := 161) hx hb dX12_laysHeights_26 (by decide) (fun c_4 => ?_) (fun c_4 => ?_)
        · have hR := hR.1 c_4
          exact x_vret (w1 := (fun u : XT => (wM cI cJ cB cZ bd u))) t B h hr hR dX12_laysHeights_161
        · have hR := hR.2 c_4
          refine lv_iconst (v := 0) hx hb dX12_laysHeights_29 (by decide) ?_
          refine lv_istore_n (lv' := [(1, .int 0), (0, .ref (bd 0))]) hx hb dX12_laysHeights_30 rfl hl (by decide) rfl (fun ls hl => ?_)
          refine lv_iconst (v := 0) hx hb dX12_laysHeights_31 (by decide) ?_
          refine lv_istore_n (lv' := [(2, .int 0), (1, .int 0), (0, .ref (bd 0))]) hx hb dX12_laysHeights_32 rfl hl (by decide) rfl (fun ls hl => ?_)
          exact ih.2.2.2.1 t (uI (uI li 1 0) 2 0) lj H locs ls hR (lv_sub hl [2, 1, 0] rfl) h
      · intro t li lj H locs ls hR hl h
        have hR : wbX12_laysHeights_3 (wpX12_laysHeights k) k t li lj Q := hR
        unfold wbX12_laysHeights_3 at hR
        refine lv_iload_n hx hb dX12_laysHeights_33 rfl (lv_at hl 2 rfl) ?_
        refine lv_aload_n hx hb dX12_laysHeights_34 rfl (lv_at hl 0 rfl) ?_
        refine x_get (ci := 12) (C := RX12) (T := TX12) (N := 31) (v := .int (t.1 3)) B h hin12 0 5 rfl rfl (by decide) (by decide +kernel) rfl dX12_laysHeights_35 ?_
        refine lv_icmp_ge (tgt := 158) hx hb dX12_laysHeights_38 (by decide) (fun c_5 => ?_) (fun c_5 => ?_)
        · have hR := hR.1 c_5
          refine lv_goto (tgt := 25) hx hb dX12_laysHeights_158 (by decide) ?_
          exact ih.2.2.1 t li lj H locs ls hR (lv_sub hl [0, 1] rfl) h
        · have hR := hR.2 c_5
          refine lv_iconst (v := 0) hx hb dX12_laysHeights_41 (by decide) ?_
          refine lv_istore_n (lv' := [(3, .int 0), (0, .ref (bd 0)), (1, .int (li 1)), (2, .int (li 2))]) hx hb dX12_laysHeights_42 rfl hl (by decide) rfl (fun ls hl => ?_)
          exact ih.2.2.2.2.1 t (uI li 3 0) lj H locs ls hR (lv_sub hl [1, 2, 3, 0] rfl) h
      · intro t li lj H locs ls hR hl h
        have hR : wbX12_laysHeights_4 (wpX12_laysHeights k) k t li lj Q := hR
        unfold wbX12_laysHeights_4 at hR
        refine lv_iload_n hx hb dX12_laysHeights_43 rfl (lv_at hl 3 rfl) ?_
        refine lv_aload_n hx hb dX12_laysHeights_44 rfl (lv_at hl 0 rfl) ?_
        refine x_get (ci := 12) (C := RX12) (T := TX12) (N := 31) (v := .int (t.1 3)) B h hin12 0 5 rfl rfl (by decide) (by decide +kernel) rfl dX12_laysHeights_45 ?_
        refine lv_icmp_ge (tgt := 152) hx hb dX12_laysHeights_48 (by decide) (fun c_6 => ?_) (fun c_6 => ?_)
        · have hR := hR.1 c_6
          obtain ⟨v_7, ev_7⟩ : ∃ v : Int32, v = (li 2) + Int32.ofInt 1 := ⟨_, rfl⟩
          have hR := hR v_7 ev_7
          refine lv_iinc (v := v_7) (lv' := [(2, .int v_7), (0, .ref (bd 0)), (1, .int (li 1)), (3, .int (li 3))]) hx hb dX12_laysHeights_152 hl (k := 2) rfl ev_7.symm (by decide) rfl (fun ls hl => ?_)
          refine lv_goto (tgt := 33) hx hb dX12_laysHeights_155 (by decide) ?_
          exact ih.2.2.2.1 t (uI li 2 v_7) lj H locs ls hR (lv_sub hl [1, 2, 0] rfl) h
        · have hR := hR.2 c_6
          refine lv_aload_n hx hb dX12_laysHeights_51 rfl (lv_at hl 0 rfl) ?_
          refine lv_iload_n hx hb dX12_laysHeights_52 rfl (lv_at hl 3 rfl) ?_
          refine lv_iload_n hx hb dX12_laysHeights_53 rfl (lv_at hl 2 rfl) ?_
          refine x_cVIF (n := 2) (As := [.int (li 3), .int (li 2)]) (rest := []) B h (wkX12_isFaceThere l D cI cJ cB cZ bd k t (li 3) (li 2) _ hR) ⟨⟨_, rfl⟩, by decide +kernel, Nat.le_of_ble_eq_true rfl, Nat.le_of_ble_eq_true rfl⟩ gX12_laysHeights_X12_isFaceThere (show ((wM cI cJ cB cZ bd t) : va_W)[0]? = some (_, .inr (12, _)) from rfl) rfl rfl hl.1 rfl (Nat.le_of_ble_eq_true rfl) dX12_laysHeights_54 ⟨Nat.le_of_ble_eq_true rfl, Nat.le_of_ble_eq_true rfl⟩ (fun r_8 t_8 H locs hR h => ?_)
          refine lv_if_eq (tgt := 74) hx hb dX12_laysHeights_57 (by decide) (fun c_9 => ?_) (fun c_9 => ?_)
          · have hR := hR.1 c_9
            exact ih.2.2.2.2.2.1 t_8 li lj H locs ls hR (lv_sub hl [0, 1, 2, 3] rfl) h
          · have hR := hR.2 c_9
            refine lv_aload_n hx hb dX12_laysHeights_60 rfl (lv_at hl 0 rfl) ?_
            refine x_get (ci := 12) (C := RX12) (T := TX12) (N := 31) (v := .ref (bd 5)) B h hin12 0 8 rfl rfl (by decide) (by decide +kernel) rfl dX12_laysHeights_61 ?_
            refine lv_iload_n hx hb dX12_laysHeights_64 rfl (lv_at hl 2 rfl) ?_
            obtain ⟨hb_10, hR⟩ := hR
            refine va_iald (f := (t_8.2.2.1 4)) hx hb B.2.1 h.1 5 0 rfl rfl hb_10 dX12_laysHeights_65 ?_
            refine lv_topi (fun v_10 ev_10 => ?_)
            have hR := hR v_10 ev_10
            refine lv_iload_n hx hb dX12_laysHeights_66 rfl (lv_at hl 3 rfl) ?_
            refine lv_icmp_eq (tgt := 74) hx hb dX12_laysHeights_67 (by decide) (fun c_11 => ?_) (fun c_11 => ?_)
            · have hR := hR.1 c_11
              exact ih.2.2.2.2.2.1 t_8 li lj H locs ls hR (lv_sub hl [0, 1, 2, 3] rfl) h
            · have hR := hR.2 c_11
              refine lv_iconst (v := 1) hx hb dX12_laysHeights_70 (by decide) ?_
              refine lv_goto (tgt := 75) hx hb dX12_laysHeights_71 (by decide) ?_
              exact ih.2.2.2.2.2.2.1 t_8 (uI li 100 1) lj H locs ls hR (lv_sub hl [0, 1, 2, 3] rfl) h
      · intro t li lj H locs ls hR hl h
        have hR : wbX12_laysHeights_5 (wpX12_laysHeights k) k t li lj Q := hR
        unfold wbX12_laysHeights_5 at hR
        refine lv_iconst (v := 0) hx hb dX12_laysHeights_74 (by decide) ?_
        exact ih.2.2.2.2.2.2.1 t (uI li 100 0) lj H locs ls hR (lv_sub hl [0, 1, 2, 3] rfl) h
      · intro t li lj H locs ls hR hl h
        have hR : wbX12_laysHeights_6 (wpX12_laysHeights k) k t li lj Q := hR
        unfold wbX12_laysHeights_6 at hR
        refine lv_istore (lv' := [(4, .int (li 100)), (0, .ref (bd 0)), (1, .int (li 1)), (2, .int (li 2)), (3, .int (li 3))]) hx hb dX12_laysHeights_75 hl (by decide) rfl (fun ls hl => ?_)
        refine lv_aload_n hx hb dX12_laysHeights_77 rfl (lv_at hl 1 rfl) ?_
        refine lv_iload_n hx hb dX12_laysHeights_78 rfl (lv_at hl 3 rfl) ?_
        refine lv_iload_n hx hb dX12_laysHeights_79 rfl (lv_at hl 4 rfl) ?_
        refine x_cVIF (n := 2) (As := [.int (li 2), .int (li 3)]) (rest := []) B h (wkX12_isFaceThere l D cI cJ cB cZ bd k t (li 2) (li 3) _ hR) ⟨⟨_, rfl⟩, by decide +kernel, Nat.le_of_ble_eq_true rfl, Nat.le_of_ble_eq_true rfl⟩ gX12_laysHeights_X12_isFaceThere (show ((wM cI cJ cB cZ bd t) : va_W)[0]? = some (_, .inr (12, _)) from rfl) rfl rfl hl.1 rfl (Nat.le_of_ble_eq_true rfl) dX12_laysHeights_80 ⟨Nat.le_of_ble_eq_true rfl, Nat.le_of_ble_eq_true rfl⟩ (fun r_12 t_12 H locs hR h => ?_)
        refine lv_if_eq (tgt := 100) hx hb dX12_laysHeights_83 (by decide) (fun c_13 => ?_) (fun c_13 => ?_)
        · have hR := hR.1 c_13
          exact ih.2.2.2.2.2.2.2.1 t_12 (uI li 4 (li 100)) lj H locs ls hR (lv_sub hl [1, 2, 3, 4, 0] rfl) h
        · have hR := hR.2 c_13
          refine lv_aload_n hx hb dX12_laysHeights_86 rfl (lv_at hl 1 rfl) ?_
          refine x_get (ci := 12) (C := RX12) (T := TX12) (N := 31) (v := .ref (bd 5)) B h hin12 0 8 rfl rfl (by decide) (by decide +kernel) rfl dX12_laysHeights_87 ?_
          refine lv_iload_n hx hb dX12_laysHeights_90 rfl (lv_at hl 3 rfl) ?_
          obtain ⟨hb_14, hR⟩ := hR
          refine va_iald (f := (t_12.2.2.1 4)) hx hb B.2.1 h.1 5 0 rfl rfl hb_14 dX12_laysHeights_91 ?_
          refine lv_topi (fun v_14 ev_14 => ?_)
          have hR := hR v_14 ev_14
          refine lv_iload_n hx hb dX12_laysHeights_92 rfl (lv_at hl 4 rfl) ?_
          refine lv_icmp_ne (tgt := 100) hx hb dX12_laysHeights_93 (by decide) (fun c_15 => ?_) (fun c_15 => ?_)
          · have hR := hR.1 c_15
            exact ih.2.2.2.2.2.2.2.1 t_12 (uI li 4 (li 100)) lj H locs ls hR (lv_sub hl [1, 2, 3, 4, 0] rfl) h
          · have hR := hR.2 c_15
            refine lv_iconst (v := 1) hx hb dX12_laysHeights_96 (by decide) ?_
            refine lv_goto (tgt := 101) hx hb dX12_laysHeights_97 (by decide) ?_
            exact ih.2.2.2.2.2.2.2.2.1 t_12 (uI (uI li 4 (li 100)) 100 1) lj H locs ls hR (lv_sub hl [1, 2, 3, 4, 0] rfl) h
      · intro t li lj H locs ls hR hl h
        have hR : wbX12_laysHeights_7 (wpX12_laysHeights k) k t li lj Q := hR
        unfold wbX12_laysHeights_7 at hR
        refine lv_iconst (v := 0) hx hb dX12_laysHeights_100 (by decide) ?_
        exact ih.2.2.2.2.2.2.2.2.1 t (uI li 100 0) lj H locs ls hR (lv_sub hl [0, 1, 2, 3, 4] rfl) h
      · intro t li lj H locs ls hR hl h
        have hR : wbX12_laysHeights_8 (wpX12_laysHeights k) k t li lj Q := hR
        unfold wbX12_laysHeights_8 at hR
        refine lv_istore (lv' := [(5, .int (li 100)), (0, .ref (bd 0)), (1, .int (li 1)), (2, .int (li 2)), (3, .int (li 3)), (4, .int (li 4))]) hx hb dX12_laysHeights_101 hl (by decide) rfl (fun ls hl => ?_)
        refine lv_iload hx hb dX12_laysHeights_103 (lv_at hl 5 rfl) ?_
        refine lv_if_ne (tgt := 113) hx hb dX12_laysHeights_105 (by decide) (fun c_16 => ?_) (fun c_16 => ?_)
        · have hR := hR.1 c_16
          exact ih.2.2.2.2.2.2.2.2.2.1 t (uI li 5 (li 100)) lj H locs ls hR (lv_sub hl [1, 2, 3, 4, 5, 0] rfl) h
        · have hR := hR.2 c_16
          refine lv_iload hx hb dX12_laysHeights_108 (lv_at hl 0 rfl) ?_
          refine lv_if_eq (tgt := 146) hx hb dX12_laysHeights_110 (by decide) (fun c_17 => ?_) (fun c_17 => ?_)
          · have hR := hR.1 c_17
            exact ih.2.2.2.2.2.2.2.2.2.2 t (uI li 5 (li 100)) lj H locs ls hR (lv_sub hl [1, 2, 3, 4, 5, 0] rfl) h
          · have hR := hR.2 c_17
            exact ih.2.2.2.2.2.2.2.2.2.1 t (uI li 5 (li 100)) lj H locs ls hR (lv_sub hl [1, 2, 3, 4, 5, 0] rfl) h
      · intro t li lj H locs ls hR hl h
        have hR : wbX12_laysHeights_9 (wpX12_laysHeights k) k t li lj Q := hR
        unfold wbX12_laysHeights_9 at hR
        refine lv_aload_n hx hb dX12_laysHeights_113 rfl (lv_at hl 0 rfl) ?_
        refine x_get (ci := 12) (C := RX12) (T := TX12) (N := 31) (v := .ref (bd 7)) B h hin12 0 10 rfl rfl (by decide) (by decide +kernel) rfl dX12_laysHeights_114 ?_
        refine lv_iload_n hx hb dX12_laysHeights_117 rfl (lv_at hl 2 rfl) ?_
        obtain ⟨hb_18, hR⟩ := hR
        refine va_iald (f := (t.2.2.1 6)) hx hb B.2.1 h.1 7 0 rfl rfl hb_18 dX12_laysHeights_118 ?_
        refine lv_topi (fun v_18 ev_18 => ?_)
        have hR := hR v_18 ev_18
        refine lv_aload_n hx hb dX12_laysHeights_119 rfl (lv_at hl 0 rfl) ?_
        refine x_get (ci := 12) (C := RX12) (T := TX12) (N := 31) (v := .ref (bd 7)) B h hin12 0 10 rfl rfl (by decide) (by decide +kernel) rfl dX12_laysHeights_120 ?_
        refine lv_iload_n hx hb dX12_laysHeights_123 rfl (lv_at hl 3 rfl) ?_
        obtain ⟨hb_19, hR⟩ := hR
        refine va_iald (f := (t.2.2.1 6)) hx hb B.2.1 h.1 7 0 rfl rfl hb_19 dX12_laysHeights_124 ?_
        refine lv_topi (fun v_19 ev_19 => ?_)
        have hR := hR v_19 ev_19
        refine lv_iconst (v := 1) hx hb dX12_laysHeights_125 (by decide) ?_
        refine lv_iadd hx hb dX12_laysHeights_126 ?_
        refine lv_topi (fun v_20 ev_20 => ?_)
        have hR := hR v_20 ev_20
        refine lv_icmp_ge (tgt := 146) hx hb dX12_laysHeights_127 (by decide) (fun c_21 => ?_) (fun c_21 => ?_)
        · have hR := hR.1 c_21
          exact ih.2.2.2.2.2.2.2.2.2.2 t li lj H locs ls hR (lv_sub hl [0, 1, 2, 3, 4, 5] rfl) h
        · have hR := hR.2 c_21
          refine lv_aload_n hx hb dX12_laysHeights_130 rfl (lv_at hl 0 rfl) ?_
          refine x_get (ci := 12) (C := RX12) (T := TX12) (N := 31) (v := .ref (bd 7)) B h hin12 0 10 rfl rfl (by decide) (by decide +kernel) rfl dX12_laysHeights_131 ?_
          refine lv_iload_n hx hb dX12_laysHeights_134 rfl (lv_at hl 2 rfl) ?_
          refine lv_aload_n hx hb dX12_laysHeights_135 rfl (lv_at hl 0 rfl) ?_
          refine x_get (ci := 12) (C := RX12) (T := TX12) (N := 31) (v := .ref (bd 7)) B h hin12 0 10 rfl rfl (by decide) (by decide +kernel) rfl dX12_laysHeights_136 ?_
          refine lv_iload_n hx hb dX12_laysHeights_139 rfl (lv_at hl 3 rfl) ?_
          obtain ⟨hb_22, hR⟩ := hR
          refine va_iald (f := (t.2.2.1 6)) hx hb B.2.1 h.1 7 0 rfl rfl hb_22 dX12_laysHeights_140 ?_
          refine lv_topi (fun v_22 ev_22 => ?_)
          have hR := hR v_22 ev_22
          refine lv_iconst (v := 1) hx hb dX12_laysHeights_141 (by decide) ?_
          refine lv_iadd hx hb dX12_laysHeights_142 ?_
          refine lv_topi (fun v_23 ev_23 => ?_)
          have hR := hR v_23 ev_23
          obtain ⟨hb_24, hR⟩ := hR
          refine z_iast (f := (t.2.2.1 6)) B h 7 0 rfl rfl hb_24 dX12_laysHeights_143 (fun H locs h => ?_)
          obtain ⟨t_24, et_24⟩ : ∃ v : XT, v = sA t 6 (upd (t.2.2.1 6) (li 2).toNatClampNeg v_23) := ⟨_, rfl⟩
          have hR := hR t_24 et_24
          have h : Hp D A s.heap (wM cI cJ cB cZ bd t_24) H locs := by rw [et_24]; exact h
          refine lv_iconst (v := 1) hx hb dX12_laysHeights_144 (by decide) ?_
          refine lv_istore_n (lv' := [(1, .int 1), (0, .ref (bd 0)), (2, .int (li 2)), (3, .int (li 3)), (4, .int (li 4)), (5, .int (li 5))]) hx hb dX12_laysHeights_145 rfl hl (by decide) rfl (fun ls hl => ?_)
          exact ih.2.2.2.2.2.2.2.2.2.2 t_24 (uI li 1 1) lj H locs ls hR (lv_sub hl [1, 0, 2, 3, 4, 5] rfl) h
      · intro t li lj H locs ls hR hl h
        have hR : wbX12_laysHeights_10 (wpX12_laysHeights k) k t li lj Q := hR
        unfold wbX12_laysHeights_10 at hR
        obtain ⟨v_25, ev_25⟩ : ∃ v : Int32, v = (li 3) + Int32.ofInt 1 := ⟨_, rfl⟩
        have hR := hR v_25 ev_25
        refine lv_iinc (v := v_25) (lv' := [(3, .int v_25), (0, .ref (bd 0)), (1, .int (li 1)), (2, .int (li 2)), (4, .int (li 4)), (5, .int (li 5))]) hx hb dX12_laysHeights_146 hl (k := 3) rfl ev_25.symm (by decide) rfl (fun ls hl => ?_)
        refine lv_goto (tgt := 43) hx hb dX12_laysHeights_149 (by decide) ?_
        exact ih.2.2.2.2.1 t (uI li 3 v_25) lj H locs ls hR (lv_sub hl [1, 2, 3, 0] rfl) h
  exact (main k).1 t _ _ s.heap [] ls hR hl h
set_option maxRecDepth 20000 in
theorem ggX12_facesOver_X12_isFaceThere : GoodIn wsX12_facesOver wsX12_isFaceThere := goodIn_r _ [6, 7, 8, 9, 10, 5, 11, 12, 13, 14, 15, 16, 17, 18, 19, 20, 21, 22, 23, 27, 28, 29, 30, 31, 32, 33, 34, 35, 36, 37, 38, 39, 40, 41, 42, 43, 44, 45, 46, 47, 48, 49, 50, 51, 52, 53, 54, 55, 56, 57] (by decide +kernel) (by decide +kernel)
set_option maxRecDepth 20000 in
theorem gX12_facesOver_X12_isFaceThere : GoodIn wsX12_facesOver (wsV RX12 162 RX12 yX12_isFaceThere wsX12_isFaceThere) := goodIn_app (goodIn_of _ (by decide +kernel)) ggX12_facesOver_X12_isFaceThere
set_option maxRecDepth 20000 in
theorem ggX12_facesOver_X12_truth : GoodIn wsX12_facesOver wsX12_truth := goodIn_r _ [26] (by decide +kernel) (by decide +kernel)
set_option maxRecDepth 20000 in
theorem gX12_facesOver_X12_truth : GoodIn wsX12_facesOver (va_wsS RX12 105 yX12_truth wsX12_truth) := goodIn_app (goodIn_of _ (by decide +kernel)) ggX12_facesOver_X12_truth
def wbX12_facesOver_0 (rec : Nat → XT → (Nat → Int32) → (Nat → Int64) → (Int32 → XT → Prop) → Prop) (k : Nat) (t : XT) (li : Nat → Int32) (lj : Nat → Int64) (Q : Int32 → XT → Prop) : Prop :=
  rec 1 t (uI (uI li 2 0) 3 0) lj Q
def wbX12_facesOver_1 (rec : Nat → XT → (Nat → Int32) → (Nat → Int64) → (Int32 → XT → Prop) → Prop) (k : Nat) (t : XT) (li : Nat → Int32) (lj : Nat → Int64) (Q : Int32 → XT → Prop) : Prop :=
  ((((t.1 3) : Int32) ≤ (li 3)) → Q (li 2) t) ∧ (¬ (((t.1 3) : Int32) ≤ (li 3)) → (wqX12_isFaceThere k t (li 1) (li 3) (fun r_2 t_2 => (wqX12_truth k r_2 (fun r_3 => (∀ v_4 : Int32, v_4 = ((li 2) + r_3) → (∀ v_5 : Int32, v_5 = (li 3) + Int32.ofInt 1 → rec 1 t_2 (uI (uI li 2 v_4) 3 v_5) lj Q)))))))
def wpX12_facesOver : Nat → Nat → XT → (Nat → Int32) → (Nat → Int64) → (Int32 → XT → Prop) → Prop
  | 0, _, _, _, _, _ => False
  | k + 1, 0, t, li, lj, Q => wbX12_facesOver_0 (wpX12_facesOver k) k t li lj Q
  | k + 1, 1, t, li, lj, Q => wbX12_facesOver_1 (wpX12_facesOver k) k t li lj Q
  | _ + 1, _, _, _, _, _ => False
def wqX12_facesOver (k : Nat) (t : XT) (a1 : Int32) (Q : Int32 → XT → Prop) : Prop := wpX12_facesOver k 0 t (uI (fun _ => 0) 1 a1) (fun _ => 0) Q
set_option maxHeartbeats 8000000 in
set_option maxRecDepth 100000 in
theorem wkX12_facesOver (l : Launch) (D : va_G) (cI cJ cB cZ : ClassId) (bd : Nat → Nat) (k : Nat) (t : XT) (a1 : Int32) (Q : Int32 → XT → Prop) (hR : wqX12_facesOver k t a1 Q) : MetI l yX12_facesOver wsX12_facesOver 4 85 0 0 D (TYS cI cJ cB cZ) (wM cI cJ cB cZ bd t) [.ref (bd 0), .int a1] (fun r u => Q r u) (fun u : XT => (wM cI cJ cB cZ bd u)) := by
  refine x_startI (ty := .int) (cc := cX12_facesOver) (by decide) rfl (Nat.le_of_ble_eq_true rfl) ?_
  intro p e s m args below meth c A ls B hr hnm h hl
  have hx := B.1.1
  have hb := B.1.2.1
  have hml := B.1.2.2.1
  have hts := B.1.2.2.2.2
  have hown : s.vm.findClass RX12 = some m.cls := B.1.2.2.2.1
  have hin12 : ∀ w ∈ u_ws RX12 TX12 31, w ∈ wsX12_facesOver := by decide +kernel
  have main : ∀ k : Nat, (∀ (t : XT) (li : Nat → Int32) (lj : Nat → Int64) (H : Heap) (locs : List Loc) (ls : Array Slot), wpX12_facesOver k 0 t li lj Q → lv_has ls 4 [(0, .ref (bd 0)), (1, .int (li 1))] → Hp D A s.heap (wM cI cJ cB cZ bd t) H locs → W p l e { frames := 4, cells := 0, slots := 0, locals := 85 } s m args below meth c H locs 0 0 (MQ below (va_Qi (fun r u => Q r u) (fun u t => xEnd D ((fun u : XT => (wM cI cJ cB cZ bd u)) u) A t) A) args s 0 0 A) (F0 m 0 ls [])) ∧
      (∀ (t : XT) (li : Nat → Int32) (lj : Nat → Int64) (H : Heap) (locs : List Loc) (ls : Array Slot), wpX12_facesOver k 1 t li lj Q → lv_has ls 4 [(0, .ref (bd 0)), (1, .int (li 1)), (2, .int (li 2)), (3, .int (li 3))] → Hp D A s.heap (wM cI cJ cB cZ bd t) H locs → W p l e { frames := 4, cells := 0, slots := 0, locals := 85 } s m args below meth c H locs 0 0 (MQ below (va_Qi (fun r u => Q r u) (fun u t => xEnd D ((fun u : XT => (wM cI cJ cB cZ bd u)) u) A t) A) args s 0 0 A) (F0 m 4 ls [])) := by
    intro k
    induction k with
    | zero => exact ⟨fun _ _ _ _ _ _ hR => False.elim hR, fun _ _ _ _ _ _ hR => False.elim hR⟩
    | succ k ih =>
      refine ⟨?_, ?_⟩
      · intro t li lj H locs ls hR hl h
        have hR : wbX12_facesOver_0 (wpX12_facesOver k) k t li lj Q := hR
        unfold wbX12_facesOver_0 at hR
        refine lv_iconst (v := 0) hx hb dX12_facesOver_0 (by decide) ?_
        refine lv_istore_n (lv' := [(2, .int 0), (0, .ref (bd 0)), (1, .int (li 1))]) hx hb dX12_facesOver_1 rfl hl (by decide) rfl (fun ls hl => ?_)
        refine lv_iconst (v := 0) hx hb dX12_facesOver_2 (by decide) ?_
        refine lv_istore_n (lv' := [(3, .int 0), (2, .int 0), (0, .ref (bd 0)), (1, .int (li 1))]) hx hb dX12_facesOver_3 rfl hl (by decide) rfl (fun ls hl => ?_)
        exact ih.2 t (uI (uI li 2 0) 3 0) lj H locs ls hR (lv_sub hl [2, 3, 1, 0] rfl) h
      · intro t li lj H locs ls hR hl h
        have hR : wbX12_facesOver_1 (wpX12_facesOver k) k t li lj Q := hR
        unfold wbX12_facesOver_1 at hR
        refine lv_iload_n hx hb dX12_facesOver_4 rfl (lv_at hl 3 rfl) ?_
        refine lv_aload_n hx hb dX12_facesOver_5 rfl (lv_at hl 0 rfl) ?_
        refine x_get (ci := 12) (C := RX12) (T := TX12) (N := 31) (v := .int (t.1 3)) B h hin12 0 5 rfl rfl (by decide) (by decide +kernel) rfl dX12_facesOver_6 ?_
        refine lv_icmp_ge (tgt := 30) hx hb dX12_facesOver_9 (by decide) (fun c_1 => ?_) (fun c_1 => ?_)
        · have hR := hR.1 c_1
          refine lv_iload_n hx hb dX12_facesOver_30 rfl (lv_at hl 2 rfl) ?_
          exact x_iret (w1 := (fun u : XT => (wM cI cJ cB cZ bd u))) t B h hr rfl hR dX12_facesOver_31
        · have hR := hR.2 c_1
          refine lv_iload_n hx hb dX12_facesOver_12 rfl (lv_at hl 2 rfl) ?_
          refine lv_aload_n hx hb dX12_facesOver_13 rfl (lv_at hl 0 rfl) ?_
          refine lv_iload_n hx hb dX12_facesOver_14 rfl (lv_at hl 1 rfl) ?_
          refine lv_iload_n hx hb dX12_facesOver_15 rfl (lv_at hl 3 rfl) ?_
          refine x_cVIF (n := 2) (As := [.int (li 1), .int (li 3)]) (rest := [.int (li 2)]) B h (wkX12_isFaceThere l D cI cJ cB cZ bd k t (li 1) (li 3) _ hR) ⟨⟨_, rfl⟩, by decide +kernel, Nat.le_of_ble_eq_true rfl, Nat.le_of_ble_eq_true rfl⟩ gX12_facesOver_X12_isFaceThere (show ((wM cI cJ cB cZ bd t) : va_W)[0]? = some (_, .inr (12, _)) from rfl) rfl rfl hl.1 rfl (Nat.le_of_ble_eq_true rfl) dX12_facesOver_16 ⟨Nat.le_of_ble_eq_true rfl, Nat.le_of_ble_eq_true rfl⟩ (fun r_2 t_2 H locs hR h => ?_)
          refine x_cSIE (n := 1) (As := [.int r_2]) (rest := [.int (li 2)]) B h (wkX12_truth l D cI cJ cB cZ bd k r_2 _ hR) ⟨⟨_, rfl⟩, by decide +kernel, Nat.le_of_ble_eq_true rfl, Nat.le_of_ble_eq_true rfl⟩ gX12_facesOver_X12_truth rfl hl.1 rfl (Nat.le_of_ble_eq_true rfl) dX12_facesOver_19 ⟨Nat.le_of_ble_eq_true rfl, Nat.le_of_ble_eq_true rfl⟩ (fun r_3 _ H locs hR h => ?_)
          refine lv_iadd hx hb dX12_facesOver_22 ?_
          refine lv_topi (fun v_4 ev_4 => ?_)
          have hR := hR v_4 ev_4
          refine lv_istore_n (lv' := [(2, .int v_4), (0, .ref (bd 0)), (1, .int (li 1)), (3, .int (li 3))]) hx hb dX12_facesOver_23 rfl hl (by decide) rfl (fun ls hl => ?_)
          obtain ⟨v_5, ev_5⟩ : ∃ v : Int32, v = (li 3) + Int32.ofInt 1 := ⟨_, rfl⟩
          have hR := hR v_5 ev_5
          refine lv_iinc (v := v_5) (lv' := [(3, .int v_5), (2, .int v_4), (0, .ref (bd 0)), (1, .int (li 1))]) hx hb dX12_facesOver_24 hl (k := 3) rfl ev_5.symm (by decide) rfl (fun ls hl => ?_)
          refine lv_goto (tgt := 4) hx hb dX12_facesOver_27 (by decide) ?_
          exact ih.2 t_2 (uI (uI li 2 v_4) 3 v_5) lj H locs ls hR (lv_sub hl [2, 3, 1, 0] rfl) h
  exact (main k).1 t _ _ s.heap [] ls hR hl h
