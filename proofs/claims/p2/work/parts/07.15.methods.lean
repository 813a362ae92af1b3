set_option maxRecDepth 20000 in
theorem ggX12_pair_X12_isThere : GoodIn wsX12_pair wsX12_isThere := goodIn_r _ [6, 7, 8, 9, 10, 5, 11, 12, 13, 14, 15, 74, 75, 76, 77, 78, 79, 80, 81, 82, 83, 84, 85, 86, 87, 88, 89, 90, 91, 92, 93, 94, 95, 96, 97, 98, 99, 100, 101, 102, 103, 104] (by decide +kernel) (by decide +kernel)
set_option maxRecDepth 20000 in
theorem gX12_pair_X12_isThere : GoodIn wsX12_pair (wsV RX12 156 RX12 yX12_isThere wsX12_isThere) := goodIn_app (goodIn_of _ (by decide +kernel)) ggX12_pair_X12_isThere
set_option maxRecDepth 20000 in
theorem ggX12_pair_X12_isFace : GoodIn wsX12_pair wsX12_isFace := goodIn_r _ [19, 20, 21, 22, 23, 5, 24, 25, 26, 27, 28, 29, 30, 31, 74, 75, 76, 77, 78, 79, 80, 81, 82, 83, 84, 85, 86, 87, 88, 89, 90, 91, 92, 93, 94, 95, 96, 97, 98, 99, 100, 101, 102, 103, 104] (by decide +kernel) (by decide +kernel)
set_option maxRecDepth 20000 in
theorem gX12_pair_X12_isFace : GoodIn wsX12_pair (wsV RX12 152 RX12 yX12_isFace wsX12_isFace) := goodIn_app (goodIn_of _ (by decide +kernel)) ggX12_pair_X12_isFace
set_option maxRecDepth 20000 in
theorem ggX12_pair_X12_isFree : GoodIn wsX12_pair wsX12_isFree := goodIn_r _ [35, 1, 74, 75, 76, 77, 78, 79, 80, 81, 82, 83, 84, 85, 86, 87, 88, 89, 90, 91, 92, 93, 94, 95, 96, 97, 98, 99, 100, 101, 102, 103, 104] (by decide +kernel) (by decide +kernel)
set_option maxRecDepth 20000 in
theorem gX12_pair_X12_isFree : GoodIn wsX12_pair (wsV RX12 185 RX12 yX12_isFree wsX12_isFree) := goodIn_app (goodIn_of _ (by decide +kernel)) ggX12_pair_X12_isFree
set_option maxRecDepth 20000 in
theorem ggX12_pair_X12_couples : GoodIn wsX12_pair wsX12_couples := goodIn_r _ [39, 1, 40, 41, 42, 5, 43, 12, 44, 45, 46, 47, 48, 49, 50, 51, 52, 53, 54, 55, 16, 17, 18, 19, 20, 21, 22, 23, 24, 25, 26, 27, 28, 29, 30, 31, 74, 75, 76, 77, 78, 79, 80, 81, 82, 83, 84, 85, 86, 87, 88, 89, 90, 91, 92, 93, 94, 95, 96, 97, 98, 99, 100, 101, 102, 103, 104] (by decide +kernel) (by decide +kernel)
set_option maxRecDepth 20000 in
theorem gX12_pair_X12_couples : GoodIn wsX12_pair (wsV RX12 188 RX12 yX12_couples wsX12_couples) := goodIn_app (goodIn_of _ (by decide +kernel)) ggX12_pair_X12_couples
set_option maxRecDepth 20000 in
theorem ggX12_pair_X12_frees : GoodIn wsX12_pair wsX12_frees := goodIn_r _ [59, 1, 74, 75, 76, 77, 78, 79, 80, 81, 82, 83, 84, 85, 86, 87, 88, 89, 90, 91, 92, 93, 94, 95, 96, 97, 98, 99, 100, 101, 102, 103, 104] (by decide +kernel) (by decide +kernel)
set_option maxRecDepth 20000 in
theorem gX12_pair_X12_frees : GoodIn wsX12_pair (wsV RX12 191 RX12 yX12_frees wsX12_frees) := goodIn_app (goodIn_of _ (by decide +kernel)) ggX12_pair_X12_frees
set_option maxRecDepth 20000 in
theorem ggX12_pair_X12_remembers : GoodIn wsX12_pair wsX12_remembers := goodIn_r _ [63, 64, 65, 1, 7, 49, 50, 5, 51, 74, 75, 76, 77, 78, 79, 80, 81, 82, 83, 84, 85, 86, 87, 88, 89, 90, 91, 92, 93, 94, 95, 96, 97, 98, 99, 100, 101, 102, 103, 104] (by decide +kernel) (by decide +kernel)
set_option maxRecDepth 20000 in
theorem gX12_pair_X12_remembers : GoodIn wsX12_pair (wsV RX12 194 RX12 yX12_remembers wsX12_remembers) := goodIn_app (goodIn_of _ (by decide +kernel)) ggX12_pair_X12_remembers
set_option maxRecDepth 20000 in
theorem ggX12_pair_X12_criticalMany : GoodIn wsX12_pair wsX12_criticalMany := goodIn_r _ [69, 12, 70, 71, 72, 5, 73, 1, 2, 3, 4, 6, 7, 8, 9, 10, 11, 13, 14, 15, 49, 50, 51, 74, 75, 76, 77, 78, 79, 80, 81, 82, 83, 84, 85, 86, 87, 88, 89, 90, 91, 92, 93, 94, 95, 96, 97, 98, 99, 100, 101, 102, 103, 104] (by decide +kernel) (by decide +kernel)
set_option maxRecDepth 20000 in
theorem gX12_pair_X12_criticalMany : GoodIn wsX12_pair (wsV RX12 197 RX12 yX12_criticalMany wsX12_criticalMany) := goodIn_app (goodIn_of _ (by decide +kernel)) ggX12_pair_X12_criticalMany
def wbX12_pair_0 (rec : Nat → XT → (Nat → Int32) → (Nat → Int64) → (Int32 → XT → Prop) → Prop) (k : Nat) (t : XT) (li : Nat → Int32) (lj : Nat → Int64) (Q : Int32 → XT → Prop) : Prop :=
  (wqX12_isThere k t (li 1) (fun r_1 t_1 => ((r_1 = 0) → rec 1 t_1 li lj Q) ∧ (¬ (r_1 = 0) → (wqX12_isThere k t_1 (li 2) (fun r_3 t_3 => ((r_3 = 0) → rec 1 t_3 li lj Q) ∧ (¬ (r_3 = 0) → (wqX12_isFace k t_3 (li 1) (li 2) (fun r_5 t_5 => ((r_5 = 0) → rec 1 t_5 li lj Q) ∧ (¬ (r_5 = 0) → (wqX12_isFree k t_5 (li 1) (li 2) (fun r_7 t_7 => ((¬ r_7 = 0) → (wqX12_couples k t_7 (li 1) (li 2) (fun r_9 t_9 => ((¬ r_9 = 0) → (wqX12_frees k t_9 (li 1) (fun t_11 => (wqX12_remembers k t_11  (fun t_12 => (vp_in (li 1) 60 ∧ (∀ t_13 : XT, t_13 = sA t_12 4 (upd (t_12.2.2.1 4) (li 1).toNatClampNeg (li 2)) → (vp_in (li 2) 60 ∧ (∀ t_14 : XT, t_14 = sA t_13 4 (upd (t_13.2.2.1 4) (li 2).toNatClampNeg (li 1)) → (wqX12_criticalMany k t_14  (fun r_15 t_15 => Q r_15 t_15))))))))))) ∧ ((r_9 = 0) → Q (-2) t_9)))) ∧ ((r_7 = 0) → rec 1 t_7 li lj Q))))))))))))
def wbX12_pair_1 (rec : Nat → XT → (Nat → Int32) → (Nat → Int64) → (Int32 → XT → Prop) → Prop) (k : Nat) (t : XT) (li : Nat → Int32) (lj : Nat → Int64) (Q : Int32 → XT → Prop) : Prop :=
  Q (-1) t
def wpX12_pair : Nat → Nat → XT → (Nat → Int32) → (Nat → Int64) → (Int32 → XT → Prop) → Prop
  | 0, _, _, _, _, _ => False
  | k + 1, 0, t, li, lj, Q => wbX12_pair_0 (wpX12_pair k) k t li lj Q
  | k + 1, 1, t, li, lj, Q => wbX12_pair_1 (wpX12_pair k) k t li lj Q
  | _ + 1, _, _, _, _, _ => False
def wqX12_pair (k : Nat) (t : XT) (a1 : Int32) (a2 : Int32) (Q : Int32 → XT → Prop) : Prop := wpX12_pair k 0 t (uI (uI (fun _ => 0) 1 a1) 2 a2) (fun _ => 0) Q
set_option maxHeartbeats 8000000 in
set_option maxRecDepth 100000 in
theorem wkX12_pair (l : Launch) (D : va_G) (cI cJ cB cZ : ClassId) (bd : Nat → Nat) (k : Nat) (t : XT) (a1 : Int32) (a2 : Int32) (Q : Int32 → XT → Prop) (hR : wqX12_pair k t a1 a2 Q) : MetI l yX12_pair wsX12_pair 6 129 0 0 D (TYS cI cJ cB cZ) (wM cI cJ cB cZ bd t) [.ref (bd 0), .int a1, .int a2] (fun r u => Q r u) (fun u : XT => (wM cI cJ cB cZ bd u)) := by
  refine x_startI (ty := .int) (cc := cX12_pair) (by decide) rfl (Nat.le_of_ble_eq_true rfl) ?_
  intro p e s m args below meth c A ls B hr hnm h hl
  have hx := B.1.1
  have hb := B.1.2.1
  have hml := B.1.2.2.1
  have hts := B.1.2.2.2.2
  have hown : s.vm.findClass RX12 = some m.cls := B.1.2.2.2.1
  have hin12 : ∀ w ∈ u_ws RX12 TX12 31, w ∈ wsX12_pair := by decide +kernel
  have main : ∀ k : Nat, (∀ (t : XT) (li : Nat → Int32) (lj : Nat → Int64) (H : Heap) (locs : List Loc) (ls : Array Slot), wpX12_pair k 0 t li lj Q → lv_has ls 3 [(0, .ref (bd 0)), (1, .int (li 1)), (2, .int (li 2))] → Hp D A s.heap (wM cI cJ cB cZ bd t) H locs → W p l e { frames := 6, cells := 0, slots := 0, locals := 129 } s m args below meth c H locs 0 0 (MQ below (va_Qi (fun r u => Q r u) (fun u t => xEnd D ((fun u : XT => (wM cI cJ cB cZ bd u)) u) A t) A) args s 0 0 A) (F0 m 0 ls [])) ∧
      (∀ (t : XT) (li : Nat → Int32) (lj : Nat → Int64) (H : Heap) (locs : List Loc) (ls : Array Slot), wpX12_pair k 1 t li lj Q → lv_has ls 3 [(0, .ref (bd 0)), (1, .int (li 1)), (2, .int (li 2))] → Hp D A s.heap (wM cI cJ cB cZ bd t) H locs → W p l e { frames := 6, cells := 0, slots := 0, locals := 129 } s m args below meth c H locs 0 0 (MQ below (va_Qi (fun r u => Q r u) (fun u t => xEnd D ((fun u : XT => (wM cI cJ cB cZ bd u)) u) A t) A) args s 0 0 A) (F0 m 34 ls [])) := by
    intro k
    induction k with
    | zero => exact ⟨fun _ _ _ _ _ _ hR => False.elim hR, fun _ _ _ _ _ _ hR => False.elim hR⟩
    | succ k ih =>
      refine ⟨?_, ?_⟩
      · intro t li lj H locs ls hR hl h
        have hR : wbX12_pair_0 (wpX12_pair k) k t li lj Q := hR
        unfold wbX12_pair_0 at hR
        refine lv_aload_n hx hb dX12_pair_0 rfl (lv_at hl 0 rfl) ?_
        refine lv_iload_n hx hb dX12_pair_1 rfl (lv_at hl 1 rfl) ?_
        refine x_cVIF (n := 1) (As := [.int (li 1)]) (rest := []) B h (wkX12_isThere l D cI cJ cB cZ bd k t (li 1) _ hR) ⟨⟨_, rfl⟩, by decide +kernel, Nat.le_of_ble_eq_true rfl, Nat.le_of_ble_eq_true rfl⟩ gX12_pair_X12_isThere (show ((wM cI cJ cB cZ bd t) : va_W)[0]? = some (_, .inr (12, _)) from rfl) rfl rfl hl.1 rfl (Nat.le_of_ble_eq_true rfl) dX12_pair_2 ⟨Nat.le_of_ble_eq_true rfl, Nat.le_of_ble_eq_true rfl⟩ (fun r_1 t_1 H locs hR h => ?_)
        refine lv_if_eq (tgt := 34) hx hb dX12_pair_5 (by decide) (fun c_2 => ?_) (fun c_2 => ?_)
        · have hR := hR.1 c_2
          exact ih.2 t_1 li lj H locs ls hR (lv_sub hl [0, 1, 2] rfl) h
        · have hR := hR.2 c_2
          refine lv_aload_n hx hb dX12_pair_8 rfl (lv_at hl 0 rfl) ?_
          refine lv_iload_n hx hb dX12_pair_9 rfl (lv_at hl 2 rfl) ?_
          refine x_cVIF (n := 1) (As := [.int (li 2)]) (rest := []) B h (wkX12_isThere l D cI cJ cB cZ bd k t_1 (li 2) _ hR) ⟨⟨_, rfl⟩, by decide +kernel, Nat.le_of_ble_eq_true rfl, Nat.le_of_ble_eq_true rfl⟩ gX12_pair_X12_isThere (show ((wM cI cJ cB cZ bd t_1) : va_W)[0]? = some (_, .inr (12, _)) from rfl) rfl rfl hl.1 rfl (Nat.le_of_ble_eq_true rfl) dX12_pair_10 ⟨Nat.le_of_ble_eq_true rfl, Nat.le_of_ble_eq_true rfl⟩ (fun r_3 t_3 H locs hR h => ?_)
          refine lv_if_eq (tgt := 34) hx hb dX12_pair_13 (by decide) (fun c_4 => ?_) (fun c_4 => ?_)
          · have hR := hR.1 c_4
            exact ih.2 t_3 li lj H locs ls hR (lv_sub hl [0, 1, 2] rfl) h
          · have hR := hR.2 c_4
            refine lv_aload_n hx hb dX12_pair_16 rfl (lv_at hl 0 rfl) ?_
            refine lv_iload_n hx hb dX12_pair_17 rfl (lv_at hl 1 rfl) ?_
            refine lv_iload_n hx hb dX12_pair_18 rfl (lv_at hl 2 rfl) ?_
            refine x_cVIF (n := 2) (As := [.int (li 1), .int (li 2)]) (rest := []) B h (wkX12_isFace l D cI cJ cB cZ bd k t_3 (li 1) (li 2) _ hR) ⟨⟨_, rfl⟩, by decide +kernel, Nat.le_of_ble_eq_true rfl, Nat.le_of_ble_eq_true rfl⟩ gX12_pair_X12_isFace (show ((wM cI cJ cB cZ bd t_3) : va_W)[0]? = some (_, .inr (12, _)) from rfl) rfl rfl hl.1 rfl (Nat.le_of_ble_eq_true rfl) dX12_pair_19 ⟨Nat.le_of_ble_eq_true rfl, Nat.le_of_ble_eq_true rfl⟩ (fun r_5 t_5 H locs hR h => ?_)
            refine lv_if_eq (tgt := 34) hx hb dX12_pair_22 (by decide) (fun c_6 => ?_) (fun c_6 => ?_)
            · have hR := hR.1 c_6
              exact ih.2 t_5 li lj H locs ls hR (lv_sub hl [0, 1, 2] rfl) h
            · have hR := hR.2 c_6
              refine lv_aload_n hx hb dX12_pair_25 rfl (lv_at hl 0 rfl) ?_
              refine lv_iload_n hx hb dX12_pair_26 rfl (lv_at hl 1 rfl) ?_
              refine lv_iload_n hx hb dX12_pair_27 rfl (lv_at hl 2 rfl) ?_
              refine x_cVIF (n := 2) (As := [.int (li 1), .int (li 2)]) (rest := []) B h (wkX12_isFree l D cI cJ cB cZ bd k t_5 (li 1) (li 2) _ hR) ⟨⟨_, rfl⟩, by decide +kernel, Nat.le_of_ble_eq_true rfl, Nat.le_of_ble_eq_true rfl⟩ gX12_pair_X12_isFree (show ((wM cI cJ cB cZ bd t_5) : va_W)[0]? = some (_, .inr (12, _)) from rfl) rfl rfl hl.1 rfl (Nat.le_of_ble_eq_true rfl) dX12_pair_28 ⟨Nat.le_of_ble_eq_true rfl, Nat.le_of_ble_eq_true rfl⟩ (fun r_7 t_7 H locs hR h => ?_)
              refine lv_if_ne (tgt := 36) hx hb dX12_pair_31 (by decide) (fun c_8 => ?_) (fun c_8 => ?_)
              · have hR := hR.1 c_8
                refine lv_aload_n hx hb dX12_pair_36 rfl (lv_at hl 0 rfl) ?_
                refine lv_iload_n hx hb dX12_pair_37 rfl (lv_at hl 1 rfl) ?_
                refine lv_iload_n hx hb dX12_pair_38 rfl (lv_at hl 2 rfl) ?_
                refine x_cVIF (n := 2) (As := [.int (li 1), .int (li 2)]) (rest := []) B h (wkX12_couples l D cI cJ cB cZ bd k t_7 (li 1) (li 2) _ hR) ⟨⟨_, rfl⟩, by decide +kernel, Nat.le_of_ble_eq_true rfl, Nat.le_of_ble_eq_true rfl⟩ gX12_pair_X12_couples (show ((wM cI cJ cB cZ bd t_7) : va_W)[0]? = some (_, .inr (12, _)) from rfl) rfl rfl hl.1 rfl (Nat.le_of_ble_eq_true rfl) dX12_pair_39 ⟨Nat.le_of_ble_eq_true rfl, Nat.le_of_ble_eq_true rfl⟩ (fun r_9 t_9 H locs hR h => ?_)
                refine lv_if_ne (tgt := 48) hx hb dX12_pair_42 (by decide) (fun c_10 => ?_) (fun c_10 => ?_)
                · have hR := hR.1 c_10
                  refine lv_aload_n hx hb dX12_pair_48 rfl (lv_at hl 0 rfl) ?_
                  refine lv_iload_n hx hb dX12_pair_49 rfl (lv_at hl 1 rfl) ?_
                  refine x_cVVF (n := 1) (As := [.int (li 1)]) (rest := []) B h (wkX12_frees l D cI cJ cB cZ bd k t_9 (li 1) _ hR) ⟨⟨_, rfl⟩, by decide +kernel, Nat.le_of_ble_eq_true rfl, Nat.le_of_ble_eq_true rfl⟩ gX12_pair_X12_frees (show ((wM cI cJ cB cZ bd t_9) : va_W)[0]? = some (_, .inr (12, _)) from rfl) rfl rfl hl.1 rfl (Nat.le_of_ble_eq_true rfl) dX12_pair_50 ⟨Nat.le_of_ble_eq_true rfl, Nat.le_of_ble_eq_true rfl⟩ (fun t_11 H locs hR h => ?_)
                  refine lv_aload_n hx hb dX12_pair_53 rfl (lv_at hl 0 rfl) ?_
                  refine x_cVVF (n := 0) (As := []) (rest := []) B h (wkX12_remembers l D cI cJ cB cZ bd k t_11  _ hR) ⟨⟨_, rfl⟩, by decide +kernel, Nat.le_of_ble_eq_true rfl, Nat.le_of_ble_eq_true rfl⟩ gX12_pair_X12_remembers (show ((wM cI cJ cB cZ bd t_11) : va_W)[0]? = some (_, .inr (12, _)) from rfl) rfl rfl hl.1 rfl (Nat.le_of_ble_eq_true rfl) dX12_pair_54 ⟨Nat.le_of_ble_eq_true rfl, Nat.le_of_ble_eq_true rfl⟩ (fun t_12 H locs hR h => ?_)
                  refine lv_aload_n hx hb dX12_pair_57 rfl (lv_at hl 0 rfl) ?_
                  refine x_get (ci := 12) (C := RX12) (T := TX12) (N := 31) (v := .ref (bd 5)) B h hin12 0 8 rfl rfl (by decide) (by decide +kernel) rfl dX12_pair_58 ?_
                  refine lv_iload_n hx hb dX12_pair_61 rfl (lv_at hl 1 rfl) ?_
                  refine lv_iload_n hx hb dX12_pair_62 rfl (lv_at hl 2 rfl) ?_
                  obtain ⟨hb_13, hR⟩ := hR
                  refine z_iast (f := (t_12.2.2.1 4)) B h 5 0 rfl rfl hb_13 dX12_pair_63 (fun H locs h => ?_)
                  obtain ⟨t_13, et_13⟩ : ∃ v : XT, v = sA t_12 4 (upd (t_12.2.2.1 4) (li 1).toNatClampNeg (li 2)) := ⟨_, rfl⟩
                  have hR := hR t_13 et_13
                  have h : Hp D A s.heap (wM cI cJ cB cZ bd t_13) H locs := by rw [et_13]; exact h
                  refine lv_aload_n hx hb dX12_pair_64 rfl (lv_at hl 0 rfl) ?_
                  refine x_get (ci := 12) (C := RX12) (T := TX12) (N := 31) (v := .ref (bd 5)) B h hin12 0 8 rfl rfl (by decide) (by decide +kernel) rfl dX12_pair_65 ?_
                  refine lv_iload_n hx hb dX12_pair_68 rfl (lv_at hl 2 rfl) ?_
                  refine lv_iload_n hx hb dX12_pair_69 rfl (lv_at hl 1 rfl) ?_
                  obtain ⟨hb_14, hR⟩ := hR
                  refine z_iast (f := (t_13.2.2.1 4)) B h 5 0 rfl rfl hb_14 dX12_pair_70 (fun H locs h => ?_)
                  obtain ⟨t_14, et_14⟩ : ∃ v : XT, v = sA t_13 4 (upd (t_13.2.2.1 4) (li 2).toNatClampNeg (li 1)) := ⟨_, rfl⟩
                  have hR := hR t_14 et_14
                  have h : Hp D A s.heap (wM cI cJ cB cZ bd t_14) H locs := by rw [et_14]; exact h
                  refine lv_aload_n hx hb dX12_pair_71 rfl (lv_at hl 0 rfl) ?_
                  refine x_cVIF (n := 0) (As := []) (rest := []) B h (wkX12_criticalMany l D cI cJ cB cZ bd k t_14  _ hR) ⟨⟨_, rfl⟩, by decide +kernel, Nat.le_of_ble_eq_true rfl, Nat.le_of_ble_eq_true rfl⟩ gX12_pair_X12_criticalMany (show ((wM cI cJ cB cZ bd t_14) : va_W)[0]? = some (_, .inr (12, _)) from rfl) rfl rfl hl.1 rfl (Nat.le_of_ble_eq_true rfl) dX12_pair_72 ⟨Nat.le_of_ble_eq_true rfl, Nat.le_of_ble_eq_true rfl⟩ (fun r_15 t_15 H locs hR h => ?_)
                  exact x_iret (w1 := (fun u : XT => (wM cI cJ cB cZ bd u))) t_15 B h hr rfl hR dX12_pair_75
                · have hR := hR.2 c_10
                  refine lv_bipush (v := (-2)) hx hb dX12_pair_45 (by decide) ?_
                  exact x_iret (w1 := (fun u : XT => (wM cI cJ cB cZ bd u))) t_9 B h hr rfl hR dX12_pair_47
              · have hR := hR.2 c_8
                exact ih.2 t_7 li lj H locs ls hR (lv_sub hl [0, 1, 2] rfl) h
      · intro t li lj H locs ls hR hl h
        have hR : wbX12_pair_1 (wpX12_pair k) k t li lj Q := hR
        unfold wbX12_pair_1 at hR
        refine lv_iconst (v := (-1)) hx hb dX12_pair_34 (by decide) ?_
        exact x_iret (w1 := (fun u : XT => (wM cI cJ cB cZ bd u))) t B h hr rfl hR dX12_pair_35
  exact (main k).1 t _ _ s.heap [] ls hR hl h
set_option maxRecDepth 20000 in
theorem ggX12_part_X12_isSimplex : GoodIn wsX12_part wsX12_isSimplex := goodIn_r _ [6, 7, 8, 9, 5, 10, 37, 38, 39, 40, 41, 42, 43, 44, 45, 46, 47, 48, 49, 50, 51, 52, 53, 54, 55, 56, 57, 58, 59, 60, 61, 62, 63, 64, 65, 66, 67] (by decide +kernel) (by decide +kernel)
set_option maxRecDepth 20000 in
theorem gX12_part_X12_isSimplex : GoodIn wsX12_part (wsV RX12 145 RX12 yX12_isSimplex wsX12_isSimplex) := goodIn_app (goodIn_of _ (by decide +kernel)) ggX12_part_X12_isSimplex
set_option maxRecDepth 20000 in
theorem ggX12_part_X12_remembers : GoodIn wsX12_part wsX12_remembers := goodIn_r _ [14, 15, 16, 1, 17, 18, 19, 5, 20, 37, 38, 39, 40, 41, 42, 43, 44, 45, 46, 47, 48, 49, 50, 51, 52, 53, 54, 55, 56, 57, 58, 59, 60, 61, 62, 63, 64, 65, 66, 67] (by decide +kernel) (by decide +kernel)
set_option maxRecDepth 20000 in
theorem gX12_part_X12_remembers : GoodIn wsX12_part (wsV RX12 194 RX12 yX12_remembers wsX12_remembers) := goodIn_app (goodIn_of _ (by decide +kernel)) ggX12_part_X12_remembers
set_option maxRecDepth 20000 in
theorem ggX12_part_X12_frees : GoodIn wsX12_part wsX12_frees := goodIn_r _ [24, 1, 37, 38, 39, 40, 41, 42, 43, 44, 45, 46, 47, 48, 49, 50, 51, 52, 53, 54, 55, 56, 57, 58, 59, 60, 61, 62, 63, 64, 65, 66, 67] (by decide +kernel) (by decide +kernel)
set_option maxRecDepth 20000 in
theorem gX12_part_X12_frees : GoodIn wsX12_part (wsV RX12 191 RX12 yX12_frees wsX12_frees) := goodIn_app (goodIn_of _ (by decide +kernel)) ggX12_part_X12_frees
set_option maxRecDepth 20000 in
theorem ggX12_part_X12_criticalMany : GoodIn wsX12_part wsX12_criticalMany := goodIn_r _ [28, 7, 29, 30, 31, 5, 32, 1, 33, 34, 35, 36, 17, 2, 3, 4, 6, 8, 9, 10, 18, 19, 20, 37, 38, 39, 40, 41, 42, 43, 44, 45, 46, 47, 48, 49, 50, 51, 52, 53, 54, 55, 56, 57, 58, 59, 60, 61, 62, 63, 64, 65, 66, 67] (by decide +kernel) (by decide +kernel)
set_option maxRecDepth 20000 in
theorem gX12_part_X12_criticalMany : GoodIn wsX12_part (wsV RX12 197 RX12 yX12_criticalMany wsX12_criticalMany) := goodIn_app (goodIn_of _ (by decide +kernel)) ggX12_part_X12_criticalMany
def wbX12_part_0 (rec : Nat → XT → (Nat → Int32) → (Nat → Int64) → (Int32 → XT → Prop) → Prop) (k : Nat) (t : XT) (li : Nat → Int32) (lj : Nat → Int64) (Q : Int32 → XT → Prop) : Prop :=
  (wqX12_isSimplex k t (li 1) (fun r_1 t_1 => ((r_1 = 0) → rec 1 t_1 li lj Q) ∧ (¬ (r_1 = 0) → (vp_in (li 1) 60 ∧ (∀ v_3 : Int32, v_3 = (t_1.2.2.1 4) (li 1).toNatClampNeg → ((¬ v_3 = (-1)) → (wqX12_remembers k t_1  (fun t_5 => (wqX12_frees k t_5 (li 1) (fun t_6 => (wqX12_criticalMany k t_6  (fun r_7 t_7 => Q r_7 t_7))))))) ∧ ((v_3 = (-1)) → rec 1 t_1 li lj Q))))))
def wbX12_part_1 (rec : Nat → XT → (Nat → Int32) → (Nat → Int64) → (Int32 → XT → Prop) → Prop) (k : Nat) (t : XT) (li : Nat → Int32) (lj : Nat → Int64) (Q : Int32 → XT → Prop) : Prop :=
  Q (-1) t
def wpX12_part : Nat → Nat → XT → (Nat → Int32) → (Nat → Int64) → (Int32 → XT → Prop) → Prop
  | 0, _, _, _, _, _ => False
  | k + 1, 0, t, li, lj, Q => wbX12_part_0 (wpX12_part k) k t li lj Q
  | k + 1, 1, t, li, lj, Q => wbX12_part_1 (wpX12_part k) k t li lj Q
  | _ + 1, _, _, _, _, _ => False
def wqX12_part (k : Nat) (t : XT) (a1 : Int32) (Q : Int32 → XT → Prop) : Prop := wpX12_part k 0 t (uI (fun _ => 0) 1 a1) (fun _ => 0) Q
set_option maxHeartbeats 8000000 in
set_option maxRecDepth 100000 in
theorem wkX12_part (l : Launch) (D : va_G) (cI cJ cB cZ : ClassId) (bd : Nat → Nat) (k : Nat) (t : XT) (a1 : Int32) (Q : Int32 → XT → Prop) (hR : wqX12_part k t a1 Q) : MetI l yX12_part wsX12_part 5 107 0 0 D (TYS cI cJ cB cZ) (wM cI cJ cB cZ bd t) [.ref (bd 0), .int a1] (fun r u => Q r u) (fun u : XT => (wM cI cJ cB cZ bd u)) := by
  refine x_startI (ty := .int) (cc := cX12_part) (by decide) rfl (Nat.le_of_ble_eq_true rfl) ?_
  intro p e s m args below meth c A ls B hr hnm h hl
  have hx := B.1.1
  have hb := B.1.2.1
  have hml := B.1.2.2.1
  have hts := B.1.2.2.2.2
  have hown : s.vm.findClass RX12 = some m.cls := B.1.2.2.2.1
  have hin12 : ∀ w ∈ u_ws RX12 TX12 31, w ∈ wsX12_part := by decide +kernel
  have main : ∀ k : Nat, (∀ (t : XT) (li : Nat → Int32) (lj : Nat → Int64) (H : Heap) (locs : List Loc) (ls : Array Slot), wpX12_part k 0 t li lj Q → lv_has ls 2 [(0, .ref (bd 0)), (1, .int (li 1))] → Hp D A s.heap (wM cI cJ cB cZ bd t) H locs → W p l e { frames := 5, cells := 0, slots := 0, locals := 107 } s m args below meth c H locs 0 0 (MQ below (va_Qi (fun r u => Q r u) (fun u t => xEnd D ((fun u : XT => (wM cI cJ cB cZ bd u)) u) A t) A) args s 0 0 A) (F0 m 0 ls [])) ∧
      (∀ (t : XT) (li : Nat → Int32) (lj : Nat → Int64) (H : Heap) (locs : List Loc) (ls : Array Slot), wpX12_part k 1 t li lj Q → lv_has ls 2 [(0, .ref (bd 0)), (1, .int (li 1))] → Hp D A s.heap (wM cI cJ cB cZ bd t) H locs → W p l e { frames := 5, cells := 0, slots := 0, locals := 107 } s m args below meth c H locs 0 0 (MQ below (va_Qi (fun r u => Q r u) (fun u t => xEnd D ((fun u : XT => (wM cI cJ cB cZ bd u)) u) A t) A) args s 0 0 A) (F0 m 18 ls [])) := by
    intro k
    induction k with
    | zero => exact ⟨fun _ _ _ _ _ _ hR => False.elim hR, fun _ _ _ _ _ _ hR => False.elim hR⟩
    | succ k ih =>
      refine ⟨?_, ?_⟩
      · intro t li lj H locs ls hR hl h
        have hR : wbX12_part_0 (wpX12_part k) k t li lj Q := hR
        unfold wbX12_part_0 at hR
        refine lv_aload_n hx hb dX12_part_0 rfl (lv_at hl 0 rfl) ?_
        refine lv_iload_n hx hb dX12_part_1 rfl (lv_at hl 1 rfl) ?_
        refine x_cVIF (n := 1) (As := [.int (li 1)]) (rest := []) B h (wkX12_isSimplex l D cI cJ cB cZ bd k t (li 1) _ hR) ⟨⟨_, rfl⟩, by decide +kernel, Nat.le_of_ble_eq_true rfl, Nat.le_of_ble_eq_true rfl⟩ gX12_part_X12_isSimplex (show ((wM cI cJ cB cZ bd t) : va_W)[0]? = some (_, .inr (12, _)) from rfl) rfl rfl hl.1 rfl (Nat.le_of_ble_eq_true rfl) dX12_part_2 ⟨Nat.le_of_ble_eq_true rfl, Nat.le_of_ble_eq_true rfl⟩ (fun r_1 t_1 H locs hR h => ?_)
        refine lv_if_eq (tgt := 18) hx hb dX12_part_5 (by decide) (fun c_2 => ?_) (fun c_2 => ?_)
        · have hR := hR.1 c_2
          exact ih.2 t_1 li lj H locs ls hR (lv_sub hl [0, 1] rfl) h
        · have hR := hR.2 c_2
          refine lv_aload_n hx hb dX12_part_8 rfl (lv_at hl 0 rfl) ?_
          refine x_get (ci := 12) (C := RX12) (T := TX12) (N := 31) (v := .ref (bd 5)) B h hin12 0 8 rfl rfl (by decide) (by decide +kernel) rfl dX12_part_9 ?_
          refine lv_iload_n hx hb dX12_part_12 rfl (lv_at hl 1 rfl) ?_
          obtain ⟨hb_3, hR⟩ := hR
          refine va_iald (f := (t_1.2.2.1 4)) hx hb B.2.1 h.1 5 0 rfl rfl hb_3 dX12_part_13 ?_
          refine lv_topi (fun v_3 ev_3 => ?_)
          have hR := hR v_3 ev_3
          refine lv_iconst (v := (-1)) hx hb dX12_part_14 (by decide) ?_
          refine lv_icmp_ne (tgt := 20) hx hb dX12_part_15 (by decide) (fun c_4 => ?_) (fun c_4 => ?_)
          · have hR := hR.1 c_4
            refine lv_aload_n hx hb dX12_part_20 rfl (lv_at hl 0 rfl) ?_
            refine x_cVVF (n := 0) (As := []) (rest := []) B h (wkX12_remembers l D cI cJ cB cZ bd k t_1  _ hR) ⟨⟨_, rfl⟩, by decide +kernel, Nat.le_of_ble_eq_true rfl, Nat.le_of_ble_eq_true rfl⟩ gX12_part_X12_remembers (show ((wM cI cJ cB cZ bd t_1) : va_W)[0]? = some (_, .inr (12, _)) from rfl) rfl rfl hl.1 rfl (Nat.le_of_ble_eq_true rfl) dX12_part_21 ⟨Nat.le_of_ble_eq_true rfl, Nat.le_of_ble_eq_true rfl⟩ (fun t_5 H locs hR h => ?_)
            refine lv_aload_n hx hb dX12_part_24 rfl (lv_at hl 0 rfl) ?_
            refine lv_iload_n hx hb dX12_part_25 rfl (lv_at hl 1 rfl) ?_
            refine x_cVVF (n := 1) (As := [.int (li 1)]) (rest := []) B h (wkX12_frees l D cI cJ cB cZ bd k t_5 (li 1) _ hR) ⟨⟨_, rfl⟩, by decide +kernel, Nat.le_of_ble_eq_true rfl, Nat.le_of_ble_eq_true rfl⟩ gX12_part_X12_frees (show ((wM cI cJ cB cZ bd t_5) : va_W)[0]? = some (_, .inr (12, _)) from rfl) rfl rfl hl.1 rfl (Nat.le_of_ble_eq_true rfl) dX12_part_26 ⟨Nat.le_of_ble_eq_true rfl, Nat.le_of_ble_eq_true rfl⟩ (fun t_6 H locs hR h => ?_)
            refine lv_aload_n hx hb dX12_part_29 rfl (lv_at hl 0 rfl) ?_
            refine x_cVIF (n := 0) (As := []) (rest := []) B h (wkX12_criticalMany l D cI cJ cB cZ bd k t_6  _ hR) ⟨⟨_, rfl⟩, by decide +kernel, Nat.le_of_ble_eq_true rfl, Nat.le_of_ble_eq_true rfl⟩ gX12_part_X12_criticalMany (show ((wM cI cJ cB cZ bd t_6) : va_W)[0]? = some (_, .inr (12, _)) from rfl) rfl rfl hl.1 rfl (Nat.le_of_ble_eq_true rfl) dX12_part_30 ⟨Nat.le_of_ble_eq_true rfl, Nat.le_of_ble_eq_true rfl⟩ (fun r_7 t_7 H locs hR h => ?_)
            exact x_iret (w1 := (fun u : XT => (wM cI cJ cB cZ bd u))) t_7 B h hr rfl hR dX12_part_33
          · have hR := hR.2 c_4
            exact ih.2 t_1 li lj H locs ls hR (lv_sub hl [0, 1] rfl) h
      · intro t li lj H locs ls hR hl h
        have hR : wbX12_part_1 (wpX12_part k) k t li lj Q := hR
        unfold wbX12_part_1 at hR
        refine lv_iconst (v := (-1)) hx hb dX12_part_18 (by decide) ?_
        exact x_iret (w1 := (fun u : XT => (wM cI cJ cB cZ bd u))) t B h hr rfl hR dX12_part_19
  exact (main k).1 t _ _ s.heap [] ls hR hl h
def wbX12_clearsPairs_0 (rec : Nat → XT → (Nat → Int32) → (Nat → Int64) → (XT → Prop) → Prop) (k : Nat) (t : XT) (li : Nat → Int32) (lj : Nat → Int64) (Q : XT → Prop) : Prop :=
  rec 1 t (uI li 1 0) lj Q
def wbX12_clearsPairs_1 (rec : Nat → XT → (Nat → Int32) → (Nat → Int64) → (XT → Prop) → Prop) (k : Nat) (t : XT) (li : Nat → Int32) (lj : Nat → Int64) (Q : XT → Prop) : Prop :=
  ((((t.1 3) : Int32) ≤ (li 1)) → Q t) ∧ (¬ (((t.1 3) : Int32) ≤ (li 1)) → (vp_in (li 1) 60 ∧ (∀ t_2 : XT, t_2 = sA t 4 (upd (t.2.2.1 4) (li 1).toNatClampNeg (-1)) → (∀ v_3 : Int32, v_3 = (li 1) + Int32.ofInt 1 → rec 1 t_2 (uI li 1 v_3) lj Q))))
def wpX12_clearsPairs : Nat → Nat → XT → (Nat → Int32) → (Nat → Int64) → (XT → Prop) → Prop
  | 0, _, _, _, _, _ => False
  | k + 1, 0, t, li, lj, Q => wbX12_clearsPairs_0 (wpX12_clearsPairs k) k t li lj Q
  | k + 1, 1, t, li, lj, Q => wbX12_clearsPairs_1 (wpX12_clearsPairs k) k t li lj Q
  | _ + 1, _, _, _, _, _ => False
def wqX12_clearsPairs (k : Nat) (t : XT)  (Q : XT → Prop) : Prop := wpX12_clearsPairs k 0 t (fun _ => 0) (fun _ => 0) Q
set_option maxHeartbeats 8000000 in
set_option maxRecDepth 100000 in
theorem wkX12_clearsPairs (l : Launch) (D : va_G) (cI cJ cB cZ : ClassId) (bd : Nat → Nat) (k : Nat) (t : XT)  (Q : XT → Prop) (hR : wqX12_clearsPairs k t  Q) : MetV l yX12_clearsPairs wsX12_clearsPairs 0 0 0 0 D (TYS cI cJ cB cZ) (wM cI cJ cB cZ bd t) [.ref (bd 0)] (fun u => Q u) (fun u : XT => (wM cI cJ cB cZ bd u)) := by
  refine x_startV (ty := .int) (cc := cX12_clearsPairs) (by decide) rfl (Nat.le_of_ble_eq_true rfl) ?_
  intro p e s m args below meth c A ls B hr hnm h hl
  have hx := B.1.1
  have hb := B.1.2.1
  have hml := B.1.2.2.1
  have hts := B.1.2.2.2.2
  have hown : s.vm.findClass RX12 = some m.cls := B.1.2.2.2.1
  have hin12 : ∀ w ∈ u_ws RX12 TX12 31, w ∈ wsX12_clearsPairs := by decide +kernel
  have main : ∀ k : Nat, (∀ (t : XT) (li : Nat → Int32) (lj : Nat → Int64) (H : Heap) (locs : List Loc) (ls : Array Slot), wpX12_clearsPairs k 0 t li lj Q → lv_has ls 2 [(0, .ref (bd 0))] → Hp D A s.heap (wM cI cJ cB cZ bd t) H locs → W p l e { frames := 0, cells := 0, slots := 0, locals := 0 } s m args below meth c H locs 0 0 (MQ below (va_Qv (fun u => Q u) (fun u t => xEnd D ((fun u : XT => (wM cI cJ cB cZ bd u)) u) A t) A) args s 0 0 A) (F0 m 0 ls [])) ∧
      (∀ (t : XT) (li : Nat → Int32) (lj : Nat → Int64) (H : Heap) (locs : List Loc) (ls : Array Slot), wpX12_clearsPairs k 1 t li lj Q → lv_has ls 2 [(0, .ref (bd 0)), (1, .int (li 1))] → Hp D A s.heap (wM cI cJ cB cZ bd t) H locs → W p l e { frames := 0, cells := 0, slots := 0, locals := 0 } s m args below meth c H locs 0 0 (MQ below (va_Qv (fun u => Q u) (fun u t => xEnd D ((fun u : XT => (wM cI cJ cB cZ bd u)) u) A t) A) args s 0 0 A) (F0 m 2 ls [])) := by
    intro k
    induction k with
    | zero => exact ⟨fun _ _ _ _ _ _ hR => False.elim hR, fun _ _ _ _ _ _ hR => False.elim hR⟩
    | succ k ih =>
      refine ⟨?_, ?_⟩
      · intro t li lj H locs ls hR hl h
        have hR : wbX12_clearsPairs_0 (wpX12_clearsPairs k) k t li lj Q := hR
        unfold wbX12_clearsPairs_0 at hR
        refine lv_iconst (v := 0) hx hb dX12_clearsPairs_0 (by decide) ?_
        refine lv_istore_n (lv' := [(1, .int 0), (0, .ref (bd 0))]) hx hb dX12_clearsPairs_1 rfl hl (by decide) rfl (fun ls hl => ?_)
        exact ih.2 t (uI li 1 0) lj H locs ls hR (lv_sub hl [1, 0] rfl) h
      · intro t li lj H locs ls hR hl h
        have hR : wbX12_clearsPairs_1 (wpX12_clearsPairs k) k t li lj Q := hR
        unfold wbX12_clearsPairs_1 at hR
        refine lv_iload_n hx hb dX12_clearsPairs_2 rfl (lv_at hl 1 rfl) ?_
        refine lv_aload_n hx hb dX12_clearsPairs_3 rfl (lv_at hl 0 rfl) ?_
        refine x_get (ci := 12) (C := RX12) (T := TX12) (N := 31) (v := .int (t.1 3)) B h hin12 0 5 rfl rfl (by decide) (by decide +kernel) rfl dX12_clearsPairs_4 ?_
        refine lv_icmp_ge (tgt := 23) hx hb dX12_clearsPairs_7 (by decide) (fun c_1 => ?_) (fun c_1 => ?_)
        · have hR := hR.1 c_1
          exact x_vret (w1 := (fun u : XT => (wM cI cJ cB cZ bd u))) t B h hr hR dX12_clearsPairs_23
        · have hR := hR.2 c_1
          refine lv_aload_n hx hb dX12_clearsPairs_10 rfl (lv_at hl 0 rfl) ?_
          refine x_get (ci := 12) (C := RX12) (T := TX12) (N := 31) (v := .ref (bd 5)) B h hin12 0 8 rfl rfl (by decide) (by decide +kernel) rfl dX12_clearsPairs_11 ?_
          refine lv_iload_n hx hb dX12_clearsPairs_14 rfl (lv_at hl 1 rfl) ?_
          refine lv_iconst (v := (-1)) hx hb dX12_clearsPairs_15 (by decide) ?_
          obtain ⟨hb_2, hR⟩ := hR
          refine z_iast (f := (t.2.2.1 4)) B h 5 0 rfl rfl hb_2 dX12_clearsPairs_16 (fun H locs h => ?_)
          obtain ⟨t_2, et_2⟩ : ∃ v : XT, v = sA t 4 (upd (t.2.2.1 4) (li 1).toNatClampNeg (-1)) := ⟨_, rfl⟩
          have hR := hR t_2 et_2
          have h : Hp D A s.heap (wM cI cJ cB cZ bd t_2) H locs := by rw [et_2]; exact h
          obtain ⟨v_3, ev_3⟩ : ∃ v : Int32, v = (li 1) + Int32.ofInt 1 := ⟨_, rfl⟩
          have hR := hR v_3 ev_3
          refine lv_iinc (v := v_3) (lv' := [(1, .int v_3), (0, .ref (bd 0))]) hx hb dX12_clearsPairs_17 hl (k := 1) rfl ev_3.symm (by decide) rfl (fun ls hl => ?_)
          refine lv_goto (tgt := 2) hx hb dX12_clearsPairs_20 (by decide) ?_
          exact ih.2 t_2 (uI li 1 v_3) lj H locs ls hR (lv_sub hl [1, 0] rfl) h
  exact (main k).1 t _ _ s.heap [] ls hR hl h
set_option maxRecDepth 20000 in
theorem ggX12_opensAll_X12_clearsPairs : GoodIn wsX12_opensAll wsX12_clearsPairs := goodIn_r _ [8, 1, 9, 10, 11, 12, 13, 14, 15, 16, 17, 18, 19, 20, 21, 22, 23, 24, 25, 26, 27, 28, 29, 30, 31, 32, 33, 34, 35, 36, 37, 38, 39, 40] (by decide +kernel) (by decide +kernel)
set_option maxRecDepth 20000 in
theorem gX12_opensAll_X12_clearsPairs : GoodIn wsX12_opensAll (wsV RX12 200 RX12 yX12_clearsPairs wsX12_clearsPairs) := goodIn_app (goodIn_of _ (by decide +kernel)) ggX12_opensAll_X12_clearsPairs
def wbX12_opensAll_0 (rec : Nat → XT → (Nat → Int32) → (Nat → Int64) → (XT → Prop) → Prop) (k : Nat) (t : XT) (li : Nat → Int32) (lj : Nat → Int64) (Q : XT → Prop) : Prop :=
  (wqX12_clearsPairs k t  (fun t_1 => rec 1 t_1 (uI li 1 0) lj Q))
def wbX12_opensAll_1 (rec : Nat → XT → (Nat → Int32) → (Nat → Int64) → (XT → Prop) → Prop) (k : Nat) (t : XT) (li : Nat → Int32) (lj : Nat → Int64) (Q : XT → Prop) : Prop :=
  ((((t.1 3) : Int32) ≤ (li 1)) → Q t) ∧ (¬ (((t.1 3) : Int32) ≤ (li 1)) → (vp_in (li 1) 60 ∧ (∀ v_3 : Int32, v_3 = (t.2.2.1 5) (li 1).toNatClampNeg → ((¬ v_3 = 0) → rec 2 t (uI (uI li 102 0) 101 (li 1)) lj Q) ∧ ((v_3 = 0) → rec 2 t (uI (uI li 102 1) 101 (li 1)) lj Q))))
def wbX12_opensAll_2 (rec : Nat → XT → (Nat → Int32) → (Nat → Int64) → (XT → Prop) → Prop) (k : Nat) (t : XT) (li : Nat → Int32) (lj : Nat → Int64) (Q : XT → Prop) : Prop :=
  (vp_in (li 101) 60 ∧ (∀ t_5 : XT, t_5 = sA t 9 (upd (t.2.2.1 9) (li 101).toNatClampNeg (vp_nar .boolean (li 102))) → (∀ v_6 : Int32, v_6 = (li 1) + Int32.ofInt 1 → rec 1 t_5 (uI li 1 v_6) lj Q)))
def wpX12_opensAll : Nat → Nat → XT → (Nat → Int32) → (Nat → Int64) → (XT → Prop) → Prop
  | 0, _, _, _, _, _ => False
  | k + 1, 0, t, li, lj, Q => wbX12_opensAll_0 (wpX12_opensAll k) k t li lj Q
  | k + 1, 1, t, li, lj, Q => wbX12_opensAll_1 (wpX12_opensAll k) k t li lj Q
  | k + 1, 2, t, li, lj, Q => wbX12_opensAll_2 (wpX12_opensAll k) k t li lj Q
  | _ + 1, _, _, _, _, _ => False
def wqX12_opensAll (k : Nat) (t : XT)  (Q : XT → Prop) : Prop := wpX12_opensAll k 0 t (fun _ => 0) (fun _ => 0) Q
set_option maxHeartbeats 8000000 in
set_option maxRecDepth 100000 in
theorem wkX12_opensAll (l : Launch) (D : va_G) (cI cJ cB cZ : ClassId) (bd : Nat → Nat) (k : Nat) (t : XT)  (Q : XT → Prop) (hR : wqX12_opensAll k t  Q) : MetV l yX12_opensAll wsX12_opensAll 1 21 0 0 D (TYS cI cJ cB cZ) (wM cI cJ cB cZ bd t) [.ref (bd 0)] (fun u => Q u) (fun u : XT => (wM cI cJ cB cZ bd u)) := by
  refine x_startV (ty := .int) (cc := cX12_opensAll) (by decide) rfl (Nat.le_of_ble_eq_true rfl) ?_
  intro p e s m args below meth c A ls B hr hnm h hl
  have hx := B.1.1
  have hb := B.1.2.1
  have hml := B.1.2.2.1
  have hts := B.1.2.2.2.2
  have hown : s.vm.findClass RX12 = some m.cls := B.1.2.2.2.1
  have hin12 : ∀ w ∈ u_ws RX12 TX12 31, w ∈ wsX12_opensAll := by decide +kernel
  have main : ∀ k : Nat, (∀ (t : XT) (li : Nat → Int32) (lj : Nat → Int64) (H : Heap) (locs : List Loc) (ls : Array Slot), wpX12_opensAll k 0 t li lj Q → lv_has ls 2 [(0, .ref (bd 0))] → Hp D A s.heap (wM cI cJ cB cZ bd t) H locs → W p l e { frames := 1, cells := 0, slots := 0, locals := 21 } s m args below meth c H locs 0 0 (MQ below (va_Qv (fun u => Q u) (fun u t => xEnd D ((fun u : XT => (wM cI cJ cB cZ bd u)) u) A t) A) args s 0 0 A) (F0 m 0 ls [])) ∧
      (∀ (t : XT) (li : Nat → Int32) (lj : Nat → Int64) (H : Heap) (locs : List Loc) (ls : Array Slot), wpX12_opensAll k 1 t li lj Q → lv_has ls 2 [(0, .ref (bd 0)), (1, .int (li 1))] → Hp D A s.heap (wM cI cJ cB cZ bd t) H locs → W p l e { frames := 1, cells := 0, slots := 0, locals := 21 } s m args below meth c H locs 0 0 (MQ below (va_Qv (fun u => Q u) (fun u t => xEnd D ((fun u : XT => (wM cI cJ cB cZ bd u)) u) A t) A) args s 0 0 A) (F0 m 6 ls [])) ∧
      (∀ (t : XT) (li : Nat → Int32) (lj : Nat → Int64) (H : Heap) (locs : List Loc) (ls : Array Slot), wpX12_opensAll k 2 t li lj Q → lv_has ls 2 [(0, .ref (bd 0)), (1, .int (li 1))] → Hp D A s.heap (wM cI cJ cB cZ bd t) H locs → W p l e { frames := 1, cells := 0, slots := 0, locals := 21 } s m args below meth c H locs 0 0 (MQ below (va_Qv (fun u => Q u) (fun u t => xEnd D ((fun u : XT => (wM cI cJ cB cZ bd u)) u) A t) A) args s 0 0 A) (F0 m 33 ls [.int (li 102), .int (li 101), .ref (bd 10)])) := by
    intro k
    induction k with
    | zero => exact ⟨fun _ _ _ _ _ _ hR => False.elim hR, fun _ _ _ _ _ _ hR => False.elim hR, fun _ _ _ _ _ _ hR => False.elim hR⟩
    | succ k ih =>
      refine ⟨?_, ?_, ?_⟩
      · intro t li lj H locs ls hR hl h
        have hR : wbX12_opensAll_0 (wpX12_opensAll k) k t li lj Q := hR
        unfold wbX12_opensAll_0 at hR
        refine lv_aload_n hx hb dX12_opensAll_0 rfl (lv_at hl 0 rfl) ?_
        refine x_cVVF (n := 0) (As := []) (rest := []) B h (wkX12_clearsPairs l D cI cJ cB cZ bd k t  _ hR) ⟨⟨_, rfl⟩, by decide +kernel, Nat.le_of_ble_eq_true rfl, Nat.le_of_ble_eq_true rfl⟩ gX12_opensAll_X12_clearsPairs (show ((wM cI cJ cB cZ bd t) : va_W)[0]? = some (_, .inr (12, _)) from rfl) rfl rfl hl.1 rfl (Nat.le_of_ble_eq_true rfl) dX12_opensAll_1 ⟨Nat.le_of_ble_eq_true rfl, Nat.le_of_ble_eq_true rfl⟩ (fun t_1 H locs hR h => ?_)
        refine lv_iconst (v := 0) hx hb dX12_opensAll_4 (by decide) ?_
        refine lv_istore_n (lv' := [(1, .int 0), (0, .ref (bd 0))]) hx hb dX12_opensAll_5 rfl hl (by decide) rfl (fun ls hl => ?_)
        exact ih.2.1 t_1 (uI li 1 0) lj H locs ls hR (lv_sub hl [1, 0] rfl) h
      · intro t li lj H locs ls hR hl h
        have hR : wbX12_opensAll_1 (wpX12_opensAll k) k t li lj Q := hR
        unfold wbX12_opensAll_1 at hR
        refine lv_iload_n hx hb dX12_opensAll_6 rfl (lv_at hl 1 rfl) ?_
        refine lv_aload_n hx hb dX12_opensAll_7 rfl (lv_at hl 0 rfl) ?_
        refine x_get (ci := 12) (C := RX12) (T := TX12) (N := 31) (v := .int (t.1 3)) B h hin12 0 5 rfl rfl (by decide) (by decide +kernel) rfl dX12_opensAll_8 ?_
        refine lv_icmp_ge (tgt := 40) hx hb dX12_opensAll_11 (by decide) (fun c_2 => ?_) (fun c_2 => ?_)
        · have hR := hR.1 c_2
          exact x_vret (w1 := (fun u : XT => (wM cI cJ cB cZ bd u))) t B h hr hR dX12_opensAll_40
        · have hR := hR.2 c_2
          refine lv_aload_n hx hb dX12_opensAll_14 rfl (lv_at hl 0 rfl) ?_
          refine x_get (ci := 12) (C := RX12) (T := TX12) (N := 31) (v := .ref (bd 10)) B h hin12 0 14 rfl rfl (by decide) (by decide +kernel) rfl dX12_opensAll_15 ?_
          refine lv_iload_n hx hb dX12_opensAll_18 rfl (lv_at hl 1 rfl) ?_
          refine lv_aload_n hx hb dX12_opensAll_19 rfl (lv_at hl 0 rfl) ?_
          refine x_get (ci := 12) (C := RX12) (T := TX12) (N := 31) (v := .ref (bd 6)) B h hin12 0 9 rfl rfl (by decide) (by decide +kernel) rfl dX12_opensAll_20 ?_
          refine lv_iload_n hx hb dX12_opensAll_23 rfl (lv_at hl 1 rfl) ?_
          obtain ⟨hb_3, hR⟩ := hR
          refine va_zald (f := (t.2.2.1 5)) hx hb B.2.1 h.1 6 3 rfl rfl hb_3 dX12_opensAll_24 ?_
          refine lv_topi (fun v_3 ev_3 => ?_)
          have hR := hR v_3 ev_3
          refine lv_if_ne (tgt := 32) hx hb dX12_opensAll_25 (by decide) (fun c_4 => ?_) (fun c_4 => ?_)
          · have hR := hR.1 c_4
            refine lv_iconst (v := 0) hx hb dX12_opensAll_32 (by decide) ?_
            exact ih.2.2 t (uI (uI li 102 0) 101 (li 1)) lj H locs ls hR (lv_sub hl [0, 1] rfl) h
          · have hR := hR.2 c_4
            refine lv_iconst (v := 1) hx hb dX12_opensAll_28 (by decide) ?_
            refine lv_goto (tgt := 33) hx hb dX12_opensAll_29 (by decide) ?_
            exact ih.2.2 t (uI (uI li 102 1) 101 (li 1)) lj H locs ls hR (lv_sub hl [0, 1] rfl) h
      · intro t li lj H locs ls hR hl h
        have hR : wbX12_opensAll_2 (wpX12_opensAll k) k t li lj Q := hR
        unfold wbX12_opensAll_2 at hR
        obtain ⟨hb_5, hR⟩ := hR
        refine z_zast (f := (t.2.2.1 9)) B h 10 3 rfl rfl hb_5 dX12_opensAll_33 (fun H locs h => ?_)
        obtain ⟨t_5, et_5⟩ : ∃ v : XT, v = sA t 9 (upd (t.2.2.1 9) (li 101).toNatClampNeg (vp_nar .boolean (li 102))) := ⟨_, rfl⟩
        have hR := hR t_5 et_5
        have h : Hp D A s.heap (wM cI cJ cB cZ bd t_5) H locs := by rw [et_5]; exact h
        obtain ⟨v_6, ev_6⟩ : ∃ v : Int32, v = (li 1) + Int32.ofInt 1 := ⟨_, rfl⟩
        have hR := hR v_6 ev_6
        refine lv_iinc (v := v_6) (lv' := [(1, .int v_6), (0, .ref (bd 0))]) hx hb dX12_opensAll_34 hl (k := 1) rfl ev_6.symm (by decide) rfl (fun ls hl => ?_)
        refine lv_goto (tgt := 6) hx hb dX12_opensAll_37 (by decide) ?_
        exact ih.2.1 t_5 (uI li 1 v_6) lj H locs ls hR (lv_sub hl [1, 0] rfl) h
  exact (main k).1 t _ _ s.heap [] ls hR hl h
set_option maxRecDepth 20000 in
theorem ggX12_onlyOver_X12_isFace : GoodIn wsX12_onlyOver wsX12_isFace := goodIn_r _ [7, 8, 9, 10, 11, 6, 12, 13, 14, 15, 16, 17, 18, 19, 20, 21, 22, 23, 24, 25, 26, 27, 28, 29, 30, 31, 32, 33, 34, 35, 36, 37, 38, 39, 40, 41, 42, 43, 44, 45, 46, 47, 48, 49, 50] (by decide +kernel) (by decide +kernel)
set_option maxRecDepth 20000 in
theorem gX12_onlyOver_X12_isFace : GoodIn wsX12_onlyOver (wsV RX12 152 RX12 yX12_isFace wsX12_isFace) := goodIn_app (goodIn_of _ (by decide +kernel)) ggX12_onlyOver_X12_isFace
def wbX12_onlyOver_0 (rec : Nat → XT → (Nat → Int32) → (Nat → Int64) → (Int32 → XT → Prop) → Prop) (k : Nat) (t : XT) (li : Nat → Int32) (lj : Nat → Int64) (Q : Int32 → XT → Prop) : Prop :=
  rec 1 t (uI (uI li 2 (-1)) 3 0) lj Q
def wbX12_onlyOver_1 (rec : Nat → XT → (Nat → Int32) → (Nat → Int64) → (Int32 → XT → Prop) → Prop) (k : Nat) (t : XT) (li : Nat → Int32) (lj : Nat → Int64) (Q : Int32 → XT → Prop) : Prop :=
  ((((t.1 3) : Int32) ≤ (li 3)) → Q (li 2) t) ∧ (¬ (((t.1 3) : Int32) ≤ (li 3)) → (vp_in (li 3) 60 ∧ (∀ v_2 : Int32, v_2 = (t.2.2.1 9) (li 3).toNatClampNeg → ((v_2 = 0) → rec 2 t li lj Q) ∧ (¬ (v_2 = 0) → (wqX12_isFace k t (li 1) (li 3) (fun r_4 t_4 => ((r_4 = 0) → rec 2 t_4 li lj Q) ∧ (¬ (r_4 = 0) → (((li 2) = (-1)) → rec 2 t_4 (uI li 2 (li 3)) lj Q) ∧ (¬ ((li 2) = (-1)) → Q (-1) t_4))))))))
def wbX12_onlyOver_2 (rec : Nat → XT → (Nat → Int32) → (Nat → Int64) → (Int32 → XT → Prop) → Prop) (k : Nat) (t : XT) (li : Nat → Int32) (lj : Nat → Int64) (Q : Int32 → XT → Prop) : Prop :=
  (∀ v_7 : Int32, v_7 = (li 3) + Int32.ofInt 1 → rec 1 t (uI li 3 v_7) lj Q)
def wpX12_onlyOver : Nat → Nat → XT → (Nat → Int32) → (Nat → Int64) → (Int32 → XT → Prop) → Prop
  | 0, _, _, _, _, _ => False
  | k + 1, 0, t, li, lj, Q => wbX12_onlyOver_0 (wpX12_onlyOver k) k t li lj Q
  | k + 1, 1, t, li, lj, Q => wbX12_onlyOver_1 (wpX12_onlyOver k) k t li lj Q
  | k + 1, 2, t, li, lj, Q => wbX12_onlyOver_2 (wpX12_onlyOver k) k t li lj Q
  | _ + 1, _, _, _, _, _ => False
def wqX12_onlyOver (k : Nat) (t : XT) (a1 : Int32) (Q : Int32 → XT → Prop) : Prop := wpX12_onlyOver k 0 t (uI (fun _ => 0) 1 a1) (fun _ => 0) Q
set_option maxHeartbeats 8000000 in
set_option maxRecDepth 100000 in
theorem wkX12_onlyOver (l : Launch) (D : va_G) (cI cJ cB cZ : ClassId) (bd : Nat → Nat) (k : Nat) (t : XT) (a1 : Int32) (Q : Int32 → XT → Prop) (hR : wqX12_onlyOver k t a1 Q) : MetI l yX12_onlyOver wsX12_onlyOver 3 63 0 0 D (TYS cI cJ cB cZ) (wM cI cJ cB cZ bd t) [.ref (bd 0), .int a1] (fun r u => Q r u) (fun u : XT => (wM cI cJ cB cZ bd u)) := by
  refine x_startI (ty := .int) (cc := cX12_onlyOver) (by decide) rfl (Nat.le_of_ble_eq_true rfl) ?_
  intro p e s m args below meth c A ls B hr hnm h hl
  have hx := B.1.1
  have hb := B.1.2.1
  have hml := B.1.2.2.1
  have hts := B.1.2.2.2.2
  have hown : s.vm.findClass RX12 = some m.cls := B.1.2.2.2.1
  have hin12 : ∀ w ∈ u_ws RX12 TX12 31, w ∈ wsX12_onlyOver := by decide +kernel
  have main : ∀ k : Nat, (∀ (t : XT) (li : Nat → Int32) (lj : Nat → Int64) (H : Heap) (locs : List Loc) (ls : Array Slot), wpX12_onlyOver k 0 t li lj Q → lv_has ls 4 [(0, .ref (bd 0)), (1, .int (li 1))] → Hp D A s.heap (wM cI cJ cB cZ bd t) H locs → W p l e { frames := 3, cells := 0, slots := 0, locals := 63 } s m args below meth c H locs 0 0 (MQ below (va_Qi (fun r u => Q r u) (fun u t => xEnd D ((fun u : XT => (wM cI cJ cB cZ bd u)) u) A t) A) args s 0 0 A) (F0 m 0 ls [])) ∧
      (∀ (t : XT) (li : Nat → Int32) (lj : Nat → Int64) (H : Heap) (locs : List Loc) (ls : Array Slot), wpX12_onlyOver k 1 t li lj Q → lv_has ls 4 [(0, .ref (bd 0)), (1, .int (li 1)), (2, .int (li 2)), (3, .int (li 3))] → Hp D A s.heap (wM cI cJ cB cZ bd t) H locs → W p l e { frames := 3, cells := 0, slots := 0, locals := 63 } s m args below meth c H locs 0 0 (MQ below (va_Qi (fun r u => Q r u) (fun u t => xEnd D ((fun u : XT => (wM cI cJ cB cZ bd u)) u) A t) A) args s 0 0 A) (F0 m 4 ls [])) ∧
      (∀ (t : XT) (li : Nat → Int32) (lj : Nat → Int64) (H : Heap) (locs : List Loc) (ls : Array Slot), wpX12_onlyOver k 2 t li lj Q → lv_has ls 4 [(0, .ref (bd 0)), (1, .int (li 1)), (2, .int (li 2)), (3, .int (li 3))] → Hp D A s.heap (wM cI cJ cB cZ bd t) H locs → W p l e { frames := 3, cells := 0, slots := 0, locals := 63 } s m args below meth c H locs 0 0 (MQ below (va_Qi (fun r u => Q r u) (fun u t => xEnd D ((fun u : XT => (wM cI cJ cB cZ bd u)) u) A t) A) args s 0 0 A) (F0 m 39 ls [])) := by
    intro k
    induction k with
    | zero => exact ⟨fun _ _ _ _ _ _ hR => False.elim hR, fun _ _ _ _ _ _ hR => False.elim hR, fun _ _ _ _ _ _ hR => False.elim hR⟩
    | succ k ih =>
      refine ⟨?_, ?_, ?_⟩
      · intro t li lj H locs ls hR hl h
        have hR : wbX12_onlyOver_0 (wpX12_onlyOver k) k t li lj Q := hR
        unfold wbX12_onlyOver_0 at hR
        refine lv_iconst (v := (-1)) hx hb dX12_onlyOver_0 (by decide) ?_
        refine lv_istore_n (lv' := [(2, .int (-1)), (0, .ref (bd 0)), (1, .int (li 1))]) hx hb dX12_onlyOver_1 rfl hl (by decide) rfl (fun ls hl => ?_)
        refine lv_iconst (v := 0) hx hb dX12_onlyOver_2 (by decide) ?_
        refine lv_istore_n (lv' := [(3, .int 0), (2, .int (-1)), (0, .ref (bd 0)), (1, .int (li 1))]) hx hb dX12_onlyOver_3 rfl hl (by decide) rfl (fun ls hl => ?_)
        exact ih.2.1 t (uI (uI li 2 (-1)) 3 0) lj H locs ls hR (lv_sub hl [2, 3, 1, 0] rfl) h
      · intro t li lj H locs ls hR hl h
        have hR : wbX12_onlyOver_1 (wpX12_onlyOver k) k t li lj Q := hR
        unfold wbX12_onlyOver_1 at hR
        refine lv_iload_n hx hb dX12_onlyOver_4 rfl (lv_at hl 3 rfl) ?_
        refine lv_aload_n hx hb dX12_onlyOver_5 rfl (lv_at hl 0 rfl) ?_
        refine x_get (ci := 12) (C := RX12) (T := TX12) (N := 31) (v := .int (t.1 3)) B h hin12 0 5 rfl rfl (by decide) (by decide +kernel) rfl dX12_onlyOver_6 ?_
        refine lv_icmp_ge (tgt := 45) hx hb dX12_onlyOver_9 (by decide) (fun c_1 => ?_) (fun c_1 => ?_)
        · have hR := hR.1 c_1
          refine lv_iload_n hx hb dX12_onlyOver_45 rfl (lv_at hl 2 rfl) ?_
          exact x_iret (w1 := (fun u : XT => (wM cI cJ cB cZ bd u))) t B h hr rfl hR dX12_onlyOver_46
        · have hR := hR.2 c_1
          refine lv_aload_n hx hb dX12_onlyOver_12 rfl (lv_at hl 0 rfl) ?_
          refine x_get (ci := 12) (C := RX12) (T := TX12) (N := 31) (v := .ref (bd 10)) B h hin12 0 14 rfl rfl (by decide) (by decide +kernel) rfl dX12_onlyOver_13 ?_
          refine lv_iload_n hx hb dX12_onlyOver_16 rfl (lv_at hl 3 rfl) ?_
          obtain ⟨hb_2, hR⟩ := hR
          refine va_zald (f := (t.2.2.1 9)) hx hb B.2.1 h.1 10 3 rfl rfl hb_2 dX12_onlyOver_17 ?_
          refine lv_topi (fun v_2 ev_2 => ?_)
          have hR := hR v_2 ev_2
          refine lv_if_eq (tgt := 39) hx hb dX12_onlyOver_18 (by decide) (fun c_3 => ?_) (fun c_3 => ?_)
          · have hR := hR.1 c_3
            exact ih.2.2 t li lj H locs ls hR (lv_sub hl [0, 1, 2, 3] rfl) h
          · have hR := hR.2 c_3
            refine lv_aload_n hx hb dX12_onlyOver_21 rfl (lv_at hl 0 rfl) ?_
            refine lv_iload_n hx hb dX12_onlyOver_22 rfl (lv_at hl 1 rfl) ?_
            refine lv_iload_n hx hb dX12_onlyOver_23 rfl (lv_at hl 3 rfl) ?_
            refine x_cVIF (n := 2) (As := [.int (li 1), .int (li 3)]) (rest := []) B h (wkX12_isFace l D cI cJ cB cZ bd k t (li 1) (li 3) _ hR) ⟨⟨_, rfl⟩, by decide +kernel, Nat.le_of_ble_eq_true rfl, Nat.le_of_ble_eq_true rfl⟩ gX12_onlyOver_X12_isFace (show ((wM cI cJ cB cZ bd t) : va_W)[0]? = some (_, .inr (12, _)) from rfl) rfl rfl hl.1 rfl (Nat.le_of_ble_eq_true rfl) dX12_onlyOver_24 ⟨Nat.le_of_ble_eq_true rfl, Nat.le_of_ble_eq_true rfl⟩ (fun r_4 t_4 H locs hR h => ?_)
            refine lv_if_eq (tgt := 39) hx hb dX12_onlyOver_27 (by decide) (fun c_5 => ?_) (fun c_5 => ?_)
            · have hR := hR.1 c_5
              exact ih.2.2 t_4 li lj H locs ls hR (lv_sub hl [0, 1, 2, 3] rfl) h
            · have hR := hR.2 c_5
              refine lv_iload_n hx hb dX12_onlyOver_30 rfl (lv_at hl 2 rfl) ?_
              refine lv_iconst (v := (-1)) hx hb dX12_onlyOver_31 (by decide) ?_
              refine lv_icmp_eq (tgt := 37) hx hb dX12_onlyOver_32 (by decide) (fun c_6 => ?_) (fun c_6 => ?_)
              · have hR := hR.1 c_6
                refine lv_iload_n hx hb dX12_onlyOver_37 rfl (lv_at hl 3 rfl) ?_
                refine lv_istore_n (lv' := [(2, .int (li 3)), (0, .ref (bd 0)), (1, .int (li 1)), (3, .int (li 3))]) hx hb dX12_onlyOver_38 rfl hl (by decide) rfl (fun ls hl => ?_)
                exact ih.2.2 t_4 (uI li 2 (li 3)) lj H locs ls hR (lv_sub hl [1, 2, 0, 3] rfl) h
              · have hR := hR.2 c_6
                refine lv_iconst (v := (-1)) hx hb dX12_onlyOver_35 (by decide) ?_
                exact x_iret (w1 := (fun u : XT => (wM cI cJ cB cZ bd u))) t_4 B h hr rfl hR dX12_onlyOver_36
      · intro t li lj H locs ls hR hl h
        have hR : wbX12_onlyOver_2 (wpX12_onlyOver k) k t li lj Q := hR
        unfold wbX12_onlyOver_2 at hR
        obtain ⟨v_7, ev_7⟩ : ∃ v : Int32, v = (li 3) + Int32.ofInt 1 := ⟨_, rfl⟩
        have hR := hR v_7 ev_7
        refine lv_iinc (v := v_7) (lv' := [(3, .int v_7), (0, .ref (bd 0)), (1, .int (li 1)), (2, .int (li 2))]) hx hb dX12_onlyOver_39 hl (k := 3) rfl ev_7.symm (by decide) rfl (fun ls hl => ?_)
        refine lv_goto (tgt := 4) hx hb dX12_onlyOver_42 (by decide) ?_
        exact ih.2.1 t (uI li 3 v_7) lj H locs ls hR (lv_sub hl [1, 2, 3, 0] rfl) h
  exact (main k).1 t _ _ s.heap [] ls hR hl h
def wbX12_closes_0 (rec : Nat → XT → (Nat → Int32) → (Nat → Int64) → (XT → Prop) → Prop) (k : Nat) (t : XT) (li : Nat → Int32) (lj : Nat → Int64) (Q : XT → Prop) : Prop :=
  (vp_in (li 1) 60 ∧ (∀ t_1 : XT, t_1 = sA t 4 (upd (t.2.2.1 4) (li 1).toNatClampNeg (li 2)) → (vp_in (li 2) 60 ∧ (∀ t_2 : XT, t_2 = sA t_1 4 (upd (t_1.2.2.1 4) (li 2).toNatClampNeg (li 1)) → (vp_in (li 1) 60 ∧ (∀ t_3 : XT, t_3 = sA t_2 9 (upd (t_2.2.2.1 9) (li 1).toNatClampNeg (vp_nar .boolean 0)) → (vp_in (li 2) 60 ∧ (∀ t_4 : XT, t_4 = sA t_3 9 (upd (t_3.2.2.1 9) (li 2).toNatClampNeg (vp_nar .boolean 0)) → Q t_4))))))))
def wpX12_closes : Nat → Nat → XT → (Nat → Int32) → (Nat → Int64) → (XT → Prop) → Prop
  | 0, _, _, _, _, _ => False
  | k + 1, 0, t, li, lj, Q => wbX12_closes_0 (wpX12_closes k) k t li lj Q
  | _ + 1, _, _, _, _, _ => False
def wqX12_closes (k : Nat) (t : XT) (a1 : Int32) (a2 : Int32) (Q : XT → Prop) : Prop := wpX12_closes k 0 t (uI (uI (fun _ => 0) 1 a1) 2 a2) (fun _ => 0) Q
set_option maxHeartbeats 8000000 in
set_option maxRecDepth 100000 in
theorem wkX12_closes (l : Launch) (D : va_G) (cI cJ cB cZ : ClassId) (bd : Nat → Nat) (k : Nat) (t : XT) (a1 : Int32) (a2 : Int32) (Q : XT → Prop) (hR : wqX12_closes k t a1 a2 Q) : MetV l yX12_closes wsX12_closes 0 0 0 0 D (TYS cI cJ cB cZ) (wM cI cJ cB cZ bd t) [.ref (bd 0), .int a1, .int a2] (fun u => Q u) (fun u : XT => (wM cI cJ cB cZ bd u)) := by
  refine x_startV (ty := .int) (cc := cX12_closes) (by decide) rfl (Nat.le_of_ble_eq_true rfl) ?_
  intro p e s m args below meth c A ls B hr hnm h hl
  have hx := B.1.1
  have hb := B.1.2.1
  have hml := B.1.2.2.1
  have hts := B.1.2.2.2.2
  have hown : s.vm.findClass RX12 = some m.cls := B.1.2.2.2.1
  have hin12 : ∀ w ∈ u_ws RX12 TX12 31, w ∈ wsX12_closes := by decide +kernel
  have main : ∀ k : Nat, (∀ (t : XT) (li : Nat → Int32) (lj : Nat → Int64) (H : Heap) (locs : List Loc) (ls : Array Slot), wpX12_closes k 0 t li lj Q → lv_has ls 3 [(0, .ref (bd 0)), (1, .int (li 1)), (2, .int (li 2))] → Hp D A s.heap (wM cI cJ cB cZ bd t) H locs → W p l e { frames := 0, cells := 0, slots := 0, locals := 0 } s m args below meth c H locs 0 0 (MQ below (va_Qv (fun u => Q u) (fun u t => xEnd D ((fun u : XT => (wM cI cJ cB cZ bd u)) u) A t) A) args s 0 0 A) (F0 m 0 ls [])) := by
    intro k
    induction k with
    | zero => exact fun _ _ _ _ _ _ hR => False.elim hR
    | succ k ih =>
      intro t li lj H locs ls hR hl h
      have hR : wbX12_closes_0 (wpX12_closes k) k t li lj Q := hR
      unfold wbX12_closes_0 at hR
      refine lv_aload_n hx hb dX12_closes_0 rfl (lv_at hl 0 rfl) ?_
      refine x_get (ci := 12) (C := RX12) (T := TX12) (N := 31) (v := .ref (bd 5)) B h hin12 0 8 rfl rfl (by decide) (by decide +kernel) rfl dX12_closes_1 ?_
      refine lv_iload_n hx hb dX12_closes_4 rfl (lv_at hl 1 rfl) ?_
      refine lv_iload_n hx hb dX12_closes_5 rfl (lv_at hl 2 rfl) ?_
      obtain ⟨hb_1, hR⟩ := hR
      refine z_iast (f := (t.2.2.1 4)) B h 5 0 rfl rfl hb_1 dX12_closes_6 (fun H locs h => ?_)
      obtain ⟨t_1, et_1⟩ : ∃ v : XT, v = sA t 4 (upd (t.2.2.1 4) (li 1).toNatClampNeg (li 2)) := ⟨_, rfl⟩
      have hR := hR t_1 et_1
      have h : Hp D A s.heap (wM cI cJ cB cZ bd t_1) H locs := by rw [et_1]; exact h
      refine lv_aload_n hx hb dX12_closes_7 rfl (lv_at hl 0 rfl) ?_
      refine x_get (ci := 12) (C := RX12) (T := TX12) (N := 31) (v := .ref (bd 5)) B h hin12 0 8 rfl rfl (by decide) (by decide +kernel) rfl dX12_closes_8 ?_
      refine lv_iload_n hx hb dX12_closes_11 rfl (lv_at hl 2 rfl) ?_
      refine lv_iload_n hx hb dX12_closes_12 rfl (lv_at hl 1 rfl) ?_
      obtain ⟨hb_2, hR⟩ := hR
      refine z_iast (f := (t_1.2.2.1 4)) B h 5 0 rfl rfl hb_2 dX12_closes_13 (fun H locs h => ?_)
      obtain ⟨t_2, et_2⟩ : ∃ v : XT, v = sA t_1 4 (upd (t_1.2.2.1 4) (li 2).toNatClampNeg (li 1)) := ⟨_, rfl⟩
      have hR := hR t_2 et_2
      have h : Hp D A s.heap (wM cI cJ cB cZ bd t_2) H locs := by rw [et_2]; exact h
      refine lv_aload_n hx hb dX12_closes_14 rfl (lv_at hl 0 rfl) ?_
      refine x_get (ci := 12) (C := RX12) (T := TX12) (N := 31) (v := .ref (bd 10)) B h hin12 0 14 rfl rfl (by decide) (by decide +kernel) rfl dX12_closes_15 ?_
      refine lv_iload_n hx hb dX12_closes_18 rfl (lv_at hl 1 rfl) ?_
      refine lv_iconst (v := 0) hx hb dX12_closes_19 (by decide) ?_
      obtain ⟨hb_3, hR⟩ := hR
      refine z_zast (f := (t_2.2.2.1 9)) B h 10 3 rfl rfl hb_3 dX12_closes_20 (fun H locs h => ?_)
      obtain ⟨t_3, et_3⟩ : ∃ v : XT, v = sA t_2 9 (upd (t_2.2.2.1 9) (li 1).toNatClampNeg (vp_nar .boolean 0)) := ⟨_, rfl⟩
      have hR := hR t_3 et_3
      have h : Hp D A s.heap (wM cI cJ cB cZ bd t_3) H locs := by rw [et_3]; exact h
      refine lv_aload_n hx hb dX12_closes_21 rfl (lv_at hl 0 rfl) ?_
      refine x_get (ci := 12) (C := RX12) (T := TX12) (N := 31) (v := .ref (bd 10)) B h hin12 0 14 rfl rfl (by decide) (by decide +kernel) rfl dX12_closes_22 ?_
      refine lv_iload_n hx hb dX12_closes_25 rfl (lv_at hl 2 rfl) ?_
      refine lv_iconst (v := 0) hx hb dX12_closes_26 (by decide) ?_
      obtain ⟨hb_4, hR⟩ := hR
      refine z_zast (f := (t_3.2.2.1 9)) B h 10 3 rfl rfl hb_4 dX12_closes_27 (fun H locs h => ?_)
      obtain ⟨t_4, et_4⟩ : ∃ v : XT, v = sA t_3 9 (upd (t_3.2.2.1 9) (li 2).toNatClampNeg (vp_nar .boolean 0)) := ⟨_, rfl⟩
      have hR := hR t_4 et_4
      have h : Hp D A s.heap (wM cI cJ cB cZ bd t_4) H locs := by rw [et_4]; exact h
      exact x_vret (w1 := (fun u : XT => (wM cI cJ cB cZ bd u))) t_4 B h hr hR dX12_closes_28
  exact (main k) t _ _ s.heap [] ls hR hl h
set_option maxRecDepth 20000 in
theorem ggX12_auto2_X12_opensAll : GoodIn wsX12_auto2 wsX12_opensAll := goodIn_r _ [7, 1, 2, 8, 9, 10, 11, 6, 12, 13, 38, 39, 40, 41, 42, 43, 44, 45, 46, 47, 48, 49, 50, 51, 52, 53, 54, 55, 56, 57, 58, 59, 60, 61, 62, 63, 64, 65, 66, 67, 68] (by decide +kernel) (by decide +kernel)
set_option maxRecDepth 20000 in
theorem gX12_auto2_X12_opensAll : GoodIn wsX12_auto2 (wsV RX12 203 RX12 yX12_opensAll wsX12_opensAll) := goodIn_app (goodIn_of _ (by decide +kernel)) ggX12_auto2_X12_opensAll
set_option maxRecDepth 20000 in
theorem ggX12_auto2_X12_onlyOver : GoodIn wsX12_auto2 wsX12_onlyOver := goodIn_r _ [17, 1, 2, 18, 19, 20, 6, 21, 22, 23, 24, 25, 26, 27, 28, 29, 30, 31, 32, 33, 38, 39, 40, 41, 42, 43, 44, 45, 46, 47, 48, 49, 50, 51, 52, 53, 54, 55, 56, 57, 58, 59, 60, 61, 62, 63, 64, 65, 66, 67, 68] (by decide +kernel) (by decide +kernel)
set_option maxRecDepth 20000 in
theorem gX12_auto2_X12_onlyOver : GoodIn wsX12_auto2 (wsV RX12 206 RX12 yX12_onlyOver wsX12_onlyOver) := goodIn_app (goodIn_of _ (by decide +kernel)) ggX12_auto2_X12_onlyOver
set_option maxRecDepth 20000 in
theorem ggX12_auto2_X12_closes : GoodIn wsX12_auto2 wsX12_closes := goodIn_r _ [37, 13, 2, 38, 39, 40, 41, 42, 43, 44, 45, 46, 47, 48, 49, 50, 51, 52, 53, 54, 55, 56, 57, 58, 59, 60, 61, 62, 63, 64, 65, 66, 67, 68] (by decide +kernel) (by decide +kernel)
set_option maxRecDepth 20000 in
theorem gX12_auto2_X12_closes : GoodIn wsX12_auto2 (wsV RX12 209 RX12 yX12_closes wsX12_closes) := goodIn_app (goodIn_of _ (by decide +kernel)) ggX12_auto2_X12_closes
def wbX12_auto2_0 (rec : Nat → XT → (Nat → Int32) → (Nat → Int64) → (XT → Prop) → Prop) (k : Nat) (t : XT) (li : Nat → Int32) (lj : Nat → Int64) (Q : XT → Prop) : Prop :=
  (wqX12_opensAll k t  (fun t_1 => rec 1 t_1 (uI li 1 1) lj Q))
def wbX12_auto2_1 (rec : Nat → XT → (Nat → Int32) → (Nat → Int64) → (XT → Prop) → Prop) (k : Nat) (t : XT) (li : Nat → Int32) (lj : Nat → Int64) (Q : XT → Prop) : Prop :=
  (((li 1) = 0) → Q t) ∧ (¬ ((li 1) = 0) → rec 2 t (uI (uI (uI li 1 0) 2 (-1)) 3 0) lj Q)
def wbX12_auto2_2 (rec : Nat → XT → (Nat → Int32) → (Nat → Int64) → (XT → Prop) → Prop) (k : Nat) (t : XT) (li : Nat → Int32) (lj : Nat → Int64) (Q : XT → Prop) : Prop :=
  ((((t.1 3) : Int32) ≤ (li 3)) → rec 4 t li lj Q) ∧ (¬ (((t.1 3) : Int32) ≤ (li 3)) → ((¬ (li 1) = 0) → rec 4 t li lj Q) ∧ (((li 1) = 0) → (vp_in (li 3) 60 ∧ (∀ v_5 : Int32, v_5 = (t.2.2.1 9) (li 3).toNatClampNeg → ((v_5 = 0) → rec 3 t li lj Q) ∧ (¬ (v_5 = 0) → (wqX12_onlyOver k t (li 3) (fun r_7 t_7 => ((r_7 = (-1)) → rec 3 t_7 (uI li 2 (li 3)) lj Q) ∧ (¬ (r_7 = (-1)) → (wqX12_closes k t_7 (li 3) r_7 (fun t_9 => rec 3 t_9 (uI (uI li 1 1) 2 (li 3)) lj Q))))))))))
def wbX12_auto2_3 (rec : Nat → XT → (Nat → Int32) → (Nat → Int64) → (XT → Prop) → Prop) (k : Nat) (t : XT) (li : Nat → Int32) (lj : Nat → Int64) (Q : XT → Prop) : Prop :=
  (∀ v_10 : Int32, v_10 = (li 3) + Int32.ofInt 1 → rec 2 t (uI li 3 v_10) lj Q)
def wbX12_auto2_4 (rec : Nat → XT → (Nat → Int32) → (Nat → Int64) → (XT → Prop) → Prop) (k : Nat) (t : XT) (li : Nat → Int32) (lj : Nat → Int64) (Q : XT → Prop) : Prop :=
  ((¬ (li 1) = 0) → rec 5 t li lj Q) ∧ (((li 1) = 0) → (((li 2) = (-1)) → rec 5 t li lj Q) ∧ (¬ ((li 2) = (-1)) → (vp_in (li 2) 60 ∧ (∀ t_13 : XT, t_13 = sA t 9 (upd (t.2.2.1 9) (li 2).toNatClampNeg (vp_nar .boolean 0)) → rec 5 t_13 (uI li 1 1) lj Q))))
def wbX12_auto2_5 (rec : Nat → XT → (Nat → Int32) → (Nat → Int64) → (XT → Prop) → Prop) (k : Nat) (t : XT) (li : Nat → Int32) (lj : Nat → Int64) (Q : XT → Prop) : Prop :=
  rec 1 t li lj Q
def wpX12_auto2 : Nat → Nat → XT → (Nat → Int32) → (Nat → Int64) → (XT → Prop) → Prop
  | 0, _, _, _, _, _ => False
  | k + 1, 0, t, li, lj, Q => wbX12_auto2_0 (wpX12_auto2 k) k t li lj Q
  | k + 1, 1, t, li, lj, Q => wbX12_auto2_1 (wpX12_auto2 k) k t li lj Q
  | k + 1, 2, t, li, lj, Q => wbX12_auto2_2 (wpX12_auto2 k) k t li lj Q
  | k + 1, 3, t, li, lj, Q => wbX12_auto2_3 (wpX12_auto2 k) k t li lj Q
  | k + 1, 4, t, li, lj, Q => wbX12_auto2_4 (wpX12_auto2 k) k t li lj Q
  | k + 1, 5, t, li, lj, Q => wbX12_auto2_5 (wpX12_auto2 k) k t li lj Q
  | _ + 1, _, _, _, _, _ => False
def wqX12_auto2 (k : Nat) (t : XT)  (Q : XT → Prop) : Prop := wpX12_auto2 k 0 t (fun _ => 0) (fun _ => 0) Q
set_option maxHeartbeats 8000000 in
set_option maxRecDepth 100000 in
theorem wkX12_auto2 (l : Launch) (D : va_G) (cI cJ cB cZ : ClassId) (bd : Nat → Nat) (k : Nat) (t : XT)  (Q : XT → Prop) (hR : wqX12_auto2 k t  Q) : MetV l yX12_auto2 wsX12_auto2 4 86 0 0 D (TYS cI cJ cB cZ) (wM cI cJ cB cZ bd t) [.ref (bd 0)] (fun u => Q u) (fun u : XT => (wM cI cJ cB cZ bd u)) := by
  refine x_startV (ty := .int) (cc := cX12_auto2) (by decide) rfl (Nat.le_of_ble_eq_true rfl) ?_
  intro p e s m args below meth c A ls B hr hnm h hl
  have hx := B.1.1
  have hb := B.1.2.1
  have hml := B.1.2.2.1
  have hts := B.1.2.2.2.2
  have hown : s.vm.findClass RX12 = some m.cls := B.1.2.2.2.1
  have hin12 : ∀ w ∈ u_ws RX12 TX12 31, w ∈ wsX12_auto2 := by decide +kernel
  have main : ∀ k : Nat, (∀ (t : XT) (li : Nat → Int32) (lj : Nat → Int64) (H : Heap) (locs : List Loc) (ls : Array Slot), wpX12_auto2 k 0 t li lj Q → lv_has ls 5 [(0, .ref (bd 0))] → Hp D A s.heap (wM cI cJ cB cZ bd t) H locs → W p l e { frames := 4, cells := 0, slots := 0, locals := 86 } s m args below meth c H locs 0 0 (MQ below (va_Qv (fun u => Q u) (fun u t => xEnd D ((fun u : XT => (wM cI cJ cB cZ bd u)) u) A t) A) args s 0 0 A) (F0 m 0 ls [])) ∧
      (∀ (t : XT) (li : Nat → Int32) (lj : Nat → Int64) (H : Heap) (locs : List Loc) (ls : Array Slot), wpX12_auto2 k 1 t li lj Q → lv_has ls 5 [(0, .ref (bd 0)), (1, .int (li 1))] → Hp D A s.heap (wM cI cJ cB cZ bd t) H locs → W p l e { frames := 4, cells := 0, slots := 0, locals := 86 } s m args below meth c H locs 0 0 (MQ below (va_Qv (fun u => Q u) (fun u t => xEnd D ((fun u : XT => (wM cI cJ cB cZ bd u)) u) A t) A) args s 0 0 A) (F0 m 6 ls [])) ∧
      (∀ (t : XT) (li : Nat → Int32) (lj : Nat → Int64) (H : Heap) (locs : List Loc) (ls : Array Slot), wpX12_auto2 k 2 t li lj Q → lv_has ls 5 [(0, .ref (bd 0)), (1, .int (li 1)), (2, .int (li 2)), (3, .int (li 3))] → Hp D A s.heap (wM cI cJ cB cZ bd t) H locs → W p l e { frames := 4, cells := 0, slots := 0, locals := 86 } s m args below meth c H locs 0 0 (MQ below (va_Qv (fun u => Q u) (fun u t => xEnd D ((fun u : XT => (wM cI cJ cB cZ bd u)) u) A t) A) args s 0 0 A) (F0 m 16 ls [])) ∧
      (∀ (t : XT) (li : Nat → Int32) (lj : Nat → Int64) (H : Heap) (locs : List Loc) (ls : Array Slot), wpX12_auto2 k 3 t li lj Q → lv_has ls 5 [(0, .ref (bd 0)), (1, .int (li 1)), (2, .int (li 2)), (3, .int (li 3))] → Hp D A s.heap (wM cI cJ cB cZ bd t) H locs → W p l e { frames := 4, cells := 0, slots := 0, locals := 86 } s m args below meth c H locs 0 0 (MQ below (va_Qv (fun u => Q u) (fun u t => xEnd D ((fun u : XT => (wM cI cJ cB cZ bd u)) u) A t) A) args s 0 0 A) (F0 m 61 ls [])) ∧
      (∀ (t : XT) (li : Nat → Int32) (lj : Nat → Int64) (H : Heap) (locs : List Loc) (ls : Array Slot), wpX12_auto2 k 4 t li lj Q → lv_has ls 5 [(0, .ref (bd 0)), (1, .int (li 1)), (2, .int (li 2)), (3, .int (li 3))] → Hp D A s.heap (wM cI cJ cB cZ bd t) H locs → W p l e { frames := 4, cells := 0, slots := 0, locals := 86 } s m args below meth c H locs 0 0 (MQ below (va_Qv (fun u => Q u) (fun u t => xEnd D ((fun u : XT => (wM cI cJ cB cZ bd u)) u) A t) A) args s 0 0 A) (F0 m 67 ls [])) ∧
      (∀ (t : XT) (li : Nat → Int32) (lj : Nat → Int64) (H : Heap) (locs : List Loc) (ls : Array Slot), wpX12_auto2 k 5 t li lj Q → lv_has ls 5 [(0, .ref (bd 0)), (1, .int (li 1)), (2, .int (li 2)), (3, .int (li 3))] → Hp D A s.heap (wM cI cJ cB cZ bd t) H locs → W p l e { frames := 4, cells := 0, slots := 0, locals := 86 } s m args below meth c H locs 0 0 (MQ below (va_Qv (fun u => Q u) (fun u t => xEnd D ((fun u : XT => (wM cI cJ cB cZ bd u)) u) A t) A) args s 0 0 A) (F0 m 85 ls [])) := by
    intro k
    induction k with
    | zero => exact ⟨fun _ _ _ _ _ _ hR => False.elim hR, fun _ _ _ _ _ _ hR => False.elim hR, fun _ _ _ _ _ _ hR => False.elim hR, fun _ _ _ _ _ _ hR => False.elim hR, fun _ _ _ _ _ _ hR => False.elim hR, fun _ _ _ _ _ _ hR => False.elim hR⟩
    | succ k ih =>
      refine ⟨?_, ?_, ?_, ?_, ?_, ?_⟩
      · intro t li lj H locs ls hR hl h
        have hR : wbX12_auto2_0 (wpX12_auto2 k) k t li lj Q := hR
        unfold wbX12_auto2_0 at hR
        refine lv_aload_n hx hb dX12_auto2_0 rfl (lv_at hl 0 rfl) ?_
        refine x_cVVF (n := 0) (As := []) (rest := []) B h (wkX12_opensAll l D cI cJ cB cZ bd k t  _ hR) ⟨⟨_, rfl⟩, by decide +kernel, Nat.le_of_ble_eq_true rfl, Nat.le_of_ble_eq_true rfl⟩ gX12_auto2_X12_opensAll (show ((wM cI cJ cB cZ bd t) : va_W)[0]? = some (_, .inr (12, _)) from rfl) rfl rfl hl.1 rfl (Nat.le_of_ble_eq_true rfl) dX12_auto2_1 ⟨Nat.le_of_ble_eq_true rfl, Nat.le_of_ble_eq_true rfl⟩ (fun t_1 H locs hR h => ?_)
        refine lv_iconst (v := 1) hx hb dX12_auto2_4 (by decide) ?_
        refine lv_istore_n (lv' := [(1, .int 1), (0, .ref (bd 0))]) hx hb dX12_auto2_5 rfl hl (by decide) rfl (fun ls hl => ?_)
        exact ih.2.1 t_1 (uI li 1 1) lj H locs ls hR (lv_sub hl [1, 0] rfl) h
      · intro t li lj H locs ls hR hl h
        have hR : wbX12_auto2_1 (wpX12_auto2 k) k t li lj Q := hR
        unfold wbX12_auto2_1 at hR
        refine lv_iload_n hx hb dX12_auto2_6 rfl (lv_at hl 1 rfl) ?_
        refine lv_if_eq (tgt := 88) hx hb dX12_auto2_7 (by decide) (fun c_2 => ?_) (fun c_2 => ?_)
        · have hR := hR.1 c_2
          exact x_vret (w1 := (fun u : XT => (wM cI cJ cB cZ bd u))) t B h hr hR dX12_auto2_88
        · have hR := hR.2 c_2
          refine lv_iconst (v := 0) hx hb dX12_auto2_10 (by decide) ?_
          refine lv_istore_n (lv' := [(1, .int 0), (0, .ref (bd 0))]) hx hb dX12_auto2_11 rfl hl (by decide) rfl (fun ls hl => ?_)
          refine lv_iconst (v := (-1)) hx hb dX12_auto2_12 (by decide) ?_
          refine lv_istore_n (lv' := [(2, .int (-1)), (1, .int 0), (0, .ref (bd 0))]) hx hb dX12_auto2_13 rfl hl (by decide) rfl (fun ls hl => ?_)
          refine lv_iconst (v := 0) hx hb dX12_auto2_14 (by decide) ?_
          refine lv_istore_n (lv' := [(3, .int 0), (2, .int (-1)), (1, .int 0), (0, .ref (bd 0))]) hx hb dX12_auto2_15 rfl hl (by decide) rfl (fun ls hl => ?_)
          exact ih.2.2.1 t (uI (uI (uI li 1 0) 2 (-1)) 3 0) lj H locs ls hR (lv_sub hl [3, 2, 1, 0] rfl) h
      · intro t li lj H locs ls hR hl h
        have hR : wbX12_auto2_2 (wpX12_auto2 k) k t li lj Q := hR
        unfold wbX12_auto2_2 at hR
        refine lv_iload_n hx hb dX12_auto2_16 rfl (lv_at hl 3 rfl) ?_
        refine lv_aload_n hx hb dX12_auto2_17 rfl (lv_at hl 0 rfl) ?_
        refine x_get (ci := 12) (C := RX12) (T := TX12) (N := 31) (v := .int (t.1 3)) B h hin12 0 5 rfl rfl (by decide) (by decide +kernel) rfl dX12_auto2_18 ?_
        refine lv_icmp_ge (tgt := 67) hx hb dX12_auto2_21 (by decide) (fun c_3 => ?_) (fun c_3 => ?_)
        · have hR := hR.1 c_3
          exact ih.2.2.2.2.1 t li lj H locs ls hR (lv_sub hl [0, 1, 2, 3] rfl) h
        · have hR := hR.2 c_3
          refine lv_iload_n hx hb dX12_auto2_24 rfl (lv_at hl 1 rfl) ?_
          refine lv_if_ne (tgt := 67) hx hb dX12_auto2_25 (by decide) (fun c_4 => ?_) (fun c_4 => ?_)
          · have hR := hR.1 c_4
            exact ih.2.2.2.2.1 t li lj H locs ls hR (lv_sub hl [0, 1, 2, 3] rfl) h
          · have hR := hR.2 c_4
            refine lv_aload_n hx hb dX12_auto2_28 rfl (lv_at hl 0 rfl) ?_
            refine x_get (ci := 12) (C := RX12) (T := TX12) (N := 31) (v := .ref (bd 10)) B h hin12 0 14 rfl rfl (by decide) (by decide +kernel) rfl dX12_auto2_29 ?_
            refine lv_iload_n hx hb dX12_auto2_32 rfl (lv_at hl 3 rfl) ?_
            obtain ⟨hb_5, hR⟩ := hR
            refine va_zald (f := (t.2.2.1 9)) hx hb B.2.1 h.1 10 3 rfl rfl hb_5 dX12_auto2_33 ?_
            refine lv_topi (fun v_5 ev_5 => ?_)
            have hR := hR v_5 ev_5
            refine lv_if_eq (tgt := 61) hx hb dX12_auto2_34 (by decide) (fun c_6 => ?_) (fun c_6 => ?_)
            · have hR := hR.1 c_6
              exact ih.2.2.2.1 t li lj H locs ls hR (lv_sub hl [0, 1, 2, 3] rfl) h
            · have hR := hR.2 c_6
              refine lv_iload_n hx hb dX12_auto2_37 rfl (lv_at hl 3 rfl) ?_
              refine lv_istore_n (lv' := [(2, .int (li 3)), (0, .ref (bd 0)), (1, .int (li 1)), (3, .int (li 3))]) hx hb dX12_auto2_38 rfl hl (by decide) rfl (fun ls hl => ?_)
              refine lv_aload_n hx hb dX12_auto2_39 rfl (lv_at hl 1 rfl) ?_
              refine lv_iload_n hx hb dX12_auto2_40 rfl (lv_at hl 3 rfl) ?_
              refine x_cVIF (n := 1) (As := [.int (li 3)]) (rest := []) B h (wkX12_onlyOver l D cI cJ cB cZ bd k t (li 3) _ hR) ⟨⟨_, rfl⟩, by decide +kernel, Nat.le_of_ble_eq_true rfl, Nat.le_of_ble_eq_true rfl⟩ gX12_auto2_X12_onlyOver (show ((wM cI cJ cB cZ bd t) : va_W)[0]? = some (_, .inr (12, _)) from rfl) rfl rfl hl.1 rfl (Nat.le_of_ble_eq_true rfl) dX12_auto2_41 ⟨Nat.le_of_ble_eq_true rfl, Nat.le_of_ble_eq_true rfl⟩ (fun r_7 t_7 H locs hR h => ?_)
              refine lv_istore (lv' := [(4, .int r_7), (2, .int (li 3)), (0, .ref (bd 0)), (1, .int (li 1)), (3, .int (li 3))]) hx hb dX12_auto2_44 hl (by decide) rfl (fun ls hl => ?_)
              refine lv_iload hx hb dX12_auto2_46 (lv_at hl 0 rfl) ?_
              refine lv_iconst (v := (-1)) hx hb dX12_auto2_48 (by decide) ?_
              refine lv_icmp_eq (tgt := 61) hx hb dX12_auto2_49 (by decide) (fun c_8 => ?_) (fun c_8 => ?_)
              · have hR := hR.1 c_8
                exact ih.2.2.2.1 t_7 (uI li 2 (li 3)) lj H locs ls hR (lv_sub hl [2, 3, 1, 4] rfl) h
              · have hR := hR.2 c_8
                refine lv_aload_n hx hb dX12_auto2_52 rfl (lv_at hl 2 rfl) ?_
                refine lv_iload_n hx hb dX12_auto2_53 rfl (lv_at hl 4 rfl) ?_
                refine lv_iload hx hb dX12_auto2_54 (lv_at hl 0 rfl) ?_
                refine x_cVVF (n := 2) (As := [.int (li 3), .int r_7]) (rest := []) B h (wkX12_closes l D cI cJ cB cZ bd k t_7 (li 3) r_7 _ hR) ⟨⟨_, rfl⟩, by decide +kernel, Nat.le_of_ble_eq_true rfl, Nat.le_of_ble_eq_true rfl⟩ gX12_auto2_X12_closes (show ((wM cI cJ cB cZ bd t_7) : va_W)[0]? = some (_, .inr (12, _)) from rfl) rfl rfl hl.1 rfl (Nat.le_of_ble_eq_true rfl) dX12_auto2_56 ⟨Nat.le_of_ble_eq_true rfl, Nat.le_of_ble_eq_true rfl⟩ (fun t_9 H locs hR h => ?_)
                refine lv_iconst (v := 1) hx hb dX12_auto2_59 (by decide) ?_
                refine lv_istore_n (lv' := [(1, .int 1), (4, .int r_7), (2, .int (li 3)), (0, .ref (bd 0)), (3, .int (li 3))]) hx hb dX12_auto2_60 rfl hl (by decide) rfl (fun ls hl => ?_)
                exact ih.2.2.2.1 t_9 (uI (uI li 1 1) 2 (li 3)) lj H locs ls hR (lv_sub hl [3, 0, 2, 4] rfl) h
      · intro t li lj H locs ls hR hl h
        have hR : wbX12_auto2_3 (wpX12_auto2 k) k t li lj Q := hR
        unfold wbX12_auto2_3 at hR
        obtain ⟨v_10, ev_10⟩ : ∃ v : Int32, v = (li 3) + Int32.ofInt 1 := ⟨_, rfl⟩
        have hR := hR v_10 ev_10
        refine lv_iinc (v := v_10) (lv' := [(3, .int v_10), (0, .ref (bd 0)), (1, .int (li 1)), (2, .int (li 2))]) hx hb dX12_auto2_61 hl (k := 3) rfl ev_10.symm (by decide) rfl (fun ls hl => ?_)
        refine lv_goto (tgt := 16) hx hb dX12_auto2_64 (by decide) ?_
        exact ih.2.2.1 t (uI li 3 v_10) lj H locs ls hR (lv_sub hl [1, 2, 3, 0] rfl) h
      · intro t li lj H locs ls hR hl h
        have hR : wbX12_auto2_4 (wpX12_auto2 k) k t li lj Q := hR
        unfold wbX12_auto2_4 at hR
        refine lv_iload_n hx hb dX12_auto2_67 rfl (lv_at hl 1 rfl) ?_
        refine lv_if_ne (tgt := 85) hx hb dX12_auto2_68 (by decide) (fun c_11 => ?_) (fun c_11 => ?_)
        · have hR := hR.1 c_11
          exact ih.2.2.2.2.2 t li lj H locs ls hR (lv_sub hl [0, 1, 2, 3] rfl) h
        · have hR := hR.2 c_11
          refine lv_iload_n hx hb dX12_auto2_71 rfl (lv_at hl 2 rfl) ?_
          refine lv_iconst (v := (-1)) hx hb dX12_auto2_72 (by decide) ?_
          refine lv_icmp_eq (tgt := 85) hx hb dX12_auto2_73 (by decide) (fun c_12 => ?_) (fun c_12 => ?_)
          · have hR := hR.1 c_12
            exact ih.2.2.2.2.2 t li lj H locs ls hR (lv_sub hl [0, 1, 2, 3] rfl) h
          · have hR := hR.2 c_12
            refine lv_aload_n hx hb dX12_auto2_76 rfl (lv_at hl 0 rfl) ?_
            refine x_get (ci := 12) (C := RX12) (T := TX12) (N := 31) (v := .ref (bd 10)) B h hin12 0 14 rfl rfl (by decide) (by decide +kernel) rfl dX12_auto2_77 ?_
            refine lv_iload_n hx hb dX12_auto2_80 rfl (lv_at hl 2 rfl) ?_
            refine lv_iconst (v := 0) hx hb dX12_auto2_81 (by decide) ?_
            obtain ⟨hb_13, hR⟩ := hR
            refine z_zast (f := (t.2.2.1 9)) B h 10 3 rfl rfl hb_13 dX12_auto2_82 (fun H locs h => ?_)
            obtain ⟨t_13, et_13⟩ : ∃ v : XT, v = sA t 9 (upd (t.2.2.1 9) (li 2).toNatClampNeg (vp_nar .boolean 0)) := ⟨_, rfl⟩
            have hR := hR t_13 et_13
            have h : Hp D A s.heap (wM cI cJ cB cZ bd t_13) H locs := by rw [et_13]; exact h
            refine lv_iconst (v := 1) hx hb dX12_auto2_83 (by decide) ?_
            refine lv_istore_n (lv' := [(1, .int 1), (0, .ref (bd 0)), (2, .int (li 2)), (3, .int (li 3))]) hx hb dX12_auto2_84 rfl hl (by decide) rfl (fun ls hl => ?_)
            exact ih.2.2.2.2.2 t_13 (uI li 1 1) lj H locs ls hR (lv_sub hl [1, 0, 2, 3] rfl) h
      · intro t li lj H locs ls hR hl h
        have hR : wbX12_auto2_5 (wpX12_auto2 k) k t li lj Q := hR
        unfold wbX12_auto2_5 at hR
        refine lv_goto (tgt := 6) hx hb dX12_auto2_85 (by decide) ?_
        exact ih.2.1 t li lj H locs ls hR (lv_sub hl [0, 1] rfl) h
  exact (main k).1 t _ _ s.heap [] ls hR hl h
