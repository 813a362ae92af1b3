set_option maxRecDepth 20000 in
theorem ggX12_count_X12_thereMany : GoodIn wsX12_count wsX12_thereMany := goodIn_r _ [9, 1, 10, 11, 12, 8, 13, 86, 87, 88, 89, 90, 91, 92, 93, 94, 95, 96, 97, 98, 99, 100, 101, 102, 103, 104, 105, 106, 107, 108, 109, 110, 111, 112, 113, 114, 115, 116] (by decide +kernel) (by decide +kernel)
set_option maxRecDepth 20000 in
theorem gX12_count_X12_thereMany : GoodIn wsX12_count (wsV RX12 268 RX12 yX12_thereMany wsX12_thereMany) := goodIn_app (goodIn_of _ (by decide +kernel)) ggX12_count_X12_thereMany
set_option maxRecDepth 20000 in
theorem ggX12_count_X12_greatestDim : GoodIn wsX12_count wsX12_greatestDim := goodIn_r _ [17, 1, 18, 19, 20, 21, 22, 23, 24, 8, 25, 10, 26, 27, 28, 29, 30, 31, 32, 33, 34, 35, 36, 37, 38, 39, 40, 41, 42, 43, 44, 86, 87, 88, 89, 90, 91, 92, 93, 94, 95, 96, 97, 98, 99, 100, 101, 102, 103, 104, 105, 106, 107, 108, 109, 110, 111, 112, 113, 114, 115, 116] (by decide +kernel) (by decide +kernel)
set_option maxRecDepth 20000 in
theorem gX12_count_X12_greatestDim : GoodIn wsX12_count (wsV RX12 369 RX12 yX12_greatestDim wsX12_greatestDim) := goodIn_app (goodIn_of _ (by decide +kernel)) ggX12_count_X12_greatestDim
set_option maxRecDepth 20000 in
theorem ggX12_count_X12_pairMany : GoodIn wsX12_count wsX12_pairMany := goodIn_r _ [48, 1, 49, 50, 51, 8, 52, 53, 11, 12, 13, 86, 87, 88, 89, 90, 91, 92, 93, 94, 95, 96, 97, 98, 99, 100, 101, 102, 103, 104, 105, 106, 107, 108, 109, 110, 111, 112, 113, 114, 115, 116] (by decide +kernel) (by decide +kernel)
set_option maxRecDepth 20000 in
theorem gX12_count_X12_pairMany : GoodIn wsX12_count (wsV RX12 366 RX12 yX12_pairMany wsX12_pairMany) := goodIn_app (goodIn_of _ (by decide +kernel)) ggX12_count_X12_pairMany
set_option maxRecDepth 20000 in
theorem ggX12_count_X12_criticalMany : GoodIn wsX12_count wsX12_criticalMany := goodIn_r _ [57, 1, 58, 59, 60, 8, 61, 53, 22, 23, 24, 25, 10, 26, 27, 28, 29, 30, 31, 32, 11, 12, 13, 86, 87, 88, 89, 90, 91, 92, 93, 94, 95, 96, 97, 98, 99, 100, 101, 102, 103, 104, 105, 106, 107, 108, 109, 110, 111, 112, 113, 114, 115, 116] (by decide +kernel) (by decide +kernel)
set_option maxRecDepth 20000 in
theorem gX12_count_X12_criticalMany : GoodIn wsX12_count (wsV RX12 197 RX12 yX12_criticalMany wsX12_criticalMany) := goodIn_app (goodIn_of _ (by decide +kernel)) ggX12_count_X12_criticalMany
set_option maxRecDepth 20000 in
theorem ggX12_count_X12_euler : GoodIn wsX12_count wsX12_euler := goodIn_r _ [65, 1, 22, 23, 24, 8, 25, 10, 26, 27, 28, 29, 30, 31, 32, 66, 67, 68, 69, 33, 34, 35, 36, 37, 38, 39, 40, 41, 42, 43, 44, 86, 87, 88, 89, 90, 91, 92, 93, 94, 95, 96, 97, 98, 99, 100, 101, 102, 103, 104, 105, 106, 107, 108, 109, 110, 111, 112, 113, 114, 115, 116] (by decide +kernel) (by decide +kernel)
set_option maxRecDepth 20000 in
theorem gX12_count_X12_euler : GoodIn wsX12_count (wsV RX12 372 RX12 yX12_euler wsX12_euler) := goodIn_app (goodIn_of _ (by decide +kernel)) ggX12_count_X12_euler
set_option maxRecDepth 20000 in
theorem ggX12_count_X12_partsMany : GoodIn wsX12_count wsX12_partsMany := goodIn_r _ [73, 1, 74, 75, 76, 20, 77, 78, 79, 80, 8, 81, 10, 82, 83, 84, 85, 37, 33, 34, 35, 36, 38, 39, 40, 41, 42, 43, 44, 22, 23, 24, 25, 26, 27, 28, 29, 30, 31, 32, 11, 12, 13, 86, 87, 88, 89, 90, 91, 92, 93, 94, 95, 96, 97, 98, 99, 100, 101, 102, 103, 104, 105, 106, 107, 108, 109, 110, 111, 112, 113, 114, 115, 116] (by decide +kernel) (by decide +kernel)
set_option maxRecDepth 20000 in
theorem gX12_count_X12_partsMany : GoodIn wsX12_count (wsV RX12 375 RX12 yX12_partsMany wsX12_partsMany) := goodIn_app (goodIn_of _ (by decide +kernel)) ggX12_count_X12_partsMany
def wbX12_count_0 (rec : Nat → XT → (Nat → Int32) → (Nat → Int64) → (Int32 → XT → Prop) → Prop) (k : Nat) (t : XT) (li : Nat → Int32) (lj : Nat → Int64) (Q : Int32 → XT → Prop) : Prop :=
  ((li 1).toInt < 0 ∨ 9 < (li 1).toInt → Q (-1) t) ∧ ((li 1) = 0 → Q (t.1 3) t) ∧ ((li 1) = 1 → (wqX12_thereMany k t  (fun r_2 t_2 => Q r_2 t_2))) ∧ ((li 1) = 2 → (wqX12_greatestDim k t  (fun r_3 t_3 => Q r_3 t_3))) ∧ ((li 1) = 3 → (wqX12_pairMany k t  (fun r_4 t_4 => Q r_4 t_4))) ∧ ((li 1) = 4 → (wqX12_criticalMany k t  (fun r_5 t_5 => Q r_5 t_5))) ∧ ((li 1) = 5 → (wqX12_euler k t  (fun r_6 t_6 => Q r_6 t_6))) ∧ ((li 1) = 6 → (wqX12_partsMany k t  (fun r_7 t_7 => Q r_7 t_7))) ∧ ((li 1) = 7 → Q (t.1 4) t) ∧ ((li 1) = 8 → Q (t.1 8) t) ∧ ((li 1) = 9 → Q (t.1 0) t)
def wpX12_count : Nat → Nat → XT → (Nat → Int32) → (Nat → Int64) → (Int32 → XT → Prop) → Prop
  | 0, _, _, _, _, _ => False
  | k + 1, 0, t, li, lj, Q => wbX12_count_0 (wpX12_count k) k t li lj Q
  | _ + 1, _, _, _, _, _ => False
def wqX12_count (k : Nat) (t : XT) (a1 : Int32) (Q : Int32 → XT → Prop) : Prop := wpX12_count k 0 t (uI (fun _ => 0) 1 a1) (fun _ => 0) Q
set_option maxHeartbeats 8000000 in
set_option maxRecDepth 100000 in
theorem wkX12_count (l : Launch) (D : va_G) (cI cJ cB cZ : ClassId) (bd : Nat → Nat) (k : Nat) (t : XT) (a1 : Int32) (Q : Int32 → XT → Prop) (hR : wqX12_count k t a1 Q) : MetI l yX12_count wsX12_count 5 109 0 0 D (TYS cI cJ cB cZ) (wM cI cJ cB cZ bd t) [.ref (bd 0), .int a1] (fun r u => Q r u) (fun u : XT => (wM cI cJ cB cZ bd u)) := by
  refine x_startI (ty := .int) (cc := cX12_count) (by decide) rfl (Nat.le_of_ble_eq_true rfl) ?_
  intro p e s m args below meth c A ls B hr hnm h hl
  have hx := B.1.1
  have hb := B.1.2.1
  have hml := B.1.2.2.1
  have hts := B.1.2.2.2.2
  have hown : s.vm.findClass RX12 = some m.cls := B.1.2.2.2.1
  have hin12 : ∀ w ∈ u_ws RX12 TX12 31, w ∈ wsX12_count := by decide +kernel
  have main : ∀ k : Nat, (∀ (t : XT) (li : Nat → Int32) (lj : Nat → Int64) (H : Heap) (locs : List Loc) (ls : Array Slot), wpX12_count k 0 t li lj Q → lv_has ls 2 [(0, .ref (bd 0)), (1, .int (li 1))] → Hp D A s.heap (wM cI cJ cB cZ bd t) H locs → W p l e { frames := 5, cells := 0, slots := 0, locals := 109 } s m args below meth c H locs 0 0 (MQ below (va_Qi (fun r u => Q r u) (fun u t => xEnd D ((fun u : XT => (wM cI cJ cB cZ bd u)) u) A t) A) args s 0 0 A) (F0 m 0 ls [])) := by
    intro k
    induction k with
    | zero => exact fun _ _ _ _ _ _ hR => False.elim hR
    | succ k ih =>
      intro t li lj H locs ls hR hl h
      have hR : wbX12_count_0 (wpX12_count k) k t li lj Q := hR
      unfold wbX12_count_0 at hR
      refine lv_iload_n hx hb dX12_count_0 rfl (lv_at hl 1 rfl) ?_
      rcases sw_cases (li 1) 0 9 10 (by decide) with c_1 | ⟨j_1, hj_1, e_1⟩
      · refine lv_tableOut (tgt := 106) hx hb dX12_count_1 c_1 (by decide) ?_
        have hR := hR.1 c_1
        refine lv_iconst (v := (-1)) hx hb dX12_count_106 (by decide) ?_
        exact x_iret (w1 := (fun u : XT => (wM cI cJ cB cZ bd u))) t B h hr rfl hR dX12_count_107
      · rcases (show j_1 = 0 ∨ j_1 = 1 ∨ j_1 = 2 ∨ j_1 = 3 ∨ j_1 = 4 ∨ j_1 = 5 ∨ j_1 = 6 ∨ j_1 = 7 ∨ j_1 = 8 ∨ j_1 = 9 by omega) with rfl | rfl | rfl | rfl | rfl | rfl | rfl | rfl | rfl | rfl
        · have e_1 : (li 1) = 0 := e_1.trans (by decide)
          have hR := hR.2.1 e_1
          refine lv_tableIn (off := 55) (tgt := 56) hx hb dX12_count_1 (by rw [e_1]; decide) (by rw [e_1]; decide) (by rw [e_1]; decide) (by decide) ?_
          refine lv_aload_n hx hb dX12_count_56 rfl (lv_at hl 0 rfl) ?_
          refine x_get (ci := 12) (C := RX12) (T := TX12) (N := 31) (v := .int (t.1 3)) B h hin12 0 5 rfl rfl (by decide) (by decide +kernel) rfl dX12_count_57 ?_
          exact x_iret (w1 := (fun u : XT => (wM cI cJ cB cZ bd u))) t B h hr rfl hR dX12_count_60
        · have e_1 : (li 1) = 1 := e_1.trans (by decide)
          have hR := hR.2.2.1 e_1
          refine lv_tableIn (off := 60) (tgt := 61) hx hb dX12_count_1 (by rw [e_1]; decide) (by rw [e_1]; decide) (by rw [e_1]; decide) (by decide) ?_
          refine lv_aload_n hx hb dX12_count_61 rfl (lv_at hl 0 rfl) ?_
          refine x_cVIF (n := 0) (As := []) (rest := []) B h (wkX12_thereMany l D cI cJ cB cZ bd k t  _ hR) ⟨⟨_, rfl⟩, by decide +kernel, Nat.le_of_ble_eq_true rfl, Nat.le_of_ble_eq_true rfl⟩ gX12_count_X12_thereMany (show ((wM cI cJ cB cZ bd t) : va_W)[0]? = some (_, .inr (12, _)) from rfl) rfl rfl hl.1 rfl (Nat.le_of_ble_eq_true rfl) dX12_count_62 ⟨Nat.le_of_ble_eq_true rfl, Nat.le_of_ble_eq_true rfl⟩ (fun r_2 t_2 H locs hR h => ?_)
          exact x_iret (w1 := (fun u : XT => (wM cI cJ cB cZ bd u))) t_2 B h hr rfl hR dX12_count_65
        · have e_1 : (li 1) = 2 := e_1.trans (by decide)
          have hR := hR.2.2.2.1 e_1
          refine lv_tableIn (off := 65) (tgt := 66) hx hb dX12_count_1 (by rw [e_1]; decide) (by rw [e_1]; decide) (by rw [e_1]; decide) (by decide) ?_
          refine lv_aload_n hx hb dX12_count_66 rfl (lv_at hl 0 rfl) ?_
          refine x_cVIF (n := 0) (As := []) (rest := []) B h (wkX12_greatestDim l D cI cJ cB cZ bd k t  _ hR) ⟨⟨_, rfl⟩, by decide +kernel, Nat.le_of_ble_eq_true rfl, Nat.le_of_ble_eq_true rfl⟩ gX12_count_X12_greatestDim (show ((wM cI cJ cB cZ bd t) : va_W)[0]? = some (_, .inr (12, _)) from rfl) rfl rfl hl.1 rfl (Nat.le_of_ble_eq_true rfl) dX12_count_67 ⟨Nat.le_of_ble_eq_true rfl, Nat.le_of_ble_eq_true rfl⟩ (fun r_3 t_3 H locs hR h => ?_)
          exact x_iret (w1 := (fun u : XT => (wM cI cJ cB cZ bd u))) t_3 B h hr rfl hR dX12_count_70
        · have e_1 : (li 1) = 3 := e_1.trans (by decide)
          have hR := hR.2.2.2.2.1 e_1
          refine lv_tableIn (off := 70) (tgt := 71) hx hb dX12_count_1 (by rw [e_1]; decide) (by rw [e_1]; decide) (by rw [e_1]; decide) (by decide) ?_
          refine lv_aload_n hx hb dX12_count_71 rfl (lv_at hl 0 rfl) ?_
          refine x_cVIF (n := 0) (As := []) (rest := []) B h (wkX12_pairMany l D cI cJ cB cZ bd k t  _ hR) ⟨⟨_, rfl⟩, by decide +kernel, Nat.le_of_ble_eq_true rfl, Nat.le_of_ble_eq_true rfl⟩ gX12_count_X12_pairMany (show ((wM cI cJ cB cZ bd t) : va_W)[0]? = some (_, .inr (12, _)) from rfl) rfl rfl hl.1 rfl (Nat.le_of_ble_eq_true rfl) dX12_count_72 ⟨Nat.le_of_ble_eq_true rfl, Nat.le_of_ble_eq_true rfl⟩ (fun r_4 t_4 H locs hR h => ?_)
          exact x_iret (w1 := (fun u : XT => (wM cI cJ cB cZ bd u))) t_4 B h hr rfl hR dX12_count_75
        · have e_1 : (li 1) = 4 := e_1.trans (by decide)
          have hR := hR.2.2.2.2.2.1 e_1
          refine lv_tableIn (off := 75) (tgt := 76) hx hb dX12_count_1 (by rw [e_1]; decide) (by rw [e_1]; decide) (by rw [e_1]; decide) (by decide) ?_
          refine lv_aload_n hx hb dX12_count_76 rfl (lv_at hl 0 rfl) ?_
          refine x_cVIF (n := 0) (As := []) (rest := []) B h (wkX12_criticalMany l D cI cJ cB cZ bd k t  _ hR) ⟨⟨_, rfl⟩, by decide +kernel, Nat.le_of_ble_eq_true rfl, Nat.le_of_ble_eq_true rfl⟩ gX12_count_X12_criticalMany (show ((wM cI cJ cB cZ bd t) : va_W)[0]? = some (_, .inr (12, _)) from rfl) rfl rfl hl.1 rfl (Nat.le_of_ble_eq_true rfl) dX12_count_77 ⟨Nat.le_of_ble_eq_true rfl, Nat.le_of_ble_eq_true rfl⟩ (fun r_5 t_5 H locs hR h => ?_)
          exact x_iret (w1 := (fun u : XT => (wM cI cJ cB cZ bd u))) t_5 B h hr rfl hR dX12_count_80
        · have e_1 : (li 1) = 5 := e_1.trans (by decide)
          have hR := hR.2.2.2.2.2.2.1 e_1
          refine lv_tableIn (off := 80) (tgt := 81) hx hb dX12_count_1 (by rw [e_1]; decide) (by rw [e_1]; decide) (by rw [e_1]; decide) (by decide) ?_
          refine lv_aload_n hx hb dX12_count_81 rfl (lv_at hl 0 rfl) ?_
          refine x_cVIF (n := 0) (As := []) (rest := []) B h (wkX12_euler l D cI cJ cB cZ bd k t  _ hR) ⟨⟨_, rfl⟩, by decide +kernel, Nat.le_of_ble_eq_true rfl, Nat.le_of_ble_eq_true rfl⟩ gX12_count_X12_euler (show ((wM cI cJ cB cZ bd t) : va_W)[0]? = some (_, .inr (12, _)) from rfl) rfl rfl hl.1 rfl (Nat.le_of_ble_eq_true rfl) dX12_count_82 ⟨Nat.le_of_ble_eq_true rfl, Nat.le_of_ble_eq_true rfl⟩ (fun r_6 t_6 H locs hR h => ?_)
          exact x_iret (w1 := (fun u : XT => (wM cI cJ cB cZ bd u))) t_6 B h hr rfl hR dX12_count_85
        · have e_1 : (li 1) = 6 := e_1.trans (by decide)
          have hR := hR.2.2.2.2.2.2.2.1 e_1
          refine lv_tableIn (off := 85) (tgt := 86) hx hb dX12_count_1 (by rw [e_1]; decide) (by rw [e_1]; decide) (by rw [e_1]; decide) (by decide) ?_
          refine lv_aload_n hx hb dX12_count_86 rfl (lv_at hl 0 rfl) ?_
          refine x_cVIF (n := 0) (As := []) (rest := []) B h (wkX12_partsMany l D cI cJ cB cZ bd k t  _ hR) ⟨⟨_, rfl⟩, by decide +kernel, Nat.le_of_ble_eq_true rfl, Nat.le_of_ble_eq_true rfl⟩ gX12_count_X12_partsMany (show ((wM cI cJ cB cZ bd t) : va_W)[0]? = some (_, .inr (12, _)) from rfl) rfl rfl hl.1 rfl (Nat.le_of_ble_eq_true rfl) dX12_count_87 ⟨Nat.le_of_ble_eq_true rfl, Nat.le_of_ble_eq_true rfl⟩ (fun r_7 t_7 H locs hR h => ?_)
          exact x_iret (w1 := (fun u : XT => (wM cI cJ cB cZ bd u))) t_7 B h hr rfl hR dX12_count_90
        · have e_1 : (li 1) = 7 := e_1.trans (by decide)
          have hR := hR.2.2.2.2.2.2.2.2.1 e_1
          refine lv_tableIn (off := 90) (tgt := 91) hx hb dX12_count_1 (by rw [e_1]; decide) (by rw [e_1]; decide) (by rw [e_1]; decide) (by decide) ?_
          refine lv_aload_n hx hb dX12_count_91 rfl (lv_at hl 0 rfl) ?_
          refine x_get (ci := 12) (C := RX12) (T := TX12) (N := 31) (v := .int (t.1 4)) B h hin12 0 13 rfl rfl (by decide) (by decide +kernel) rfl dX12_count_92 ?_
          exact x_iret (w1 := (fun u : XT => (wM cI cJ cB cZ bd u))) t B h hr rfl hR dX12_count_95
        · have e_1 : (li 1) = 8 := e_1.trans (by decide)
          have hR := hR.2.2.2.2.2.2.2.2.2.1 e_1
          refine lv_tableIn (off := 95) (tgt := 96) hx hb dX12_count_1 (by rw [e_1]; decide) (by rw [e_1]; decide) (by rw [e_1]; decide) (by decide) ?_
          refine lv_aload_n hx hb dX12_count_96 rfl (lv_at hl 0 rfl) ?_
          refine x_get (ci := 12) (C := RX12) (T := TX12) (N := 31) (v := .int (t.1 8)) B h hin12 0 26 rfl rfl (by decide) (by decide +kernel) rfl dX12_count_97 ?_
          exact x_iret (w1 := (fun u : XT => (wM cI cJ cB cZ bd u))) t B h hr rfl hR dX12_count_100
        · have e_1 : (li 1) = 9 := e_1.trans (by decide)
          have hR := hR.2.2.2.2.2.2.2.2.2.2 e_1
          refine lv_tableIn (off := 100) (tgt := 101) hx hb dX12_count_1 (by rw [e_1]; decide) (by rw [e_1]; decide) (by rw [e_1]; decide) (by decide) ?_
          refine lv_aload_n hx hb dX12_count_101 rfl (lv_at hl 0 rfl) ?_
          refine x_get (ci := 12) (C := RX12) (T := TX12) (N := 31) (v := .int (t.1 0)) B h hin12 0 1 rfl rfl (by decide) (by decide +kernel) rfl dX12_count_102 ?_
          exact x_iret (w1 := (fun u : XT => (wM cI cJ cB cZ bd u))) t B h hr rfl hR dX12_count_105
  exact (main k) t _ _ s.heap [] ls hR hl h
def wbX10_append_0 (rec : Nat → XT → (Nat → Int32) → (Nat → Int64) → (XT → Prop) → Prop) (k : Nat) (t : XT) (li : Nat → Int32) (lj : Nat → Int64) (Q : XT → Prop) : Prop :=
  rec 1 t (uI li 2 24) lj Q
def wbX10_append_1 (rec : Nat → XT → (Nat → Int32) → (Nat → Int64) → (XT → Prop) → Prop) (k : Nat) (t : XT) (li : Nat → Int32) (lj : Nat → Int64) (Q : XT → Prop) : Prop :=
  (((li 2) < 0) → Q t) ∧ (¬ ((li 2) < 0) → (((160 : Int32) ≤ (t.1 1)) → Q t) ∧ (¬ ((160 : Int32) ≤ (t.1 1)) → (∀ v_3 : Int32, v_3 = ((li 1).toUInt32 >>> ((li 2).toUInt32 &&& Int32.toUInt32 31)).toInt32 → (∀ v_4 : Int32, v_4 = (v_3 &&& 255) → (vp_in (t.1 1) 160 ∧ (∀ t_5 : XT, t_5 = sA t 0 (upd (t.2.2.1 0) (t.1 1).toNatClampNeg v_4) → (∀ v_6 : Int32, v_6 = ((t_5.1 1) + 1) → (∀ t_7 : XT, t_7 = sI t_5 1 v_6 → (∀ v_8 : Int32, v_8 = (li 2) + Int32.ofInt (-8) → rec 1 t_7 (uI li 2 v_8) lj Q)))))))))
def wpX10_append : Nat → Nat → XT → (Nat → Int32) → (Nat → Int64) → (XT → Prop) → Prop
  | 0, _, _, _, _, _ => False
  | k + 1, 0, t, li, lj, Q => wbX10_append_0 (wpX10_append k) k t li lj Q
  | k + 1, 1, t, li, lj, Q => wbX10_append_1 (wpX10_append k) k t li lj Q
  | _ + 1, _, _, _, _, _ => False
def wqX10_append (k : Nat) (t : XT) (a1 : Int32) (Q : XT → Prop) : Prop := wpX10_append k 0 t (uI (fun _ => 0) 1 a1) (fun _ => 0) Q
set_option maxHeartbeats 8000000 in
set_option maxRecDepth 100000 in
theorem wkX10_append (l : Launch) (D : va_G) (cI cJ cB cZ : ClassId) (ad : Nat → Nat) (k : Nat) (t : XT) (a1 : Int32) (Q : XT → Prop) (hR : wqX10_append k t a1 Q) : MetV l yX10_append wsX10_append 0 0 0 0 D (TYS cI cJ cB cZ) (wX cI cJ cB cZ ad t) [.ref (ad 1), .int a1] (fun u => Q u) (fun u : XT => (wX cI cJ cB cZ ad u)) := by
  refine x_startV (ty := .int) (cc := cX10_append) (by decide) rfl (Nat.le_of_ble_eq_true rfl) ?_
  intro p e s m args below meth c A ls B hr hnm h hl
  have hx := B.1.1
  have hb := B.1.2.1
  have hml := B.1.2.2.1
  have hts := B.1.2.2.2.2
  have hown : s.vm.findClass RX10 = some m.cls := B.1.2.2.2.1
  have hin10 : ∀ w ∈ u_ws RX10 TX10 2, w ∈ wsX10_append := by decide +kernel
  have main : ∀ k : Nat, (∀ (t : XT) (li : Nat → Int32) (lj : Nat → Int64) (H : Heap) (locs : List Loc) (ls : Array Slot), wpX10_append k 0 t li lj Q → lv_has ls 3 [(0, .ref (ad 1)), (1, .int (li 1))] → Hp D A s.heap (wX cI cJ cB cZ ad t) H locs → W p l e { frames := 0, cells := 0, slots := 0, locals := 0 } s m args below meth c H locs 0 0 (MQ below (va_Qv (fun u => Q u) (fun u t => xEnd D ((fun u : XT => (wX cI cJ cB cZ ad u)) u) A t) A) args s 0 0 A) (F0 m 0 ls [])) ∧
      (∀ (t : XT) (li : Nat → Int32) (lj : Nat → Int64) (H : Heap) (locs : List Loc) (ls : Array Slot), wpX10_append k 1 t li lj Q → lv_has ls 3 [(0, .ref (ad 1)), (1, .int (li 1)), (2, .int (li 2))] → Hp D A s.heap (wX cI cJ cB cZ ad t) H locs → W p l e { frames := 0, cells := 0, slots := 0, locals := 0 } s m args below meth c H locs 0 0 (MQ below (va_Qv (fun u => Q u) (fun u t => xEnd D ((fun u : XT => (wX cI cJ cB cZ ad u)) u) A t) A) args s 0 0 A) (F0 m 3 ls [])) := by
    intro k
    induction k with
    | zero => exact ⟨fun _ _ _ _ _ _ hR => False.elim hR, fun _ _ _ _ _ _ hR => False.elim hR⟩
    | succ k ih =>
      refine ⟨?_, ?_⟩
      · intro t li lj H locs ls hR hl h
        have hR : wbX10_append_0 (wpX10_append k) k t li lj Q := hR
        unfold wbX10_append_0 at hR
        refine lv_bipush (v := 24) hx hb dX10_append_0 (by decide) ?_
        refine lv_istore_n (lv' := [(2, .int 24), (0, .ref (ad 1)), (1, .int (li 1))]) hx hb dX10_append_2 rfl hl (by decide) rfl (fun ls hl => ?_)
        exact ih.2 t (uI li 2 24) lj H locs ls hR (lv_sub hl [1, 2, 0] rfl) h
      · intro t li lj H locs ls hR hl h
        have hR : wbX10_append_1 (wpX10_append k) k t li lj Q := hR
        unfold wbX10_append_1 at hR
        refine lv_iload_n hx hb dX10_append_3 rfl (lv_at hl 2 rfl) ?_
        refine lv_if_lt (tgt := 49) hx hb dX10_append_4 (by decide) (fun c_1 => ?_) (fun c_1 => ?_)
        · have hR := hR.1 c_1
          exact x_vret (w1 := (fun u : XT => (wX cI cJ cB cZ ad u))) t B h hr hR dX10_append_49
        · have hR := hR.2 c_1
          refine lv_aload_n hx hb dX10_append_7 rfl (lv_at hl 0 rfl) ?_
          refine x_get (ci := 10) (C := RX10) (T := TX10) (N := 2) (v := .int (t.1 1)) B h hin10 1 1 rfl rfl (by decide) (by decide +kernel) rfl dX10_append_8 ?_
          refine lv_sipush (v := 160) hx hb dX10_append_11 (by decide) ?_
          refine lv_icmp_ge (tgt := 49) hx hb dX10_append_14 (by decide) (fun c_2 => ?_) (fun c_2 => ?_)
          · have hR := hR.1 c_2
            exact x_vret (w1 := (fun u : XT => (wX cI cJ cB cZ ad u))) t B h hr hR dX10_append_49
          · have hR := hR.2 c_2
            refine lv_aload_n hx hb dX10_append_17 rfl (lv_at hl 0 rfl) ?_
            refine x_get (ci := 10) (C := RX10) (T := TX10) (N := 2) (v := .ref (ad 12)) B h hin10 1 0 rfl rfl (by decide) (by decide +kernel) rfl dX10_append_18 ?_
            refine lv_aload_n hx hb dX10_append_21 rfl (lv_at hl 0 rfl) ?_
            refine x_get (ci := 10) (C := RX10) (T := TX10) (N := 2) (v := .int (t.1 1)) B h hin10 1 1 rfl rfl (by decide) (by decide +kernel) rfl dX10_append_22 ?_
            refine lv_iload_n hx hb dX10_append_25 rfl (lv_at hl 1 rfl) ?_
            refine lv_iload_n hx hb dX10_append_26 rfl (lv_at hl 2 rfl) ?_
            obtain ⟨v_3, ev_3⟩ : ∃ v : Int32, v = ((li 1).toUInt32 >>> ((li 2).toUInt32 &&& Int32.toUInt32 31)).toInt32 := ⟨_, rfl⟩
            have hR := hR v_3 ev_3
            refine lv_iushr (v := v_3) hx hb dX10_append_27 ev_3.symm ?_
            refine lv_sipush (v := 255) hx hb dX10_append_28 (by decide) ?_
            refine lv_iand hx hb dX10_append_31 ?_
            refine lv_topi (fun v_4 ev_4 => ?_)
            have hR := hR v_4 ev_4
            obtain ⟨hb_5, hR⟩ := hR
            refine z_iast (f := (t.2.2.1 0)) B h 12 0 rfl rfl hb_5 dX10_append_32 (fun H locs h => ?_)
            obtain ⟨t_5, et_5⟩ : ∃ v : XT, v = sA t 0 (upd (t.2.2.1 0) (t.1 1).toNatClampNeg v_4) := ⟨_, rfl⟩
            have hR := hR t_5 et_5
            have h : Hp D A s.heap (wX cI cJ cB cZ ad t_5) H locs := by rw [et_5]; exact h
            refine lv_aload_n hx hb dX10_append_33 rfl (lv_at hl 0 rfl) ?_
            refine lv_dup hx hb dX10_append_34 rfl ?_
            refine x_get (ci := 10) (C := RX10) (T := TX10) (N := 2) (v := .int (t_5.1 1)) B h hin10 1 1 rfl rfl (by decide) (by decide +kernel) rfl dX10_append_35 ?_
            refine lv_iconst (v := 1) hx hb dX10_append_38 (by decide) ?_
            refine lv_iadd hx hb dX10_append_39 ?_
            refine lv_topi (fun v_6 ev_6 => ?_)
            have hR := hR v_6 ev_6
            refine x_put (ci := 10) (C := RX10) (T := TX10) (N := 2) (v := .int v_6) (ty := .int) B h hin10 tyX10 tyX10_ok nmX10 1 1 rfl rfl (by decide) (by decide +kernel) rfl rfl rfl rfl (Nat.le_of_ble_eq_true rfl) dX10_append_40 (fun H locs h => ?_)
            obtain ⟨t_7, et_7⟩ : ∃ v : XT, v = sI t_5 1 v_6 := ⟨_, rfl⟩
            have hR := hR t_7 et_7
            have h : Hp D A s.heap (wX cI cJ cB cZ ad t_7) H locs := by rw [et_7]; exact h
            obtain ⟨v_8, ev_8⟩ : ∃ v : Int32, v = (li 2) + Int32.ofInt (-8) := ⟨_, rfl⟩
            have hR := hR v_8 ev_8
            refine lv_iinc (v := v_8) (lv' := [(2, .int v_8), (0, .ref (ad 1)), (1, .int (li 1))]) hx hb dX10_append_43 hl (k := 2) rfl ev_8.symm (by decide) rfl (fun ls hl => ?_)
            refine lv_goto (tgt := 3) hx hb dX10_append_46 (by decide) ?_
            exact ih.2 t_7 (uI li 2 v_8) lj H locs ls hR (lv_sub hl [1, 2, 0] rfl) h
  exact (main k).1 t _ _ s.heap [] ls hR hl h
def wbX11_feed_0 (rec : Nat → XT → (Nat → Int32) → (Nat → Int64) → (Int32 → XT → Prop) → Prop) (k : Nat) (t : XT) (li : Nat → Int32) (lj : Nat → Int64) (Q : Int32 → XT → Prop) : Prop :=
  (∀ v_1 : Int32, v_1 = ((t.1 1) + 20) → ((v_1 ≤ 160) → (wqX10_append k t (li 1) (fun t_3 => (wqX10_append k t_3 (li 2) (fun t_4 => (wqX10_append k t_4 (li 3) (fun t_5 => (wqX10_append k t_5 (li 4) (fun t_6 => (wqX10_append k t_6 (li 5) (fun t_7 => Q (t_7.1 1) t_7))))))))))) ∧ (¬ (v_1 ≤ 160) → Q (-1) t))
def wpX11_feed : Nat → Nat → XT → (Nat → Int32) → (Nat → Int64) → (Int32 → XT → Prop) → Prop
  | 0, _, _, _, _, _ => False
  | k + 1, 0, t, li, lj, Q => wbX11_feed_0 (wpX11_feed k) k t li lj Q
  | _ + 1, _, _, _, _, _ => False
def wqX11_feed (k : Nat) (t : XT) (a1 : Int32) (a2 : Int32) (a3 : Int32) (a4 : Int32) (a5 : Int32) (Q : Int32 → XT → Prop) : Prop := wpX11_feed k 0 t (uI (uI (uI (uI (uI (fun _ => 0) 1 a1) 2 a2) 3 a3) 4 a4) 5 a5) (fun _ => 0) Q
set_option maxHeartbeats 8000000 in
set_option maxRecDepth 100000 in
theorem wkX11_feed (l : Launch) (D : va_G) (cI cJ cB cZ : ClassId) (ad : Nat → Nat) (k : Nat) (t : XT) (a1 : Int32) (a2 : Int32) (a3 : Int32) (a4 : Int32) (a5 : Int32) (Q : Int32 → XT → Prop) (hR : wqX11_feed k t a1 a2 a3 a4 a5 Q) : MetI l yX11_feed wsX11_feed 1 22 0 0 D (TYS cI cJ cB cZ) (wX cI cJ cB cZ ad t) [.ref (ad 0), .int a1, .int a2, .int a3, .int a4, .int a5] (fun r u => Q r u) (fun u : XT => (wX cI cJ cB cZ ad u)) := by
  refine x_startI (ty := .int) (cc := cX11_feed) (by decide) rfl (Nat.le_of_ble_eq_true rfl) ?_
  intro p e s m args below meth c A ls B hr hnm h hl
  have hx := B.1.1
  have hb := B.1.2.1
  have hml := B.1.2.2.1
  have hts := B.1.2.2.2.2
  have hown : s.vm.findClass RX11 = some m.cls := B.1.2.2.2.1
  have hin10 : ∀ w ∈ u_ws RX10 TX10 2, w ∈ wsX11_feed := by decide +kernel
  have hin11 : ∀ w ∈ u_ws RX11 TX11 11, w ∈ wsX11_feed := by decide +kernel
  have main : ∀ k : Nat, (∀ (t : XT) (li : Nat → Int32) (lj : Nat → Int64) (H : Heap) (locs : List Loc) (ls : Array Slot), wpX11_feed k 0 t li lj Q → lv_has ls 6 [(0, .ref (ad 0)), (1, .int (li 1)), (2, .int (li 2)), (3, .int (li 3)), (4, .int (li 4)), (5, .int (li 5))] → Hp D A s.heap (wX cI cJ cB cZ ad t) H locs → W p l e { frames := 1, cells := 0, slots := 0, locals := 22 } s m args below meth c H locs 0 0 (MQ below (va_Qi (fun r u => Q r u) (fun u t => xEnd D ((fun u : XT => (wX cI cJ cB cZ ad u)) u) A t) A) args s 0 0 A) (F0 m 0 ls [])) := by
    intro k
    induction k with
    | zero => exact fun _ _ _ _ _ _ hR => False.elim hR
    | succ k ih =>
      intro t li lj H locs ls hR hl h
      have hR : wbX11_feed_0 (wpX11_feed k) k t li lj Q := hR
      unfold wbX11_feed_0 at hR
      refine lv_aload_n hx hb dX11_feed_0 rfl (lv_at hl 0 rfl) ?_
      refine x_get (ci := 11) (C := RX11) (T := TX11) (N := 11) (v := .ref (ad 1)) B h hin11 0 0 rfl rfl (by decide) (by decide +kernel) rfl dX11_feed_1 ?_
      refine x_get (ci := 10) (C := RX10) (T := TX10) (N := 2) (v := .int (t.1 1)) B h hin10 1 1 rfl rfl (by decide) (by decide +kernel) rfl dX11_feed_4 ?_
      refine lv_bipush (v := 20) hx hb dX11_feed_7 (by decide) ?_
      refine lv_iadd hx hb dX11_feed_9 ?_
      refine lv_topi (fun v_1 ev_1 => ?_)
      have hR := hR v_1 ev_1
      refine lv_sipush (v := 160) hx hb dX11_feed_10 (by decide) ?_
      refine lv_icmp_le (tgt := 18) hx hb dX11_feed_13 (by decide) (fun c_2 => ?_) (fun c_2 => ?_)
      · have hR := hR.1 c_2
        refine lv_aload_n hx hb dX11_feed_18 rfl (lv_at hl 0 rfl) ?_
        refine x_get (ci := 11) (C := RX11) (T := TX11) (N := 11) (v := .ref (ad 1)) B h hin11 0 0 rfl rfl (by decide) (by decide +kernel) rfl dX11_feed_19 ?_
        refine lv_iload_n hx hb dX11_feed_22 rfl (lv_at hl 1 rfl) ?_
        refine x_cVVF (n := 1) (As := [.int (li 1)]) (rest := []) B h (wkX10_append l D cI cJ cB cZ ad k t (li 1) _ hR) ⟨⟨_, rfl⟩, by decide +kernel, Nat.le_of_ble_eq_true rfl, Nat.le_of_ble_eq_true rfl⟩ gX11_feed_X10_append (show ((wX cI cJ cB cZ ad t) : va_W)[1]? = some (_, .inr (10, _)) from rfl) rfl rfl hl.1 rfl (Nat.le_of_ble_eq_true rfl) dX11_feed_23 ⟨Nat.le_of_ble_eq_true rfl, Nat.le_of_ble_eq_true rfl⟩ (fun t_3 H locs hR h => ?_)
        refine lv_aload_n hx hb dX11_feed_26 rfl (lv_at hl 0 rfl) ?_
        refine x_get (ci := 11) (C := RX11) (T := TX11) (N := 11) (v := .ref (ad 1)) B h hin11 0 0 rfl rfl (by decide) (by decide +kernel) rfl dX11_feed_27 ?_
        refine lv_iload_n hx hb dX11_feed_30 rfl (lv_at hl 2 rfl) ?_
        refine x_cVVF (n := 1) (As := [.int (li 2)]) (rest := []) B h (wkX10_append l D cI cJ cB cZ ad k t_3 (li 2) _ hR) ⟨⟨_, rfl⟩, by decide +kernel, Nat.le_of_ble_eq_true rfl, Nat.le_of_ble_eq_true rfl⟩ gX11_feed_X10_append (show ((wX cI cJ cB cZ ad t_3) : va_W)[1]? = some (_, .inr (10, _)) from rfl) rfl rfl hl.1 rfl (Nat.le_of_ble_eq_true rfl) dX11_feed_31 ⟨Nat.le_of_ble_eq_true rfl, Nat.le_of_ble_eq_true rfl⟩ (fun t_4 H locs hR h => ?_)
        refine lv_aload_n hx hb dX11_feed_34 rfl (lv_at hl 0 rfl) ?_
        refine x_get (ci := 11) (C := RX11) (T := TX11) (N := 11) (v := .ref (ad 1)) B h hin11 0 0 rfl rfl (by decide) (by decide +kernel) rfl dX11_feed_35 ?_
        refine lv_iload_n hx hb dX11_feed_38 rfl (lv_at hl 3 rfl) ?_
        refine x_cVVF (n := 1) (As := [.int (li 3)]) (rest := []) B h (wkX10_append l D cI cJ cB cZ ad k t_4 (li 3) _ hR) ⟨⟨_, rfl⟩, by decide +kernel, Nat.le_of_ble_eq_true rfl, Nat.le_of_ble_eq_true rfl⟩ gX11_feed_X10_append (show ((wX cI cJ cB cZ ad t_4) : va_W)[1]? = some (_, .inr (10, _)) from rfl) rfl rfl hl.1 rfl (Nat.le_of_ble_eq_true rfl) dX11_feed_39 ⟨Nat.le_of_ble_eq_true rfl, Nat.le_of_ble_eq_true rfl⟩ (fun t_5 H locs hR h => ?_)
        refine lv_aload_n hx hb dX11_feed_42 rfl (lv_at hl 0 rfl) ?_
        refine x_get (ci := 11) (C := RX11) (T := TX11) (N := 11) (v := .ref (ad 1)) B h hin11 0 0 rfl rfl (by decide) (by decide +kernel) rfl dX11_feed_43 ?_
        refine lv_iload hx hb dX11_feed_46 (lv_at hl 4 rfl) ?_
        refine x_cVVF (n := 1) (As := [.int (li 4)]) (rest := []) B h (wkX10_append l D cI cJ cB cZ ad k t_5 (li 4) _ hR) ⟨⟨_, rfl⟩, by decide +kernel, Nat.le_of_ble_eq_true rfl, Nat.le_of_ble_eq_true rfl⟩ gX11_feed_X10_append (show ((wX cI cJ cB cZ ad t_5) : va_W)[1]? = some (_, .inr (10, _)) from rfl) rfl rfl hl.1 rfl (Nat.le_of_ble_eq_true rfl) dX11_feed_48 ⟨Nat.le_of_ble_eq_true rfl, Nat.le_of_ble_eq_true rfl⟩ (fun t_6 H locs hR h => ?_)
        refine lv_aload_n hx hb dX11_feed_51 rfl (lv_at hl 0 rfl) ?_
        refine x_get (ci := 11) (C := RX11) (T := TX11) (N := 11) (v := .ref (ad 1)) B h hin11 0 0 rfl rfl (by decide) (by decide +kernel) rfl dX11_feed_52 ?_
        refine lv_iload hx hb dX11_feed_55 (lv_at hl 5 rfl) ?_
        refine x_cVVF (n := 1) (As := [.int (li 5)]) (rest := []) B h (wkX10_append l D cI cJ cB cZ ad k t_6 (li 5) _ hR) ⟨⟨_, rfl⟩, by decide +kernel, Nat.le_of_ble_eq_true rfl, Nat.le_of_ble_eq_true rfl⟩ gX11_feed_X10_append (show ((wX cI cJ cB cZ ad t_6) : va_W)[1]? = some (_, .inr (10, _)) from rfl) rfl rfl hl.1 rfl (Nat.le_of_ble_eq_true rfl) dX11_feed_57 ⟨Nat.le_of_ble_eq_true rfl, Nat.le_of_ble_eq_true rfl⟩ (fun t_7 H locs hR h => ?_)
        refine lv_aload_n hx hb dX11_feed_60 rfl (lv_at hl 0 rfl) ?_
        refine x_get (ci := 11) (C := RX11) (T := TX11) (N := 11) (v := .ref (ad 1)) B h hin11 0 0 rfl rfl (by decide) (by decide +kernel) rfl dX11_feed_61 ?_
        refine x_get (ci := 10) (C := RX10) (T := TX10) (N := 2) (v := .int (t_7.1 1)) B h hin10 1 1 rfl rfl (by decide) (by decide +kernel) rfl dX11_feed_64 ?_
        exact x_iret (w1 := (fun u : XT => (wX cI cJ cB cZ ad u))) t_7 B h hr rfl hR dX11_feed_67
      · have hR := hR.2 c_2
        refine lv_iconst (v := (-1)) hx hb dX11_feed_16 (by decide) ?_
        exact x_iret (w1 := (fun u : XT => (wX cI cJ cB cZ ad u))) t B h hr rfl hR dX11_feed_17
  exact (main k) t _ _ s.heap [] ls hR hl h
def wbX11_end_0 (rec : Nat → XT → (Nat → Int32) → (Nat → Int64) → (Int32 → XT → Prop) → Prop) (k : Nat) (t : XT) (li : Nat → Int32) (lj : Nat → Int64) (Q : Int32 → XT → Prop) : Prop :=
  (((li 1) < 0) → rec 1 t li lj Q) ∧ (¬ ((li 1) < 0) → (((li 1) ≤ (t.1 1)) → (∀ t_3 : XT, t_3 = sI t 1 (li 1) → Q (li 1) t_3)) ∧ (¬ ((li 1) ≤ (t.1 1)) → rec 1 t li lj Q))
def wbX11_end_1 (rec : Nat → XT → (Nat → Int32) → (Nat → Int64) → (Int32 → XT → Prop) → Prop) (k : Nat) (t : XT) (li : Nat → Int32) (lj : Nat → Int64) (Q : Int32 → XT → Prop) : Prop :=
  Q (-1) t
def wpX11_end : Nat → Nat → XT → (Nat → Int32) → (Nat → Int64) → (Int32 → XT → Prop) → Prop
  | 0, _, _, _, _, _ => False
  | k + 1, 0, t, li, lj, Q => wbX11_end_0 (wpX11_end k) k t li lj Q
  | k + 1, 1, t, li, lj, Q => wbX11_end_1 (wpX11_end k) k t li lj Q
  | _ + 1, _, _, _, _, _ => False
def wqX11_end (k : Nat) (t : XT) (a1 : Int32) (Q : Int32 → XT → Prop) : Prop := wpX11_end k 0 t (uI (fun _ => 0) 1 a1) (fun _ => 0) Q
set_option maxHeartbeats 8000000 in
set_option maxRecDepth 100000 in
theorem wkX11_end (l : Launch) (D : va_G) (cI cJ cB cZ : ClassId) (ad : Nat → Nat) (k : Nat) (t : XT) (a1 : Int32) (Q : Int32 → XT → Prop) (hR : wqX11_end k t a1 Q) : MetI l yX11_end wsX11_end 0 0 0 0 D (TYS cI cJ cB cZ) (wX cI cJ cB cZ ad t) [.ref (ad 0), .int a1] (fun r u => Q r u) (fun u : XT => (wX cI cJ cB cZ ad u)) := by
  refine x_startI (ty := .int) (cc := cX11_end) (by decide) rfl (Nat.le_of_ble_eq_true rfl) ?_
  intro p e s m args below meth c A ls B hr hnm h hl
  have hx := B.1.1
  have hb := B.1.2.1
  have hml := B.1.2.2.1
  have hts := B.1.2.2.2.2
  have hown : s.vm.findClass RX11 = some m.cls := B.1.2.2.2.1
  have hin10 : ∀ w ∈ u_ws RX10 TX10 2, w ∈ wsX11_end := by decide +kernel
  have hin11 : ∀ w ∈ u_ws RX11 TX11 11, w ∈ wsX11_end := by decide +kernel
  have main : ∀ k : Nat, (∀ (t : XT) (li : Nat → Int32) (lj : Nat → Int64) (H : Heap) (locs : List Loc) (ls : Array Slot), wpX11_end k 0 t li lj Q → lv_has ls 2 [(0, .ref (ad 0)), (1, .int (li 1))] → Hp D A s.heap (wX cI cJ cB cZ ad t) H locs → W p l e { frames := 0, cells := 0, slots := 0, locals := 0 } s m args below meth c H locs 0 0 (MQ below (va_Qi (fun r u => Q r u) (fun u t => xEnd D ((fun u : XT => (wX cI cJ cB cZ ad u)) u) A t) A) args s 0 0 A) (F0 m 0 ls [])) ∧
      (∀ (t : XT) (li : Nat → Int32) (lj : Nat → Int64) (H : Heap) (locs : List Loc) (ls : Array Slot), wpX11_end k 1 t li lj Q → lv_has ls 2 [(0, .ref (ad 0)), (1, .int (li 1))] → Hp D A s.heap (wX cI cJ cB cZ ad t) H locs → W p l e { frames := 0, cells := 0, slots := 0, locals := 0 } s m args below meth c H locs 0 0 (MQ below (va_Qi (fun r u => Q r u) (fun u t => xEnd D ((fun u : XT => (wX cI cJ cB cZ ad u)) u) A t) A) args s 0 0 A) (F0 m 15 ls [])) := by
    intro k
    induction k with
    | zero => exact ⟨fun _ _ _ _ _ _ hR => False.elim hR, fun _ _ _ _ _ _ hR => False.elim hR⟩
    | succ k ih =>
      refine ⟨?_, ?_⟩
      · intro t li lj H locs ls hR hl h
        have hR : wbX11_end_0 (wpX11_end k) k t li lj Q := hR
        unfold wbX11_end_0 at hR
        refine lv_iload_n hx hb dX11_end_0 rfl (lv_at hl 1 rfl) ?_
        refine lv_if_lt (tgt := 15) hx hb dX11_end_1 (by decide) (fun c_1 => ?_) (fun c_1 => ?_)
        · have hR := hR.1 c_1
          exact ih.2 t li lj H locs ls hR (lv_sub hl [0, 1] rfl) h
        · have hR := hR.2 c_1
          refine lv_iload_n hx hb dX11_end_4 rfl (lv_at hl 1 rfl) ?_
          refine lv_aload_n hx hb dX11_end_5 rfl (lv_at hl 0 rfl) ?_
          refine x_get (ci := 11) (C := RX11) (T := TX11) (N := 11) (v := .ref (ad 1)) B h hin11 0 0 rfl rfl (by decide) (by decide +kernel) rfl dX11_end_6 ?_
          refine x_get (ci := 10) (C := RX10) (T := TX10) (N := 2) (v := .int (t.1 1)) B h hin10 1 1 rfl rfl (by decide) (by decide +kernel) rfl dX11_end_9 ?_
          refine lv_icmp_le (tgt := 17) hx hb dX11_end_12 (by decide) (fun c_2 => ?_) (fun c_2 => ?_)
          · have hR := hR.1 c_2
            refine lv_aload_n hx hb dX11_end_17 rfl (lv_at hl 0 rfl) ?_
            refine x_get (ci := 11) (C := RX11) (T := TX11) (N := 11) (v := .ref (ad 1)) B h hin11 0 0 rfl rfl (by decide) (by decide +kernel) rfl dX11_end_18 ?_
            refine lv_iload_n hx hb dX11_end_21 rfl (lv_at hl 1 rfl) ?_
            refine x_put (ci := 10) (C := RX10) (T := TX10) (N := 2) (v := .int (li 1)) (ty := .int) B h hin10 tyX10 tyX10_ok nmX10 1 1 rfl rfl (by decide) (by decide +kernel) rfl rfl rfl rfl (Nat.le_of_ble_eq_true rfl) dX11_end_22 (fun H locs h => ?_)
            obtain ⟨t_3, et_3⟩ : ∃ v : XT, v = sI t 1 (li 1) := ⟨_, rfl⟩
            have hR := hR t_3 et_3
            have h : Hp D A s.heap (wX cI cJ cB cZ ad t_3) H locs := by rw [et_3]; exact h
            refine lv_iload_n hx hb dX11_end_25 rfl (lv_at hl 1 rfl) ?_
            exact x_iret (w1 := (fun u : XT => (wX cI cJ cB cZ ad u))) t_3 B h hr rfl hR dX11_end_26
          · have hR := hR.2 c_2
            exact ih.2 t li lj H locs ls hR (lv_sub hl [0, 1] rfl) h
      · intro t li lj H locs ls hR hl h
        have hR : wbX11_end_1 (wpX11_end k) k t li lj Q := hR
        unfold wbX11_end_1 at hR
        refine lv_iconst (v := (-1)) hx hb dX11_end_15 (by decide) ?_
        exact x_iret (w1 := (fun u : XT => (wX cI cJ cB cZ ad u))) t B h hr rfl hR dX11_end_16
  exact (main k).1 t _ _ s.heap [] ls hR hl h
def wbX8_fault_0 (rec : Nat → (Nat → Int32) → (Nat → Int64) → (Int32 → Prop) → Prop) (k : Nat) (li : Nat → Int32) (lj : Nat → Int64) (Q : Int32 → Prop) : Prop :=
  (∀ v_1 : Int32, v_1 = (8 * (li 0)) → (∀ v_2 : Int32, v_2 = (v_1 + (li 1)) → Q v_2))
def wpX8_fault : Nat → Nat → (Nat → Int32) → (Nat → Int64) → (Int32 → Prop) → Prop
  | 0, _, _, _, _ => False
  | k + 1, 0, li, lj, Q => wbX8_fault_0 (wpX8_fault k) k li lj Q
  | _ + 1, _, _, _, _ => False
def wqX8_fault (k : Nat) (a0 : Int32) (a1 : Int32) (Q : Int32 → Prop) : Prop := wpX8_fault k 0 (uI (uI (fun _ => 0) 0 a0) 1 a1) (fun _ => 0) Q
set_option maxHeartbeats 8000000 in
set_option maxRecDepth 100000 in
theorem wkX8_fault (l : Launch) (D : va_G) (cI cJ cB cZ : ClassId) (ad : Nat → Nat) (k : Nat) (a0 : Int32) (a1 : Int32) (Q : Int32 → Prop) (hR : wqX8_fault k a0 a1 Q) : MetI l yX8_fault wsX8_fault 0 0 0 0 D (TYS cI cJ cB cZ) [] [.int a0, .int a1] (fun r _ => Q r) (fun _ : Unit => []) := by
  refine x_startI (ty := .int) (cc := cX8_fault) (by decide) rfl (Nat.le_of_ble_eq_true rfl) ?_
  intro p e s m args below meth c A ls B hr hnm h hl
  have hx := B.1.1
  have hb := B.1.2.1
  have hml := B.1.2.2.1
  have hts := B.1.2.2.2.2
  have hown : s.vm.findClass RX8 = some m.cls := B.1.2.2.2.1
  have main : ∀ k : Nat, (∀ (li : Nat → Int32) (lj : Nat → Int64) (H : Heap) (locs : List Loc) (ls : Array Slot), wpX8_fault k 0 li lj Q → lv_has ls 2 [(0, .int (li 0)), (1, .int (li 1))] → Hp D A s.heap [] H locs → W p l e { frames := 0, cells := 0, slots := 0, locals := 0 } s m args below meth c H locs 0 0 (MQ below (va_Qi (fun r _ => Q r) (fun u t => xEnd D ((fun _ : Unit => []) u) A t) A) args s 0 0 A) (F0 m 0 ls [])) := by
    intro k
    induction k with
    | zero => exact fun _ _ _ _ _ hR => False.elim hR
    | succ k ih =>
      intro li lj H locs ls hR hl h
      have hR : wbX8_fault_0 (wpX8_fault k) k li lj Q := hR
      unfold wbX8_fault_0 at hR
      refine lv_bipush (v := 8) hx hb dX8_fault_0 (by decide) ?_
      refine lv_iload_n hx hb dX8_fault_2 rfl (lv_at hl 0 rfl) ?_
      refine lv_imul hx hb dX8_fault_3 ?_
      refine lv_topi (fun v_1 ev_1 => ?_)
      have hR := hR v_1 ev_1
      refine lv_iload_n hx hb dX8_fault_4 rfl (lv_at hl 1 rfl) ?_
      refine lv_iadd hx hb dX8_fault_5 ?_
      refine lv_topi (fun v_2 ev_2 => ?_)
      have hR := hR v_2 ev_2
      exact x_iret (w1 := (fun _ : Unit => [])) () B h hr rfl hR dX8_fault_6
  exact (main k) _ _ s.heap [] ls hR hl h
def wbX10_at_0 (rec : Nat → XT → (Nat → Int32) → (Nat → Int64) → (Int32 → XT → Prop) → Prop) (k : Nat) (t : XT) (li : Nat → Int32) (lj : Nat → Int64) (Q : Int32 → XT → Prop) : Prop :=
  (((li 1) < 0) → rec 1 t li lj Q) ∧ (¬ ((li 1) < 0) → ((((t.1 1) : Int32) ≤ (li 1)) → rec 1 t li lj Q) ∧ (¬ (((t.1 1) : Int32) ≤ (li 1)) → (vp_in (li 1) 160 ∧ (∀ v_3 : Int32, v_3 = (t.2.2.1 0) (li 1).toNatClampNeg → Q v_3 t))))
def wbX10_at_1 (rec : Nat → XT → (Nat → Int32) → (Nat → Int64) → (Int32 → XT → Prop) → Prop) (k : Nat) (t : XT) (li : Nat → Int32) (lj : Nat → Int64) (Q : Int32 → XT → Prop) : Prop :=
  Q (-1) t
def wpX10_at : Nat → Nat → XT → (Nat → Int32) → (Nat → Int64) → (Int32 → XT → Prop) → Prop
  | 0, _, _, _, _, _ => False
  | k + 1, 0, t, li, lj, Q => wbX10_at_0 (wpX10_at k) k t li lj Q
  | k + 1, 1, t, li, lj, Q => wbX10_at_1 (wpX10_at k) k t li lj Q
  | _ + 1, _, _, _, _, _ => False
def wqX10_at (k : Nat) (t : XT) (a1 : Int32) (Q : Int32 → XT → Prop) : Prop := wpX10_at k 0 t (uI (fun _ => 0) 1 a1) (fun _ => 0) Q
set_option maxHeartbeats 8000000 in
set_option maxRecDepth 100000 in
theorem wkX10_at (l : Launch) (D : va_G) (cI cJ cB cZ : ClassId) (ad : Nat → Nat) (k : Nat) (t : XT) (a1 : Int32) (Q : Int32 → XT → Prop) (hR : wqX10_at k t a1 Q) : MetI l yX10_at wsX10_at 0 0 0 0 D (TYS cI cJ cB cZ) (wX cI cJ cB cZ ad t) [.ref (ad 1), .int a1] (fun r u => Q r u) (fun u : XT => (wX cI cJ cB cZ ad u)) := by
  refine x_startI (ty := .int) (cc := cX10_at) (by decide) rfl (Nat.le_of_ble_eq_true rfl) ?_
  intro p e s m args below meth c A ls B hr hnm h hl
  have hx := B.1.1
  have hb := B.1.2.1
  have hml := B.1.2.2.1
  have hts := B.1.2.2.2.2
  have hown : s.vm.findClass RX10 = some m.cls := B.1.2.2.2.1
  have hin10 : ∀ w ∈ u_ws RX10 TX10 2, w ∈ wsX10_at := by decide +kernel
  have main : ∀ k : Nat, (∀ (t : XT) (li : Nat → Int32) (lj : Nat → Int64) (H : Heap) (locs : List Loc) (ls : Array Slot), wpX10_at k 0 t li lj Q → lv_has ls 2 [(0, .ref (ad 1)), (1, .int (li 1))] → Hp D A s.heap (wX cI cJ cB cZ ad t) H locs → W p l e { frames := 0, cells := 0, slots := 0, locals := 0 } s m args below meth c H locs 0 0 (MQ below (va_Qi (fun r u => Q r u) (fun u t => xEnd D ((fun u : XT => (wX cI cJ cB cZ ad u)) u) A t) A) args s 0 0 A) (F0 m 0 ls [])) ∧
      (∀ (t : XT) (li : Nat → Int32) (lj : Nat → Int64) (H : Heap) (locs : List Loc) (ls : Array Slot), wpX10_at k 1 t li lj Q → lv_has ls 2 [(0, .ref (ad 1)), (1, .int (li 1))] → Hp D A s.heap (wX cI cJ cB cZ ad t) H locs → W p l e { frames := 0, cells := 0, slots := 0, locals := 0 } s m args below meth c H locs 0 0 (MQ below (va_Qi (fun r u => Q r u) (fun u t => xEnd D ((fun u : XT => (wX cI cJ cB cZ ad u)) u) A t) A) args s 0 0 A) (F0 m 21 ls [])) := by
    intro k
    induction k with
    | zero => exact ⟨fun _ _ _ _ _ _ hR => False.elim hR, fun _ _ _ _ _ _ hR => False.elim hR⟩
    | succ k ih =>
      refine ⟨?_, ?_⟩
      · intro t li lj H locs ls hR hl h
        have hR : wbX10_at_0 (wpX10_at k) k t li lj Q := hR
        unfold wbX10_at_0 at hR
        refine lv_iload_n hx hb dX10_at_0 rfl (lv_at hl 1 rfl) ?_
        refine lv_if_lt (tgt := 21) hx hb dX10_at_1 (by decide) (fun c_1 => ?_) (fun c_1 => ?_)
        · have hR := hR.1 c_1
          exact ih.2 t li lj H locs ls hR (lv_sub hl [0, 1] rfl) h
        · have hR := hR.2 c_1
          refine lv_iload_n hx hb dX10_at_4 rfl (lv_at hl 1 rfl) ?_
          refine lv_aload_n hx hb dX10_at_5 rfl (lv_at hl 0 rfl) ?_
          refine x_get (ci := 10) (C := RX10) (T := TX10) (N := 2) (v := .int (t.1 1)) B h hin10 1 1 rfl rfl (by decide) (by decide +kernel) rfl dX10_at_6 ?_
          refine lv_icmp_ge (tgt := 21) hx hb dX10_at_9 (by decide) (fun c_2 => ?_) (fun c_2 => ?_)
          · have hR := hR.1 c_2
            exact ih.2 t li lj H locs ls hR (lv_sub hl [0, 1] rfl) h
          · have hR := hR.2 c_2
            refine lv_aload_n hx hb dX10_at_12 rfl (lv_at hl 0 rfl) ?_
            refine x_get (ci := 10) (C := RX10) (T := TX10) (N := 2) (v := .ref (ad 12)) B h hin10 1 0 rfl rfl (by decide) (by decide +kernel) rfl dX10_at_13 ?_
            refine lv_iload_n hx hb dX10_at_16 rfl (lv_at hl 1 rfl) ?_
            obtain ⟨hb_3, hR⟩ := hR
            refine va_iald (f := (t.2.2.1 0)) hx hb B.2.1 h.1 12 0 rfl rfl hb_3 dX10_at_17 ?_
            refine lv_topi (fun v_3 ev_3 => ?_)
            have hR := hR v_3 ev_3
            refine lv_goto (tgt := 22) hx hb dX10_at_18 (by decide) ?_
            exact x_iret (w1 := (fun u : XT => (wX cI cJ cB cZ ad u))) t B h hr rfl hR dX10_at_22
      · intro t li lj H locs ls hR hl h
        have hR : wbX10_at_1 (wpX10_at k) k t li lj Q := hR
        unfold wbX10_at_1 at hR
        refine lv_iconst (v := (-1)) hx hb dX10_at_21 (by decide) ?_
        exact x_iret (w1 := (fun u : XT => (wX cI cJ cB cZ ad u))) t B h hr rfl hR dX10_at_22
  exact (main k).1 t _ _ s.heap [] ls hR hl h
set_option maxRecDepth 20000 in
theorem ggX8_skipBlanks_X10_at : GoodIn wsX8_skipBlanks wsX10_at := goodIn_r _ [7, 8, 9, 13, 14] (by decide +kernel) (by decide +kernel)
set_option maxRecDepth 20000 in
theorem gX8_skipBlanks_X10_at : GoodIn wsX8_skipBlanks (wsV RX8 41 RX10 yX10_at wsX10_at) := goodIn_app (goodIn_of _ (by decide +kernel)) ggX8_skipBlanks_X10_at
def wbX8_skipBlanks_c1_0 (rec : Nat → XT → (Nat → Int32) → (Nat → Int64) → (XT → Prop) → Prop) (k : Nat) (t : XT) (li : Nat → Int32) (lj : Nat → Int64) (Q : XT → Prop) : Prop :=
  ((((t.1 1) : Int32) ≤ (t.1 3)) → Q t) ∧ (¬ (((t.1 1) : Int32) ≤ (t.1 3)) → (wqX10_at k t (t.1 3) (fun r_2 t_2 => ((¬ r_2 = 32) → Q t_2) ∧ ((r_2 = 32) → (∀ v_4 : Int32, v_4 = ((t_2.1 3) + 1) → (∀ t_5 : XT, t_5 = sI t_2 3 v_4 → rec 0 t_5 li lj Q))))))
def wpX8_skipBlanks_c1 : Nat → Nat → XT → (Nat → Int32) → (Nat → Int64) → (XT → Prop) → Prop
  | 0, _, _, _, _, _ => False
  | k + 1, 0, t, li, lj, Q => wbX8_skipBlanks_c1_0 (wpX8_skipBlanks_c1 k) k t li lj Q
  | _ + 1, _, _, _, _, _ => False
def wqX8_skipBlanks_c1 (k : Nat) (t : XT)  (Q : XT → Prop) : Prop := wpX8_skipBlanks_c1 k 0 t (fun _ => 0) (fun _ => 0) Q
set_option maxHeartbeats 8000000 in
set_option maxRecDepth 100000 in
theorem wkX8_skipBlanks_c1 (l : Launch) (D : va_G) (cI cJ cB cZ : ClassId) (ad : Nat → Nat) (k : Nat) (t : XT)  (Q : XT → Prop) (hR : wqX8_skipBlanks_c1 k t  Q) : MetV l yX8_skipBlanks wsX8_skipBlanks 1 21 0 0 D (TYS cI cJ cB cZ) (wX cI cJ cB cZ ad t) [.ref (ad 2), .ref (ad 1)] (fun u => Q u) (fun u : XT => (wX cI cJ cB cZ ad u)) := by
  refine x_startV (ty := .int) (cc := cX8_skipBlanks) (by decide) rfl (Nat.le_of_ble_eq_true rfl) ?_
  intro p e s m args below meth c A ls B hr hnm h hl
  have hx := B.1.1
  have hb := B.1.2.1
  have hml := B.1.2.2.1
  have hts := B.1.2.2.2.2
  have hown : s.vm.findClass RX8 = some m.cls := B.1.2.2.2.1
  have hin8 : ∀ w ∈ u_ws RX8 TX8 3, w ∈ wsX8_skipBlanks := by decide +kernel
  have hin10 : ∀ w ∈ u_ws RX10 TX10 2, w ∈ wsX8_skipBlanks := by decide +kernel
  have main : ∀ k : Nat, (∀ (t : XT) (li : Nat → Int32) (lj : Nat → Int64) (H : Heap) (locs : List Loc) (ls : Array Slot), wpX8_skipBlanks_c1 k 0 t li lj Q → lv_has ls 2 [(0, .ref (ad 2)), (1, .ref (ad 1))] → Hp D A s.heap (wX cI cJ cB cZ ad t) H locs → W p l e { frames := 1, cells := 0, slots := 0, locals := 21 } s m args below meth c H locs 0 0 (MQ below (va_Qv (fun u => Q u) (fun u t => xEnd D ((fun u : XT => (wX cI cJ cB cZ ad u)) u) A t) A) args s 0 0 A) (F0 m 0 ls [])) := by
    intro k
    induction k with
    | zero => exact fun _ _ _ _ _ _ hR => False.elim hR
    | succ k ih =>
      intro t li lj H locs ls hR hl h
      have hR : wbX8_skipBlanks_c1_0 (wpX8_skipBlanks_c1 k) k t li lj Q := hR
      unfold wbX8_skipBlanks_c1_0 at hR
      refine lv_aload_n hx hb dX8_skipBlanks_0 rfl (lv_at hl 0 rfl) ?_
      refine x_get (ci := 8) (C := RX8) (T := TX8) (N := 3) (v := .int (t.1 3)) B h hin8 2 2 rfl rfl (by decide) (by decide +kernel) rfl dX8_skipBlanks_1 ?_
      refine lv_aload_n hx hb dX8_skipBlanks_4 rfl (lv_at hl 1 rfl) ?_
      refine x_get (ci := 10) (C := RX10) (T := TX10) (N := 2) (v := .int (t.1 1)) B h hin10 1 1 rfl rfl (by decide) (by decide +kernel) rfl dX8_skipBlanks_5 ?_
      refine lv_icmp_ge (tgt := 37) hx hb dX8_skipBlanks_8 (by decide) (fun c_1 => ?_) (fun c_1 => ?_)
      · have hR := hR.1 c_1
        exact x_vret (w1 := (fun u : XT => (wX cI cJ cB cZ ad u))) t B h hr hR dX8_skipBlanks_37
      · have hR := hR.2 c_1
        refine lv_aload_n hx hb dX8_skipBlanks_11 rfl (lv_at hl 1 rfl) ?_
        refine lv_aload_n hx hb dX8_skipBlanks_12 rfl (lv_at hl 0 rfl) ?_
        refine x_get (ci := 8) (C := RX8) (T := TX8) (N := 3) (v := .int (t.1 3)) B h hin8 2 2 rfl rfl (by decide) (by decide +kernel) rfl dX8_skipBlanks_13 ?_
        refine x_cVIF (n := 1) (As := [.int (t.1 3)]) (rest := []) B h (wkX10_at l D cI cJ cB cZ ad k t (t.1 3) _ hR) ⟨⟨_, rfl⟩, by decide +kernel, Nat.le_of_ble_eq_true rfl, Nat.le_of_ble_eq_true rfl⟩ gX8_skipBlanks_X10_at (show ((wX cI cJ cB cZ ad t) : va_W)[1]? = some (_, .inr (10, _)) from rfl) rfl rfl hl.1 rfl (Nat.le_of_ble_eq_true rfl) dX8_skipBlanks_16 ⟨Nat.le_of_ble_eq_true rfl, Nat.le_of_ble_eq_true rfl⟩ (fun r_2 t_2 H locs hR h => ?_)
        refine lv_bipush (v := 32) hx hb dX8_skipBlanks_19 (by decide) ?_
        refine lv_icmp_ne (tgt := 37) hx hb dX8_skipBlanks_21 (by decide) (fun c_3 => ?_) (fun c_3 => ?_)
        · have hR := hR.1 c_3
          exact x_vret (w1 := (fun u : XT => (wX cI cJ cB cZ ad u))) t_2 B h hr hR dX8_skipBlanks_37
        · have hR := hR.2 c_3
          refine lv_aload_n hx hb dX8_skipBlanks_24 rfl (lv_at hl 0 rfl) ?_
          refine lv_dup hx hb dX8_skipBlanks_25 rfl ?_
          refine x_get (ci := 8) (C := RX8) (T := TX8) (N := 3) (v := .int (t_2.1 3)) B h hin8 2 2 rfl rfl (by decide) (by decide +kernel) rfl dX8_skipBlanks_26 ?_
          refine lv_iconst (v := 1) hx hb dX8_skipBlanks_29 (by decide) ?_
          refine lv_iadd hx hb dX8_skipBlanks_30 ?_
          refine lv_topi (fun v_4 ev_4 => ?_)
          have hR := hR v_4 ev_4
          refine x_put (ci := 8) (C := RX8) (T := TX8) (N := 3) (v := .int v_4) (ty := .int) B h hin8 tyX8 tyX8_ok nmX8 2 2 rfl rfl (by decide) (by decide +kernel) rfl rfl rfl rfl (Nat.le_of_ble_eq_true rfl) dX8_skipBlanks_31 (fun H locs h => ?_)
          obtain ⟨t_5, et_5⟩ : ∃ v : XT, v = sI t_2 3 v_4 := ⟨_, rfl⟩
          have hR := hR t_5 et_5
          have h : Hp D A s.heap (wX cI cJ cB cZ ad t_5) H locs := by rw [et_5]; exact h
          refine lv_goto (tgt := 0) hx hb dX8_skipBlanks_34 (by decide) ?_
          exact ih t_5 li lj H locs ls hR (lv_sub hl [0, 1] rfl) h
  exact (main k) t _ _ s.heap [] ls hR hl h
def wbX8_isLetter_0 (rec : Nat → (Nat → Int32) → (Nat → Int64) → (Int32 → Prop) → Prop) (k : Nat) (li : Nat → Int32) (lj : Nat → Int64) (Q : Int32 → Prop) : Prop :=
  (((li 0) < 97) → rec 1 li lj Q) ∧ (¬ ((li 0) < 97) → (((105 : Int32) ≤ (li 0)) → rec 1 li lj Q) ∧ (¬ ((105 : Int32) ≤ (li 0)) → Q 1))
def wbX8_isLetter_1 (rec : Nat → (Nat → Int32) → (Nat → Int64) → (Int32 → Prop) → Prop) (k : Nat) (li : Nat → Int32) (lj : Nat → Int64) (Q : Int32 → Prop) : Prop :=
  Q 0
def wpX8_isLetter : Nat → Nat → (Nat → Int32) → (Nat → Int64) → (Int32 → Prop) → Prop
  | 0, _, _, _, _ => False
  | k + 1, 0, li, lj, Q => wbX8_isLetter_0 (wpX8_isLetter k) k li lj Q
  | k + 1, 1, li, lj, Q => wbX8_isLetter_1 (wpX8_isLetter k) k li lj Q
  | _ + 1, _, _, _, _ => False
def wqX8_isLetter (k : Nat) (a0 : Int32) (Q : Int32 → Prop) : Prop := wpX8_isLetter k 0 (uI (fun _ => 0) 0 a0) (fun _ => 0) Q
set_option maxHeartbeats 8000000 in
set_option maxRecDepth 100000 in
theorem wkX8_isLetter (l : Launch) (D : va_G) (cI cJ cB cZ : ClassId) (ad : Nat → Nat) (k : Nat) (a0 : Int32) (Q : Int32 → Prop) (hR : wqX8_isLetter k a0 Q) : MetI l yX8_isLetter wsX8_isLetter 0 0 0 0 D (TYS cI cJ cB cZ) [] [.int a0] (fun r _ => Q r) (fun _ : Unit => []) := by
  refine x_startI (ty := .boolean) (cc := cX8_isLetter) (by decide) rfl (Nat.le_of_ble_eq_true rfl) ?_
  intro p e s m args below meth c A ls B hr hnm h hl
  have hx := B.1.1
  have hb := B.1.2.1
  have hml := B.1.2.2.1
  have hts := B.1.2.2.2.2
  have hown : s.vm.findClass RX8 = some m.cls := B.1.2.2.2.1
  have main : ∀ k : Nat, (∀ (li : Nat → Int32) (lj : Nat → Int64) (H : Heap) (locs : List Loc) (ls : Array Slot), wpX8_isLetter k 0 li lj Q → lv_has ls 1 [(0, .int (li 0))] → Hp D A s.heap [] H locs → W p l e { frames := 0, cells := 0, slots := 0, locals := 0 } s m args below meth c H locs 0 0 (MQ below (va_Qi (fun r _ => Q r) (fun u t => xEnd D ((fun _ : Unit => []) u) A t) A) args s 0 0 A) (F0 m 0 ls [])) ∧
      (∀ (li : Nat → Int32) (lj : Nat → Int64) (H : Heap) (locs : List Loc) (ls : Array Slot), wpX8_isLetter k 1 li lj Q → lv_has ls 1 [(0, .int (li 0))] → Hp D A s.heap [] H locs → W p l e { frames := 0, cells := 0, slots := 0, locals := 0 } s m args below meth c H locs 0 0 (MQ below (va_Qi (fun r _ => Q r) (fun u t => xEnd D ((fun _ : Unit => []) u) A t) A) args s 0 0 A) (F0 m 16 ls [])) := by
    intro k
    induction k with
    | zero => exact ⟨fun _ _ _ _ _ hR => False.elim hR, fun _ _ _ _ _ hR => False.elim hR⟩
    | succ k ih =>
      refine ⟨?_, ?_⟩
      · intro li lj H locs ls hR hl h
        have hR : wbX8_isLetter_0 (wpX8_isLetter k) k li lj Q := hR
        unfold wbX8_isLetter_0 at hR
        refine lv_iload_n hx hb dX8_isLetter_0 rfl (lv_at hl 0 rfl) ?_
        refine lv_bipush (v := 97) hx hb dX8_isLetter_1 (by decide) ?_
        refine lv_icmp_lt (tgt := 16) hx hb dX8_isLetter_3 (by decide) (fun c_1 => ?_) (fun c_1 => ?_)
        · have hR := hR.1 c_1
          exact ih.2 li lj H locs ls hR (lv_sub hl [0] rfl) h
        · have hR := hR.2 c_1
          refine lv_iload_n hx hb dX8_isLetter_6 rfl (lv_at hl 0 rfl) ?_
          refine lv_bipush (v := 105) hx hb dX8_isLetter_7 (by decide) ?_
          refine lv_icmp_ge (tgt := 16) hx hb dX8_isLetter_9 (by decide) (fun c_2 => ?_) (fun c_2 => ?_)
          · have hR := hR.1 c_2
            exact ih.2 li lj H locs ls hR (lv_sub hl [0] rfl) h
          · have hR := hR.2 c_2
            refine lv_iconst (v := 1) hx hb dX8_isLetter_12 (by decide) ?_
            refine lv_goto (tgt := 17) hx hb dX8_isLetter_13 (by decide) ?_
            exact x_iret (w1 := (fun _ : Unit => [])) () B h hr rfl hR dX8_isLetter_17
      · intro li lj H locs ls hR hl h
        have hR : wbX8_isLetter_1 (wpX8_isLetter k) k li lj Q := hR
        unfold wbX8_isLetter_1 at hR
        refine lv_iconst (v := 0) hx hb dX8_isLetter_16 (by decide) ?_
        exact x_iret (w1 := (fun _ : Unit => [])) () B h hr rfl hR dX8_isLetter_17
  exact (main k).1 _ _ s.heap [] ls hR hl h
def wbX8_tell_0 (rec : Nat → XT → (Nat → Int32) → (Nat → Int64) → (XT → Prop) → Prop) (k : Nat) (t : XT) (li : Nat → Int32) (lj : Nat → Int64) (Q : XT → Prop) : Prop :=
  rec 1 t (uI li 2 1) lj Q
def wbX8_tell_1 (rec : Nat → XT → (Nat → Int32) → (Nat → Int64) → (XT → Prop) → Prop) (k : Nat) (t : XT) (li : Nat → Int32) (lj : Nat → Int64) (Q : XT → Prop) : Prop :=
  ((((li 1) : Int32) < (li 2)) → Q t) ∧ (¬ (((li 1) : Int32) < (li 2)) → (((256 : Int32) ≤ (li 2)) → Q t) ∧ (¬ ((256 : Int32) ≤ (li 2)) → (∀ v_3 : Int32, v_3 = ((li 1) ^^^ (-1)) → (∀ v_4 : Int32, v_4 = ((li 2) &&& v_3) → ((¬ v_4 = 0) → rec 2 t li lj Q) ∧ ((v_4 = 0) → (vp_in (li 2) 256 ∧ (∀ v_6 : Int32, v_6 = (t.2.2.1 1) (li 2).toNatClampNeg → ((¬ v_6 = 0) → rec 2 t li lj Q) ∧ ((v_6 = 0) → (vp_in (li 2) 256 ∧ (∀ t_8 : XT, t_8 = sA t 1 (upd (t.2.2.1 1) (li 2).toNatClampNeg 1) → (∀ v_9 : Int32, v_9 = ((t_8.1 2) + 1) → (∀ t_10 : XT, t_10 = sI t_8 2 v_9 → rec 2 t_10 li lj Q))))))))))))
def wbX8_tell_2 (rec : Nat → XT → (Nat → Int32) → (Nat → Int64) → (XT → Prop) → Prop) (k : Nat) (t : XT) (li : Nat → Int32) (lj : Nat → Int64) (Q : XT → Prop) : Prop :=
  (∀ v_11 : Int32, v_11 = (li 2) + Int32.ofInt 1 → rec 1 t (uI li 2 v_11) lj Q)
def wpX8_tell : Nat → Nat → XT → (Nat → Int32) → (Nat → Int64) → (XT → Prop) → Prop
  | 0, _, _, _, _, _ => False
  | k + 1, 0, t, li, lj, Q => wbX8_tell_0 (wpX8_tell k) k t li lj Q
  | k + 1, 1, t, li, lj, Q => wbX8_tell_1 (wpX8_tell k) k t li lj Q
  | k + 1, 2, t, li, lj, Q => wbX8_tell_2 (wpX8_tell k) k t li lj Q
  | _ + 1, _, _, _, _, _ => False
def wqX8_tell (k : Nat) (t : XT) (a1 : Int32) (Q : XT → Prop) : Prop := wpX8_tell k 0 t (uI (fun _ => 0) 1 a1) (fun _ => 0) Q
set_option maxHeartbeats 8000000 in
set_option maxRecDepth 100000 in
theorem wkX8_tell (l : Launch) (D : va_G) (cI cJ cB cZ : ClassId) (ad : Nat → Nat) (k : Nat) (t : XT) (a1 : Int32) (Q : XT → Prop) (hR : wqX8_tell k t a1 Q) : MetV l yX8_tell wsX8_tell 0 0 0 0 D (TYS cI cJ cB cZ) (wX cI cJ cB cZ ad t) [.ref (ad 2), .int a1] (fun u => Q u) (fun u : XT => (wX cI cJ cB cZ ad u)) := by
  refine x_startV (ty := .int) (cc := cX8_tell) (by decide) rfl (Nat.le_of_ble_eq_true rfl) ?_
  intro p e s m args below meth c A ls B hr hnm h hl
  have hx := B.1.1
  have hb := B.1.2.1
  have hml := B.1.2.2.1
  have hts := B.1.2.2.2.2
  have hown : s.vm.findClass RX8 = some m.cls := B.1.2.2.2.1
  have hin8 : ∀ w ∈ u_ws RX8 TX8 3, w ∈ wsX8_tell := by decide +kernel
  have main : ∀ k : Nat, (∀ (t : XT) (li : Nat → Int32) (lj : Nat → Int64) (H : Heap) (locs : List Loc) (ls : Array Slot), wpX8_tell k 0 t li lj Q → lv_has ls 3 [(0, .ref (ad 2)), (1, .int (li 1))] → Hp D A s.heap (wX cI cJ cB cZ ad t) H locs → W p l e { frames := 0, cells := 0, slots := 0, locals := 0 } s m args below meth c H locs 0 0 (MQ below (va_Qv (fun u => Q u) (fun u t => xEnd D ((fun u : XT => (wX cI cJ cB cZ ad u)) u) A t) A) args s 0 0 A) (F0 m 0 ls [])) ∧
      (∀ (t : XT) (li : Nat → Int32) (lj : Nat → Int64) (H : Heap) (locs : List Loc) (ls : Array Slot), wpX8_tell k 1 t li lj Q → lv_has ls 3 [(0, .ref (ad 2)), (1, .int (li 1)), (2, .int (li 2))] → Hp D A s.heap (wX cI cJ cB cZ ad t) H locs → W p l e { frames := 0, cells := 0, slots := 0, locals := 0 } s m args below meth c H locs 0 0 (MQ below (va_Qv (fun u => Q u) (fun u t => xEnd D ((fun u : XT => (wX cI cJ cB cZ ad u)) u) A t) A) args s 0 0 A) (F0 m 2 ls [])) ∧
      (∀ (t : XT) (li : Nat → Int32) (lj : Nat → Int64) (H : Heap) (locs : List Loc) (ls : Array Slot), wpX8_tell k 2 t li lj Q → lv_has ls 3 [(0, .ref (ad 2)), (1, .int (li 1)), (2, .int (li 2))] → Hp D A s.heap (wX cI cJ cB cZ ad t) H locs → W p l e { frames := 0, cells := 0, slots := 0, locals := 0 } s m args below meth c H locs 0 0 (MQ below (va_Qv (fun u => Q u) (fun u t => xEnd D ((fun u : XT => (wX cI cJ cB cZ ad u)) u) A t) A) args s 0 0 A) (F0 m 48 ls [])) := by
    intro k
    induction k with
    | zero => exact ⟨fun _ _ _ _ _ _ hR => False.elim hR, fun _ _ _ _ _ _ hR => False.elim hR, fun _ _ _ _ _ _ hR => False.elim hR⟩
    | succ k ih =>
      refine ⟨?_, ?_, ?_⟩
      · intro t li lj H locs ls hR hl h
        have hR : wbX8_tell_0 (wpX8_tell k) k t li lj Q := hR
        unfold wbX8_tell_0 at hR
        refine lv_iconst (v := 1) hx hb dX8_tell_0 (by decide) ?_
        refine lv_istore_n (lv' := [(2, .int 1), (0, .ref (ad 2)), (1, .int (li 1))]) hx hb dX8_tell_1 rfl hl (by decide) rfl (fun ls hl => ?_)
        exact ih.2.1 t (uI li 2 1) lj H locs ls hR (lv_sub hl [1, 2, 0] rfl) h
      · intro t li lj H locs ls hR hl h
        have hR : wbX8_tell_1 (wpX8_tell k) k t li lj Q := hR
        unfold wbX8_tell_1 at hR
        refine lv_iload_n hx hb dX8_tell_2 rfl (lv_at hl 2 rfl) ?_
        refine lv_iload_n hx hb dX8_tell_3 rfl (lv_at hl 1 rfl) ?_
        refine lv_icmp_gt (tgt := 54) hx hb dX8_tell_4 (by decide) (fun c_1 => ?_) (fun c_1 => ?_)
        · have hR := hR.1 c_1
          exact x_vret (w1 := (fun u : XT => (wX cI cJ cB cZ ad u))) t B h hr hR dX8_tell_54
        · have hR := hR.2 c_1
          refine lv_iload_n hx hb dX8_tell_7 rfl (lv_at hl 2 rfl) ?_
          refine lv_sipush (v := 256) hx hb dX8_tell_8 (by decide) ?_
          refine lv_icmp_ge (tgt := 54) hx hb dX8_tell_11 (by decide) (fun c_2 => ?_) (fun c_2 => ?_)
          · have hR := hR.1 c_2
            exact x_vret (w1 := (fun u : XT => (wX cI cJ cB cZ ad u))) t B h hr hR dX8_tell_54
          · have hR := hR.2 c_2
            refine lv_iload_n hx hb dX8_tell_14 rfl (lv_at hl 2 rfl) ?_
            refine lv_iload_n hx hb dX8_tell_15 rfl (lv_at hl 1 rfl) ?_
            refine lv_iconst (v := (-1)) hx hb dX8_tell_16 (by decide) ?_
            refine lv_ixor hx hb dX8_tell_17 ?_
            refine lv_topi (fun v_3 ev_3 => ?_)
            have hR := hR v_3 ev_3
            refine lv_iand hx hb dX8_tell_18 ?_
            refine lv_topi (fun v_4 ev_4 => ?_)
            have hR := hR v_4 ev_4
            refine lv_if_ne (tgt := 48) hx hb dX8_tell_19 (by decide) (fun c_5 => ?_) (fun c_5 => ?_)
            · have hR := hR.1 c_5
              exact ih.2.2 t li lj H locs ls hR (lv_sub hl [0, 1, 2] rfl) h
            · have hR := hR.2 c_5
              refine lv_aload_n hx hb dX8_tell_22 rfl (lv_at hl 0 rfl) ?_
              refine x_get (ci := 8) (C := RX8) (T := TX8) (N := 3) (v := .ref (ad 13)) B h hin8 2 0 rfl rfl (by decide) (by decide +kernel) rfl dX8_tell_23 ?_
              refine lv_iload_n hx hb dX8_tell_26 rfl (lv_at hl 2 rfl) ?_
              obtain ⟨hb_6, hR⟩ := hR
              refine va_iald (f := (t.2.2.1 1)) hx hb B.2.1 h.1 13 0 rfl rfl hb_6 dX8_tell_27 ?_
              refine lv_topi (fun v_6 ev_6 => ?_)
              have hR := hR v_6 ev_6
              refine lv_if_ne (tgt := 48) hx hb dX8_tell_28 (by decide) (fun c_7 => ?_) (fun c_7 => ?_)
              · have hR := hR.1 c_7
                exact ih.2.2 t li lj H locs ls hR (lv_sub hl [0, 1, 2] rfl) h
              · have hR := hR.2 c_7
                refine lv_aload_n hx hb dX8_tell_31 rfl (lv_at hl 0 rfl) ?_
                refine x_get (ci := 8) (C := RX8) (T := TX8) (N := 3) (v := .ref (ad 13)) B h hin8 2 0 rfl rfl (by decide) (by decide +kernel) rfl dX8_tell_32 ?_
                refine lv_iload_n hx hb dX8_tell_35 rfl (lv_at hl 2 rfl) ?_
                refine lv_iconst (v := 1) hx hb dX8_tell_36 (by decide) ?_
                obtain ⟨hb_8, hR⟩ := hR
                refine z_iast (f := (t.2.2.1 1)) B h 13 0 rfl rfl hb_8 dX8_tell_37 (fun H locs h => ?_)
                obtain ⟨t_8, et_8⟩ : ∃ v : XT, v = sA t 1 (upd (t.2.2.1 1) (li 2).toNatClampNeg 1) := ⟨_, rfl⟩
                have hR := hR t_8 et_8
                have h : Hp D A s.heap (wX cI cJ cB cZ ad t_8) H locs := by rw [et_8]; exact h
                refine lv_aload_n hx hb dX8_tell_38 rfl (lv_at hl 0 rfl) ?_
                refine lv_dup hx hb dX8_tell_39 rfl ?_
                refine x_get (ci := 8) (C := RX8) (T := TX8) (N := 3) (v := .int (t_8.1 2)) B h hin8 2 1 rfl rfl (by decide) (by decide +kernel) rfl dX8_tell_40 ?_
                refine lv_iconst (v := 1) hx hb dX8_tell_43 (by decide) ?_
                refine lv_iadd hx hb dX8_tell_44 ?_
                refine lv_topi (fun v_9 ev_9 => ?_)
                have hR := hR v_9 ev_9
                refine x_put (ci := 8) (C := RX8) (T := TX8) (N := 3) (v := .int v_9) (ty := .int) B h hin8 tyX8 tyX8_ok nmX8 2 1 rfl rfl (by decide) (by decide +kernel) rfl rfl rfl rfl (Nat.le_of_ble_eq_true rfl) dX8_tell_45 (fun H locs h => ?_)
                obtain ⟨t_10, et_10⟩ : ∃ v : XT, v = sI t_8 2 v_9 := ⟨_, rfl⟩
                have hR := hR t_10 et_10
                have h : Hp D A s.heap (wX cI cJ cB cZ ad t_10) H locs := by rw [et_10]; exact h
                exact ih.2.2 t_10 li lj H locs ls hR (lv_sub hl [0, 1, 2] rfl) h
      · intro t li lj H locs ls hR hl h
        have hR : wbX8_tell_2 (wpX8_tell k) k t li lj Q := hR
        unfold wbX8_tell_2 at hR
        obtain ⟨v_11, ev_11⟩ : ∃ v : Int32, v = (li 2) + Int32.ofInt 1 := ⟨_, rfl⟩
        have hR := hR v_11 ev_11
        refine lv_iinc (v := v_11) (lv' := [(2, .int v_11), (0, .ref (ad 2)), (1, .int (li 1))]) hx hb dX8_tell_48 hl (k := 2) rfl ev_11.symm (by decide) rfl (fun ls hl => ?_)
        refine lv_goto (tgt := 2) hx hb dX8_tell_51 (by decide) ?_
        exact ih.2.1 t (uI li 2 v_11) lj H locs ls hR (lv_sub hl [1, 2, 0] rfl) h
  exact (main k).1 t _ _ s.heap [] ls hR hl h
