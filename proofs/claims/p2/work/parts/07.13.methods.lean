set_option maxRecDepth 20000 in
theorem ggX12_simplex_X12_isSimplex : GoodIn wsX12_simplex wsX12_isSimplex := goodIn_r _ [9, 10, 11, 12, 8, 13, 48, 49, 50, 51, 52, 53, 54, 55, 56, 57, 58, 59, 60, 61, 62, 63, 64, 65, 66, 67, 68, 69, 70, 71, 72, 73, 74, 75, 76, 77, 78] (by decide +kernel) (by decide +kernel)
set_option maxRecDepth 20000 in
theorem gX12_simplex_X12_isSimplex : GoodIn wsX12_simplex (wsV RX12 145 RX12 yX12_isSimplex wsX12_isSimplex) := goodIn_app (goodIn_of _ (by decide +kernel)) ggX12_simplex_X12_isSimplex
set_option maxRecDepth 20000 in
theorem ggX12_simplex_X12_dimOf : GoodIn wsX12_simplex wsX12_dimOf := goodIn_r _ [17, 1, 18, 19, 20, 21, 22, 23, 24, 48, 49, 50, 51, 52, 53, 54, 55, 56, 57, 58, 59, 60, 61, 62, 63, 64, 65, 66, 67, 68, 69, 70, 71, 72, 73, 74, 75, 76, 77, 78] (by decide +kernel) (by decide +kernel)
set_option maxRecDepth 20000 in
theorem gX12_simplex_X12_dimOf : GoodIn wsX12_simplex (wsV RX12 149 RX12 yX12_dimOf wsX12_dimOf) := goodIn_app (goodIn_of _ (by decide +kernel)) ggX12_simplex_X12_dimOf
set_option maxRecDepth 20000 in
theorem ggX12_simplex_X12_truth : GoodIn wsX12_simplex wsX12_truth := goodIn_r _ [27] (by decide +kernel) (by decide +kernel)
set_option maxRecDepth 20000 in
theorem gX12_simplex_X12_truth : GoodIn wsX12_simplex (va_wsS RX12 105 yX12_truth wsX12_truth) := goodIn_app (goodIn_of _ (by decide +kernel)) ggX12_simplex_X12_truth
set_option maxRecDepth 20000 in
theorem ggX12_simplex_X12_isLower : GoodIn wsX12_simplex wsX12_isLower := goodIn_r _ [31, 3, 48, 49, 50, 51, 52, 53, 54, 55, 56, 57, 58, 59, 60, 61, 62, 63, 64, 65, 66, 67, 68, 69, 70, 71, 72, 73, 74, 75, 76, 77, 78] (by decide +kernel) (by decide +kernel)
set_option maxRecDepth 20000 in
theorem gX12_simplex_X12_isLower : GoodIn wsX12_simplex (wsV RX12 170 RX12 yX12_isLower wsX12_isLower) := goodIn_app (goodIn_of _ (by decide +kernel)) ggX12_simplex_X12_isLower
set_option maxRecDepth 20000 in
theorem ggX12_simplex_X12_laysHeights : GoodIn wsX12_simplex wsX12_laysHeights := goodIn_r _ [35, 10, 4, 3, 36, 37, 38, 8, 39, 2, 40, 41, 42, 43, 1, 14, 15, 16, 17, 18, 19, 20, 21, 22, 23, 24, 48, 49, 50, 51, 52, 53, 54, 55, 56, 57, 58, 59, 60, 61, 62, 63, 64, 65, 66, 67, 68, 69, 70, 71, 72, 73, 74, 75, 76, 77, 78] (by decide +kernel) (by decide +kernel)
set_option maxRecDepth 20000 in
theorem gX12_simplex_X12_laysHeights : GoodIn wsX12_simplex (wsV RX12 173 RX12 yX12_laysHeights wsX12_laysHeights) := goodIn_app (goodIn_of _ (by decide +kernel)) ggX12_simplex_X12_laysHeights
set_option maxRecDepth 20000 in
theorem ggX12_simplex_X12_facesOver : GoodIn wsX12_simplex wsX12_facesOver := goodIn_r _ [47, 10, 36, 37, 38, 8, 39, 2, 40, 41, 42, 43, 1, 14, 15, 16, 17, 18, 19, 20, 21, 22, 23, 24, 25, 26, 27, 48, 49, 50, 51, 52, 53, 54, 55, 56, 57, 58, 59, 60, 61, 62, 63, 64, 65, 66, 67, 68, 69, 70, 71, 72, 73, 74, 75, 76, 77, 78] (by decide +kernel) (by decide +kernel)
set_option maxRecDepth 20000 in
theorem gX12_simplex_X12_facesOver : GoodIn wsX12_simplex (wsV RX12 176 RX12 yX12_facesOver wsX12_facesOver) := goodIn_app (goodIn_of _ (by decide +kernel)) ggX12_simplex_X12_facesOver
def wbX12_simplex_0 (rec : Nat → XT → (Nat → Int32) → (Nat → Int64) → (Int32 → XT → Prop) → Prop) (k : Nat) (t : XT) (li : Nat → Int32) (lj : Nat → Int64) (Q : Int32 → XT → Prop) : Prop :=
  (wqX12_isSimplex k t (li 1) (fun r_1 t_1 => ((¬ r_1 = 0) → ((li 2).toInt < 0 ∨ 6 < (li 2).toInt → Q (-1) t_1) ∧ ((li 2) = 0 → (vp_in (li 1) 60 ∧ (∀ v_4 : Int32, v_4 = (t_1.2.2.1 2) (li 1).toNatClampNeg → Q v_4 t_1))) ∧ ((li 2) = 1 → (wqX12_dimOf k t_1 (li 1) (fun r_5 t_5 => Q r_5 t_5))) ∧ ((li 2) = 2 → (vp_in (li 1) 60 ∧ (∀ v_6 : Int32, v_6 = (t_1.2.2.1 5) (li 1).toNatClampNeg → ((¬ v_6 = 0) → rec 1 t_1 (uI li 100 0) lj Q) ∧ ((v_6 = 0) → rec 1 t_1 (uI li 100 1) lj Q)))) ∧ ((li 2) = 3 → (vp_in (li 1) 60 ∧ (∀ v_8 : Int32, v_8 = (t_1.2.2.1 4) (li 1).toNatClampNeg → Q v_8 t_1))) ∧ ((li 2) = 4 → (vp_in (li 1) 60 ∧ (∀ v_9 : Int32, v_9 = (t_1.2.2.1 4) (li 1).toNatClampNeg → ((¬ v_9 = (-1)) → (wqX12_isLower k t_1 (li 1) (fun r_11 t_11 => (wqX12_truth k r_11 (fun r_12 => Q r_12 t_11))))) ∧ ((v_9 = (-1)) → Q (-1) t_1)))) ∧ ((li 2) = 5 → (vp_in (li 1) 60 ∧ (∀ v_13 : Int32, v_13 = (t_1.2.2.1 5) (li 1).toNatClampNeg → ((v_13 = 0) → (wqX12_laysHeights k t_1  (fun t_15 => (vp_in (li 1) 60 ∧ (∀ v_16 : Int32, v_16 = (t_15.2.2.1 6) (li 1).toNatClampNeg → Q v_16 t_15))))) ∧ (¬ (v_13 = 0) → Q (-1) t_1)))) ∧ ((li 2) = 6 → (wqX12_facesOver k t_1 (li 1) (fun r_17 t_17 => Q r_17 t_17)))) ∧ ((r_1 = 0) → Q (-1) t_1)))
def wbX12_simplex_1 (rec : Nat → XT → (Nat → Int32) → (Nat → Int64) → (Int32 → XT → Prop) → Prop) (k : Nat) (t : XT) (li : Nat → Int32) (lj : Nat → Int64) (Q : Int32 → XT → Prop) : Prop :=
  (wqX12_truth k (li 100) (fun r_18 => Q r_18 t))
def wpX12_simplex : Nat → Nat → XT → (Nat → Int32) → (Nat → Int64) → (Int32 → XT → Prop) → Prop
  | 0, _, _, _, _, _ => False
  | k + 1, 0, t, li, lj, Q => wbX12_simplex_0 (wpX12_simplex k) k t li lj Q
  | k + 1, 1, t, li, lj, Q => wbX12_simplex_1 (wpX12_simplex k) k t li lj Q
  | _ + 1, _, _, _, _, _ => False
def wqX12_simplex (k : Nat) (t : XT) (a1 : Int32) (a2 : Int32) (Q : Int32 → XT → Prop) : Prop := wpX12_simplex k 0 t (uI (uI (fun _ => 0) 1 a1) 2 a2) (fun _ => 0) Q
set_option maxHeartbeats 8000000 in
set_option maxRecDepth 100000 in
theorem wkX12_simplex (l : Launch) (D : va_G) (cI cJ cB cZ : ClassId) (bd : Nat → Nat) (k : Nat) (t : XT) (a1 : Int32) (a2 : Int32) (Q : Int32 → XT → Prop) (hR : wqX12_simplex k t a1 a2 Q) : MetI l yX12_simplex wsX12_simplex 5 110 0 0 D (TYS cI cJ cB cZ) (wM cI cJ cB cZ bd t) [.ref (bd 0), .int a1, .int a2] (fun r u => Q r u) (fun u : XT => (wM cI cJ cB cZ bd u)) := by
  refine x_startI (ty := .int) (cc := cX12_simplex) (by decide) rfl (Nat.le_of_ble_eq_true rfl) ?_
  intro p e s m args below meth c A ls B hr hnm h hl
  have hx := B.1.1
  have hb := B.1.2.1
  have hml := B.1.2.2.1
  have hts := B.1.2.2.2.2
  have hown : s.vm.findClass RX12 = some m.cls := B.1.2.2.2.1
  have hin12 : ∀ w ∈ u_ws RX12 TX12 31, w ∈ wsX12_simplex := by decide +kernel
  have main : ∀ k : Nat, (∀ (t : XT) (li : Nat → Int32) (lj : Nat → Int64) (H : Heap) (locs : List Loc) (ls : Array Slot), wpX12_simplex k 0 t li lj Q → lv_has ls 3 [(0, .ref (bd 0)), (1, .int (li 1)), (2, .int (li 2))] → Hp D A s.heap (wM cI cJ cB cZ bd t) H locs → W p l e { frames := 5, cells := 0, slots := 0, locals := 110 } s m args below meth c H locs 0 0 (MQ below (va_Qi (fun r u => Q r u) (fun u t => xEnd D ((fun u : XT => (wM cI cJ cB cZ bd u)) u) A t) A) args s 0 0 A) (F0 m 0 ls [])) ∧
      (∀ (t : XT) (li : Nat → Int32) (lj : Nat → Int64) (H : Heap) (locs : List Loc) (ls : Array Slot), wpX12_simplex k 1 t li lj Q → lv_has ls 3 [(0, .ref (bd 0)), (1, .int (li 1)), (2, .int (li 2))] → Hp D A s.heap (wM cI cJ cB cZ bd t) H locs → W p l e { frames := 5, cells := 0, slots := 0, locals := 110 } s m args below meth c H locs 0 0 (MQ below (va_Qi (fun r u => Q r u) (fun u t => xEnd D ((fun u : XT => (wM cI cJ cB cZ bd u)) u) A t) A) args s 0 0 A) (F0 m 79 ls [.int (li 100)])) := by
    intro k
    induction k with
    | zero => exact ⟨fun _ _ _ _ _ _ hR => False.elim hR, fun _ _ _ _ _ _ hR => False.elim hR⟩
    | succ k ih =>
      refine ⟨?_, ?_⟩
      · intro t li lj H locs ls hR hl h
        have hR : wbX12_simplex_0 (wpX12_simplex k) k t li lj Q := hR
        unfold wbX12_simplex_0 at hR
        refine lv_aload_n hx hb dX12_simplex_0 rfl (lv_at hl 0 rfl) ?_
        refine lv_iload_n hx hb dX12_simplex_1 rfl (lv_at hl 1 rfl) ?_
        refine x_cVIF (n := 1) (As := [.int (li 1)]) (rest := []) B h (wkX12_isSimplex l D cI cJ cB cZ bd k t (li 1) _ hR) ⟨⟨_, rfl⟩, by decide +kernel, Nat.le_of_ble_eq_true rfl, Nat.le_of_ble_eq_true rfl⟩ gX12_simplex_X12_isSimplex (show ((wM cI cJ cB cZ bd t) : va_W)[0]? = some (_, .inr (12, _)) from rfl) rfl rfl hl.1 rfl (Nat.le_of_ble_eq_true rfl) dX12_simplex_2 ⟨Nat.le_of_ble_eq_true rfl, Nat.le_of_ble_eq_true rfl⟩ (fun r_1 t_1 H locs hR h => ?_)
        refine lv_if_ne (tgt := 10) hx hb dX12_simplex_5 (by decide) (fun c_2 => ?_) (fun c_2 => ?_)
        · have hR := hR.1 c_2
          refine lv_iload_n hx hb dX12_simplex_10 rfl (lv_at hl 2 rfl) ?_
          rcases sw_cases (li 2) 0 6 7 (by decide) with c_3 | ⟨j_3, hj_3, e_3⟩
          · refine lv_tableOut (tgt := 141) hx hb dX12_simplex_11 c_3 (by decide) ?_
            have hR := hR.1 c_3
            refine lv_iconst (v := (-1)) hx hb dX12_simplex_141 (by decide) ?_
            exact x_iret (w1 := (fun u : XT => (wM cI cJ cB cZ bd u))) t_1 B h hr rfl hR dX12_simplex_142
          · rcases (show j_3 = 0 ∨ j_3 = 1 ∨ j_3 = 2 ∨ j_3 = 3 ∨ j_3 = 4 ∨ j_3 = 5 ∨ j_3 = 6 by omega) with rfl | rfl | rfl | rfl | rfl | rfl | rfl
            · have e_3 : (li 2) = 0 := e_3.trans (by decide)
              have hR := hR.2.1 e_3
              refine lv_tableIn (off := 41) (tgt := 52) hx hb dX12_simplex_11 (by rw [e_3]; decide) (by rw [e_3]; decide) (by rw [e_3]; decide) (by decide) ?_
              refine lv_aload_n hx hb dX12_simplex_52 rfl (lv_at hl 0 rfl) ?_
              refine x_get (ci := 12) (C := RX12) (T := TX12) (N := 31) (v := .ref (bd 3)) B h hin12 0 6 rfl rfl (by decide) (by decide +kernel) rfl dX12_simplex_53 ?_
              refine lv_iload_n hx hb dX12_simplex_56 rfl (lv_at hl 1 rfl) ?_
              obtain ⟨hb_4, hR⟩ := hR
              refine va_iald (f := (t_1.2.2.1 2)) hx hb B.2.1 h.1 3 0 rfl rfl hb_4 dX12_simplex_57 ?_
              refine lv_topi (fun v_4 ev_4 => ?_)
              have hR := hR v_4 ev_4
              exact x_iret (w1 := (fun u : XT => (wM cI cJ cB cZ bd u))) t_1 B h hr rfl hR dX12_simplex_58
            · have e_3 : (li 2) = 1 := e_3.trans (by decide)
              have hR := hR.2.2.1 e_3
              refine lv_tableIn (off := 48) (tgt := 59) hx hb dX12_simplex_11 (by rw [e_3]; decide) (by rw [e_3]; decide) (by rw [e_3]; decide) (by decide) ?_
              refine lv_aload_n hx hb dX12_simplex_59 rfl (lv_at hl 0 rfl) ?_
              refine lv_iload_n hx hb dX12_simplex_60 rfl (lv_at hl 1 rfl) ?_
              refine x_cVIF (n := 1) (As := [.int (li 1)]) (rest := []) B h (wkX12_dimOf l D cI cJ cB cZ bd k t_1 (li 1) _ hR) ⟨⟨_, rfl⟩, by decide +kernel, Nat.le_of_ble_eq_true rfl, Nat.le_of_ble_eq_true rfl⟩ gX12_simplex_X12_dimOf (show ((wM cI cJ cB cZ bd t_1) : va_W)[0]? = some (_, .inr (12, _)) from rfl) rfl rfl hl.1 rfl (Nat.le_of_ble_eq_true rfl) dX12_simplex_61 ⟨Nat.le_of_ble_eq_true rfl, Nat.le_of_ble_eq_true rfl⟩ (fun r_5 t_5 H locs hR h => ?_)
              exact x_iret (w1 := (fun u : XT => (wM cI cJ cB cZ bd u))) t_5 B h hr rfl hR dX12_simplex_64
            · have e_3 : (li 2) = 2 := e_3.trans (by decide)
              have hR := hR.2.2.2.1 e_3
              refine lv_tableIn (off := 54) (tgt := 65) hx hb dX12_simplex_11 (by rw [e_3]; decide) (by rw [e_3]; decide) (by rw [e_3]; decide) (by decide) ?_
              refine lv_aload_n hx hb dX12_simplex_65 rfl (lv_at hl 0 rfl) ?_
              refine x_get (ci := 12) (C := RX12) (T := TX12) (N := 31) (v := .ref (bd 6)) B h hin12 0 9 rfl rfl (by decide) (by decide +kernel) rfl dX12_simplex_66 ?_
              refine lv_iload_n hx hb dX12_simplex_69 rfl (lv_at hl 1 rfl) ?_
              obtain ⟨hb_6, hR⟩ := hR
              refine va_zald (f := (t_1.2.2.1 5)) hx hb B.2.1 h.1 6 3 rfl rfl hb_6 dX12_simplex_70 ?_
              refine lv_topi (fun v_6 ev_6 => ?_)
              have hR := hR v_6 ev_6
              refine lv_if_ne (tgt := 78) hx hb dX12_simplex_71 (by decide) (fun c_7 => ?_) (fun c_7 => ?_)
              · have hR := hR.1 c_7
                refine lv_iconst (v := 0) hx hb dX12_simplex_78 (by decide) ?_
                exact ih.2 t_1 (uI li 100 0) lj H locs ls hR (lv_sub hl [0, 1, 2] rfl) h
              · have hR := hR.2 c_7
                refine lv_iconst (v := 1) hx hb dX12_simplex_74 (by decide) ?_
                refine lv_goto (tgt := 79) hx hb dX12_simplex_75 (by decide) ?_
                exact ih.2 t_1 (uI li 100 1) lj H locs ls hR (lv_sub hl [0, 1, 2] rfl) h
            · have e_3 : (li 2) = 3 := e_3.trans (by decide)
              have hR := hR.2.2.2.2.1 e_3
              refine lv_tableIn (off := 72) (tgt := 83) hx hb dX12_simplex_11 (by rw [e_3]; decide) (by rw [e_3]; decide) (by rw [e_3]; decide) (by decide) ?_
              refine lv_aload_n hx hb dX12_simplex_83 rfl (lv_at hl 0 rfl) ?_
              refine x_get (ci := 12) (C := RX12) (T := TX12) (N := 31) (v := .ref (bd 5)) B h hin12 0 8 rfl rfl (by decide) (by decide +kernel) rfl dX12_simplex_84 ?_
              refine lv_iload_n hx hb dX12_simplex_87 rfl (lv_at hl 1 rfl) ?_
              obtain ⟨hb_8, hR⟩ := hR
              refine va_iald (f := (t_1.2.2.1 4)) hx hb B.2.1 h.1 5 0 rfl rfl hb_8 dX12_simplex_88 ?_
              refine lv_topi (fun v_8 ev_8 => ?_)
              have hR := hR v_8 ev_8
              exact x_iret (w1 := (fun u : XT => (wM cI cJ cB cZ bd u))) t_1 B h hr rfl hR dX12_simplex_89
            · have e_3 : (li 2) = 4 := e_3.trans (by decide)
              have hR := hR.2.2.2.2.2.1 e_3
              refine lv_tableIn (off := 79) (tgt := 90) hx hb dX12_simplex_11 (by rw [e_3]; decide) (by rw [e_3]; decide) (by rw [e_3]; decide) (by decide) ?_
              refine lv_aload_n hx hb dX12_simplex_90 rfl (lv_at hl 0 rfl) ?_
              refine x_get (ci := 12) (C := RX12) (T := TX12) (N := 31) (v := .ref (bd 5)) B h hin12 0 8 rfl rfl (by decide) (by decide +kernel) rfl dX12_simplex_91 ?_
              refine lv_iload_n hx hb dX12_simplex_94 rfl (lv_at hl 1 rfl) ?_
              obtain ⟨hb_9, hR⟩ := hR
              refine va_iald (f := (t_1.2.2.1 4)) hx hb B.2.1 h.1 5 0 rfl rfl hb_9 dX12_simplex_95 ?_
              refine lv_topi (fun v_9 ev_9 => ?_)
              have hR := hR v_9 ev_9
              refine lv_iconst (v := (-1)) hx hb dX12_simplex_96 (by decide) ?_
              refine lv_icmp_ne (tgt := 104) hx hb dX12_simplex_97 (by decide) (fun c_10 => ?_) (fun c_10 => ?_)
              · have hR := hR.1 c_10
                refine lv_aload_n hx hb dX12_simplex_104 rfl (lv_at hl 0 rfl) ?_
                refine lv_iload_n hx hb dX12_simplex_105 rfl (lv_at hl 1 rfl) ?_
                refine x_cVIF (n := 1) (As := [.int (li 1)]) (rest := []) B h (wkX12_isLower l D cI cJ cB cZ bd k t_1 (li 1) _ hR) ⟨⟨_, rfl⟩, by decide +kernel, Nat.le_of_ble_eq_true rfl, Nat.le_of_ble_eq_true rfl⟩ gX12_simplex_X12_isLower (show ((wM cI cJ cB cZ bd t_1) : va_W)[0]? = some (_, .inr (12, _)) from rfl) rfl rfl hl.1 rfl (Nat.le_of_ble_eq_true rfl) dX12_simplex_106 ⟨Nat.le_of_ble_eq_true rfl, Nat.le_of_ble_eq_true rfl⟩ (fun r_11 t_11 H locs hR h => ?_)
                refine x_cSIE (n := 1) (As := [.int r_11]) (rest := []) B h (wkX12_truth l D cI cJ cB cZ bd k r_11 _ hR) ⟨⟨_, rfl⟩, by decide +kernel, Nat.le_of_ble_eq_true rfl, Nat.le_of_ble_eq_true rfl⟩ gX12_simplex_X12_truth rfl hl.1 rfl (Nat.le_of_ble_eq_true rfl) dX12_simplex_109 ⟨Nat.le_of_ble_eq_true rfl, Nat.le_of_ble_eq_true rfl⟩ (fun r_12 _ H locs hR h => ?_)
                exact x_iret (w1 := (fun u : XT => (wM cI cJ cB cZ bd u))) t_11 B h hr rfl hR dX12_simplex_112
              · have hR := hR.2 c_10
                refine lv_iconst (v := (-1)) hx hb dX12_simplex_100 (by decide) ?_
                refine lv_goto (tgt := 112) hx hb dX12_simplex_101 (by decide) ?_
                exact x_iret (w1 := (fun u : XT => (wM cI cJ cB cZ bd u))) t_1 B h hr rfl hR dX12_simplex_112
            · have e_3 : (li 2) = 5 := e_3.trans (by decide)
              have hR := hR.2.2.2.2.2.2.1 e_3
              refine lv_tableIn (off := 102) (tgt := 113) hx hb dX12_simplex_11 (by rw [e_3]; decide) (by rw [e_3]; decide) (by rw [e_3]; decide) (by decide) ?_
              refine lv_aload_n hx hb dX12_simplex_113 rfl (lv_at hl 0 rfl) ?_
              refine x_get (ci := 12) (C := RX12) (T := TX12) (N := 31) (v := .ref (bd 6)) B h hin12 0 9 rfl rfl (by decide) (by decide +kernel) rfl dX12_simplex_114 ?_
              refine lv_iload_n hx hb dX12_simplex_117 rfl (lv_at hl 1 rfl) ?_
              obtain ⟨hb_13, hR⟩ := hR
              refine va_zald (f := (t_1.2.2.1 5)) hx hb B.2.1 h.1 6 3 rfl rfl hb_13 dX12_simplex_118 ?_
              refine lv_topi (fun v_13 ev_13 => ?_)
              have hR := hR v_13 ev_13
              refine lv_if_eq (tgt := 124) hx hb dX12_simplex_119 (by decide) (fun c_14 => ?_) (fun c_14 => ?_)
              · have hR := hR.1 c_14
                refine lv_aload_n hx hb dX12_simplex_124 rfl (lv_at hl 0 rfl) ?_
                refine x_cVVF (n := 0) (As := []) (rest := []) B h (wkX12_laysHeights l D cI cJ cB cZ bd k t_1  _ hR) ⟨⟨_, rfl⟩, by decide +kernel, Nat.le_of_ble_eq_true rfl, Nat.le_of_ble_eq_true rfl⟩ gX12_simplex_X12_laysHeights (show ((wM cI cJ cB cZ bd t_1) : va_W)[0]? = some (_, .inr (12, _)) from rfl) rfl rfl hl.1 rfl (Nat.le_of_ble_eq_true rfl) dX12_simplex_125 ⟨Nat.le_of_ble_eq_true rfl, Nat.le_of_ble_eq_true rfl⟩ (fun t_15 H locs hR h => ?_)
                refine lv_aload_n hx hb dX12_simplex_128 rfl (lv_at hl 0 rfl) ?_
                refine x_get (ci := 12) (C := RX12) (T := TX12) (N := 31) (v := .ref (bd 7)) B h hin12 0 10 rfl rfl (by decide) (by decide +kernel) rfl dX12_simplex_129 ?_
                refine lv_iload_n hx hb dX12_simplex_132 rfl (lv_at hl 1 rfl) ?_
                obtain ⟨hb_16, hR⟩ := hR
                refine va_iald (f := (t_15.2.2.1 6)) hx hb B.2.1 h.1 7 0 rfl rfl hb_16 dX12_simplex_133 ?_
                refine lv_topi (fun v_16 ev_16 => ?_)
                have hR := hR v_16 ev_16
                exact x_iret (w1 := (fun u : XT => (wM cI cJ cB cZ bd u))) t_15 B h hr rfl hR dX12_simplex_134
              · have hR := hR.2 c_14
                refine lv_iconst (v := (-1)) hx hb dX12_simplex_122 (by decide) ?_
                exact x_iret (w1 := (fun u : XT => (wM cI cJ cB cZ bd u))) t_1 B h hr rfl hR dX12_simplex_123
            · have e_3 : (li 2) = 6 := e_3.trans (by decide)
              have hR := hR.2.2.2.2.2.2.2 e_3
              refine lv_tableIn (off := 124) (tgt := 135) hx hb dX12_simplex_11 (by rw [e_3]; decide) (by rw [e_3]; decide) (by rw [e_3]; decide) (by decide) ?_
              refine lv_aload_n hx hb dX12_simplex_135 rfl (lv_at hl 0 rfl) ?_
              refine lv_iload_n hx hb dX12_simplex_136 rfl (lv_at hl 1 rfl) ?_
              refine x_cVIF (n := 1) (As := [.int (li 1)]) (rest := []) B h (wkX12_facesOver l D cI cJ cB cZ bd k t_1 (li 1) _ hR) ⟨⟨_, rfl⟩, by decide +kernel, Nat.le_of_ble_eq_true rfl, Nat.le_of_ble_eq_true rfl⟩ gX12_simplex_X12_facesOver (show ((wM cI cJ cB cZ bd t_1) : va_W)[0]? = some (_, .inr (12, _)) from rfl) rfl rfl hl.1 rfl (Nat.le_of_ble_eq_true rfl) dX12_simplex_137 ⟨Nat.le_of_ble_eq_true rfl, Nat.le_of_ble_eq_true rfl⟩ (fun r_17 t_17 H locs hR h => ?_)
              exact x_iret (w1 := (fun u : XT => (wM cI cJ cB cZ bd u))) t_17 B h hr rfl hR dX12_simplex_140
        · have hR := hR.2 c_2
          refine lv_iconst (v := (-1)) hx hb dX12_simplex_8 (by decide) ?_
          exact x_iret (w1 := (fun u : XT => (wM cI cJ cB cZ bd u))) t_1 B h hr rfl hR dX12_simplex_9
      · intro t li lj H locs ls hR hl h
        have hR : wbX12_simplex_1 (wpX12_simplex k) k t li lj Q := hR
        unfold wbX12_simplex_1 at hR
        refine x_cSIE (n := 1) (As := [.int (li 100)]) (rest := []) B h (wkX12_truth l D cI cJ cB cZ bd k (li 100) _ hR) ⟨⟨_, rfl⟩, by decide +kernel, Nat.le_of_ble_eq_true rfl, Nat.le_of_ble_eq_true rfl⟩ gX12_simplex_X12_truth rfl hl.1 rfl (Nat.le_of_ble_eq_true rfl) dX12_simplex_79 ⟨Nat.le_of_ble_eq_true rfl, Nat.le_of_ble_eq_true rfl⟩ (fun r_18 _ H locs hR h => ?_)
        exact x_iret (w1 := (fun u : XT => (wM cI cJ cB cZ bd u))) t B h hr rfl hR dX12_simplex_82
  exact (main k).1 t _ _ s.heap [] ls hR hl h
set_option maxRecDepth 20000 in
theorem ggX12_number_X12_in : GoodIn wsX12_number wsX12_in := goodIn_r _ [6] (by decide +kernel) (by decide +kernel)
set_option maxRecDepth 20000 in
theorem gX12_number_X12_in : GoodIn wsX12_number (va_wsS RX12 101 yX12_in wsX12_in) := goodIn_app (goodIn_of _ (by decide +kernel)) ggX12_number_X12_in
def wbX12_number_0 (rec : Nat → XT → (Nat → Int32) → (Nat → Int64) → (Int32 → XT → Prop) → Prop) (k : Nat) (t : XT) (li : Nat → Int32) (lj : Nat → Int64) (Q : Int32 → XT → Prop) : Prop :=
  (wqX12_in k (li 1) 1 255 (fun r_1 => ((r_1 = 0) → rec 1 t li lj Q) ∧ (¬ (r_1 = 0) → (((t.1 3) ≤ 0) → rec 1 t li lj Q) ∧ (¬ ((t.1 3) ≤ 0) → (vp_in (li 1) 256 ∧ (∀ v_4 : Int32, v_4 = (t.2.2.1 3) (li 1).toNatClampNeg → Q v_4 t))))))
def wbX12_number_1 (rec : Nat → XT → (Nat → Int32) → (Nat → Int64) → (Int32 → XT → Prop) → Prop) (k : Nat) (t : XT) (li : Nat → Int32) (lj : Nat → Int64) (Q : Int32 → XT → Prop) : Prop :=
  Q (-1) t
def wpX12_number : Nat → Nat → XT → (Nat → Int32) → (Nat → Int64) → (Int32 → XT → Prop) → Prop
  | 0, _, _, _, _, _ => False
  | k + 1, 0, t, li, lj, Q => wbX12_number_0 (wpX12_number k) k t li lj Q
  | k + 1, 1, t, li, lj, Q => wbX12_number_1 (wpX12_number k) k t li lj Q
  | _ + 1, _, _, _, _, _ => False
def wqX12_number (k : Nat) (t : XT) (a1 : Int32) (Q : Int32 → XT → Prop) : Prop := wpX12_number k 0 t (uI (fun _ => 0) 1 a1) (fun _ => 0) Q
set_option maxHeartbeats 8000000 in
set_option maxRecDepth 100000 in
theorem wkX12_number (l : Launch) (D : va_G) (cI cJ cB cZ : ClassId) (bd : Nat → Nat) (k : Nat) (t : XT) (a1 : Int32) (Q : Int32 → XT → Prop) (hR : wqX12_number k t a1 Q) : MetI l yX12_number wsX12_number 1 22 0 0 D (TYS cI cJ cB cZ) (wM cI cJ cB cZ bd t) [.ref (bd 0), .int a1] (fun r u => Q r u) (fun u : XT => (wM cI cJ cB cZ bd u)) := by
  refine x_startI (ty := .int) (cc := cX12_number) (by decide) rfl (Nat.le_of_ble_eq_true rfl) ?_
  intro p e s m args below meth c A ls B hr hnm h hl
  have hx := B.1.1
  have hb := B.1.2.1
  have hml := B.1.2.2.1
  have hts := B.1.2.2.2.2
  have hown : s.vm.findClass RX12 = some m.cls := B.1.2.2.2.1
  have hin12 : ∀ w ∈ u_ws RX12 TX12 31, w ∈ wsX12_number := by decide +kernel
  have main : ∀ k : Nat, (∀ (t : XT) (li : Nat → Int32) (lj : Nat → Int64) (H : Heap) (locs : List Loc) (ls : Array Slot), wpX12_number k 0 t li lj Q → lv_has ls 2 [(0, .ref (bd 0)), (1, .int (li 1))] → Hp D A s.heap (wM cI cJ cB cZ bd t) H locs → W p l e { frames := 1, cells := 0, slots := 0, locals := 22 } s m args below meth c H locs 0 0 (MQ below (va_Qi (fun r u => Q r u) (fun u t => xEnd D ((fun u : XT => (wM cI cJ cB cZ bd u)) u) A t) A) args s 0 0 A) (F0 m 0 ls [])) ∧
      (∀ (t : XT) (li : Nat → Int32) (lj : Nat → Int64) (H : Heap) (locs : List Loc) (ls : Array Slot), wpX12_number k 1 t li lj Q → lv_has ls 2 [(0, .ref (bd 0)), (1, .int (li 1))] → Hp D A s.heap (wM cI cJ cB cZ bd t) H locs → W p l e { frames := 1, cells := 0, slots := 0, locals := 22 } s m args below meth c H locs 0 0 (MQ below (va_Qi (fun r u => Q r u) (fun u t => xEnd D ((fun u : XT => (wM cI cJ cB cZ bd u)) u) A t) A) args s 0 0 A) (F0 m 27 ls [])) := by
    intro k
    induction k with
    | zero => exact ⟨fun _ _ _ _ _ _ hR => False.elim hR, fun _ _ _ _ _ _ hR => False.elim hR⟩
    | succ k ih =>
      refine ⟨?_, ?_⟩
      · intro t li lj H locs ls hR hl h
        have hR : wbX12_number_0 (wpX12_number k) k t li lj Q := hR
        unfold wbX12_number_0 at hR
        refine lv_iload_n hx hb dX12_number_0 rfl (lv_at hl 1 rfl) ?_
        refine lv_iconst (v := 1) hx hb dX12_number_1 (by decide) ?_
        refine lv_sipush (v := 255) hx hb dX12_number_2 (by decide) ?_
        refine x_cSIE (n := 3) (As := [.int (li 1), .int 1, .int 255]) (rest := []) B h (wkX12_in l D cI cJ cB cZ bd k (li 1) 1 255 _ hR) ⟨⟨_, rfl⟩, by decide +kernel, Nat.le_of_ble_eq_true rfl, Nat.le_of_ble_eq_true rfl⟩ gX12_number_X12_in rfl hl.1 rfl (Nat.le_of_ble_eq_true rfl) dX12_number_5 ⟨Nat.le_of_ble_eq_true rfl, Nat.le_of_ble_eq_true rfl⟩ (fun r_1 _ H locs hR h => ?_)
        refine lv_if_eq (tgt := 27) hx hb dX12_number_8 (by decide) (fun c_2 => ?_) (fun c_2 => ?_)
        · have hR := hR.1 c_2
          exact ih.2 t li lj H locs ls hR (lv_sub hl [0, 1] rfl) h
        · have hR := hR.2 c_2
          refine lv_aload_n hx hb dX12_number_11 rfl (lv_at hl 0 rfl) ?_
          refine x_get (ci := 12) (C := RX12) (T := TX12) (N := 31) (v := .int (t.1 3)) B h hin12 0 5 rfl rfl (by decide) (by decide +kernel) rfl dX12_number_12 ?_
          refine lv_if_le (tgt := 27) hx hb dX12_number_15 (by decide) (fun c_3 => ?_) (fun c_3 => ?_)
          · have hR := hR.1 c_3
            exact ih.2 t li lj H locs ls hR (lv_sub hl [0, 1] rfl) h
          · have hR := hR.2 c_3
            refine lv_aload_n hx hb dX12_number_18 rfl (lv_at hl 0 rfl) ?_
            refine x_get (ci := 12) (C := RX12) (T := TX12) (N := 31) (v := .ref (bd 4)) B h hin12 0 7 rfl rfl (by decide) (by decide +kernel) rfl dX12_number_19 ?_
            refine lv_iload_n hx hb dX12_number_22 rfl (lv_at hl 1 rfl) ?_
            obtain ⟨hb_4, hR⟩ := hR
            refine va_iald (f := (t.2.2.1 3)) hx hb B.2.1 h.1 4 0 rfl rfl hb_4 dX12_number_23 ?_
            refine lv_topi (fun v_4 ev_4 => ?_)
            have hR := hR v_4 ev_4
            refine lv_goto (tgt := 28) hx hb dX12_number_24 (by decide) ?_
            exact x_iret (w1 := (fun u : XT => (wM cI cJ cB cZ bd u))) t B h hr rfl hR dX12_number_28
      · intro t li lj H locs ls hR hl h
        have hR : wbX12_number_1 (wpX12_number k) k t li lj Q := hR
        unfold wbX12_number_1 at hR
        refine lv_iconst (v := (-1)) hx hb dX12_number_27 (by decide) ?_
        exact x_iret (w1 := (fun u : XT => (wM cI cJ cB cZ bd u))) t B h hr rfl hR dX12_number_28
  exact (main k).1 t _ _ s.heap [] ls hR hl h
set_option maxRecDepth 20000 in
theorem ggX12_signOf_J6_bitCount_0f7a4 : GoodIn wsX12_signOf wsJ6_bitCount_0f7a4 := goodIn_r _ [5, 6, 7, 8] (by decide +kernel) (by decide +kernel)
set_option maxRecDepth 20000 in
theorem gX12_signOf_J6_bitCount_0f7a4 : GoodIn wsX12_signOf (va_wsS RX12 123 yJ6_bitCount_0f7a4 wsJ6_bitCount_0f7a4) := goodIn_app (goodIn_of _ (by decide +kernel)) ggX12_signOf_J6_bitCount_0f7a4
def wbX12_signOf_0 (rec : Nat → XT → (Nat → Int32) → (Nat → Int64) → (Int32 → XT → Prop) → Prop) (k : Nat) (t : XT) (li : Nat → Int32) (lj : Nat → Int64) (Q : Int32 → XT → Prop) : Prop :=
  (vp_in (li 2) 60 ∧ (∀ v_1 : Int32, v_1 = (t.2.2.1 2) (li 2).toNatClampNeg → (vp_in (li 1) 60 ∧ (∀ v_2 : Int32, v_2 = (t.2.2.1 2) (li 1).toNatClampNeg → (∀ v_3 : Int32, v_3 = (v_2 ^^^ (-1)) → (∀ v_4 : Int32, v_4 = (v_1 &&& v_3) → (vp_in (li 2) 60 ∧ (∀ v_5 : Int32, v_5 = (t.2.2.1 2) (li 2).toNatClampNeg → (∀ v_6 : Int32, v_6 = (v_4 - 1) → (∀ v_7 : Int32, v_7 = (v_5 &&& v_6) → (wqJ6_bitCount_0f7a4 k v_7 (fun r_8 => ((¬ (2 : Int32) = 0) ∧ (∀ v_9 : Int32, v_9 = (r_8 - r_8 / 2 * 2) → ((¬ v_9 = 0) → Q (-1) t) ∧ ((v_9 = 0) → Q 1 t)))))))))))))))
def wpX12_signOf : Nat → Nat → XT → (Nat → Int32) → (Nat → Int64) → (Int32 → XT → Prop) → Prop
  | 0, _, _, _, _, _ => False
  | k + 1, 0, t, li, lj, Q => wbX12_signOf_0 (wpX12_signOf k) k t li lj Q
  | _ + 1, _, _, _, _, _ => False
def wqX12_signOf (k : Nat) (t : XT) (a1 : Int32) (a2 : Int32) (Q : Int32 → XT → Prop) : Prop := wpX12_signOf k 0 t (uI (uI (fun _ => 0) 1 a1) 2 a2) (fun _ => 0) Q
set_option maxHeartbeats 8000000 in
set_option maxRecDepth 100000 in
theorem wkX12_signOf (l : Launch) (D : va_G) (cI cJ cB cZ : ClassId) (bd : Nat → Nat) (k : Nat) (t : XT) (a1 : Int32) (a2 : Int32) (Q : Int32 → XT → Prop) (hR : wqX12_signOf k t a1 a2 Q) : MetI l yX12_signOf wsX12_signOf 1 20 0 0 D (TYS cI cJ cB cZ) (wM cI cJ cB cZ bd t) [.ref (bd 0), .int a1, .int a2] (fun r u => Q r u) (fun u : XT => (wM cI cJ cB cZ bd u)) := by
  refine x_startI (ty := .int) (cc := cX12_signOf) (by decide) rfl (Nat.le_of_ble_eq_true rfl) ?_
  intro p e s m args below meth c A ls B hr hnm h hl
  have hx := B.1.1
  have hb := B.1.2.1
  have hml := B.1.2.2.1
  have hts := B.1.2.2.2.2
  have hown : s.vm.findClass RX12 = some m.cls := B.1.2.2.2.1
  have hin12 : ∀ w ∈ u_ws RX12 TX12 31, w ∈ wsX12_signOf := by decide +kernel
  have main : ∀ k : Nat, (∀ (t : XT) (li : Nat → Int32) (lj : Nat → Int64) (H : Heap) (locs : List Loc) (ls : Array Slot), wpX12_signOf k 0 t li lj Q → lv_has ls 5 [(0, .ref (bd 0)), (1, .int (li 1)), (2, .int (li 2))] → Hp D A s.heap (wM cI cJ cB cZ bd t) H locs → W p l e { frames := 1, cells := 0, slots := 0, locals := 20 } s m args below meth c H locs 0 0 (MQ below (va_Qi (fun r u => Q r u) (fun u t => xEnd D ((fun u : XT => (wM cI cJ cB cZ bd u)) u) A t) A) args s 0 0 A) (F0 m 0 ls [])) := by
    intro k
    induction k with
    | zero => exact fun _ _ _ _ _ _ hR => False.elim hR
    | succ k ih =>
      intro t li lj H locs ls hR hl h
      have hR : wbX12_signOf_0 (wpX12_signOf k) k t li lj Q := hR
      unfold wbX12_signOf_0 at hR
      refine lv_aload_n hx hb dX12_signOf_0 rfl (lv_at hl 0 rfl) ?_
      refine x_get (ci := 12) (C := RX12) (T := TX12) (N := 31) (v := .ref (bd 3)) B h hin12 0 6 rfl rfl (by decide) (by decide +kernel) rfl dX12_signOf_1 ?_
      refine lv_iload_n hx hb dX12_signOf_4 rfl (lv_at hl 2 rfl) ?_
      obtain ⟨hb_1, hR⟩ := hR
      refine va_iald (f := (t.2.2.1 2)) hx hb B.2.1 h.1 3 0 rfl rfl hb_1 dX12_signOf_5 ?_
      refine lv_topi (fun v_1 ev_1 => ?_)
      have hR := hR v_1 ev_1
      refine lv_aload_n hx hb dX12_signOf_6 rfl (lv_at hl 0 rfl) ?_
      refine x_get (ci := 12) (C := RX12) (T := TX12) (N := 31) (v := .ref (bd 3)) B h hin12 0 6 rfl rfl (by decide) (by decide +kernel) rfl dX12_signOf_7 ?_
      refine lv_iload_n hx hb dX12_signOf_10 rfl (lv_at hl 1 rfl) ?_
      obtain ⟨hb_2, hR⟩ := hR
      refine va_iald (f := (t.2.2.1 2)) hx hb B.2.1 h.1 3 0 rfl rfl hb_2 dX12_signOf_11 ?_
      refine lv_topi (fun v_2 ev_2 => ?_)
      have hR := hR v_2 ev_2
      refine lv_iconst (v := (-1)) hx hb dX12_signOf_12 (by decide) ?_
      refine lv_ixor hx hb dX12_signOf_13 ?_
      refine lv_topi (fun v_3 ev_3 => ?_)
      have hR := hR v_3 ev_3
      refine lv_iand hx hb dX12_signOf_14 ?_
      refine lv_topi (fun v_4 ev_4 => ?_)
      have hR := hR v_4 ev_4
      refine lv_istore_n (lv' := [(3, .int v_4), (0, .ref (bd 0)), (1, .int (li 1)), (2, .int (li 2))]) hx hb dX12_signOf_15 rfl hl (by decide) rfl (fun ls hl => ?_)
      refine lv_aload_n hx hb dX12_signOf_16 rfl (lv_at hl 1 rfl) ?_
      refine x_get (ci := 12) (C := RX12) (T := TX12) (N := 31) (v := .ref (bd 3)) B h hin12 0 6 rfl rfl (by decide) (by decide +kernel) rfl dX12_signOf_17 ?_
      refine lv_iload_n hx hb dX12_signOf_20 rfl (lv_at hl 3 rfl) ?_
      obtain ⟨hb_5, hR⟩ := hR
      refine va_iald (f := (t.2.2.1 2)) hx hb B.2.1 h.1 3 0 rfl rfl hb_5 dX12_signOf_21 ?_
      refine lv_topi (fun v_5 ev_5 => ?_)
      have hR := hR v_5 ev_5
      refine lv_iload_n hx hb dX12_signOf_22 rfl (lv_at hl 0 rfl) ?_
      refine lv_iconst (v := 1) hx hb dX12_signOf_23 (by decide) ?_
      refine lv_isub hx hb dX12_signOf_24 ?_
      refine lv_topi (fun v_6 ev_6 => ?_)
      have hR := hR v_6 ev_6
      refine lv_iand hx hb dX12_signOf_25 ?_
      refine lv_topi (fun v_7 ev_7 => ?_)
      have hR := hR v_7 ev_7
      refine x_cSIE (n := 1) (As := [.int v_7]) (rest := []) B h (wkJ6_bitCount_0f7a4 l D cI cJ cB cZ bd k v_7 _ hR) ⟨⟨_, rfl⟩, by decide +kernel, Nat.le_of_ble_eq_true rfl, Nat.le_of_ble_eq_true rfl⟩ gX12_signOf_J6_bitCount_0f7a4 rfl hl.1 rfl (Nat.le_of_ble_eq_true rfl) dX12_signOf_26 ⟨Nat.le_of_ble_eq_true rfl, Nat.le_of_ble_eq_true rfl⟩ (fun r_8 _ H locs hR h => ?_)
      refine lv_istore (lv' := [(4, .int r_8), (3, .int v_4), (0, .ref (bd 0)), (1, .int (li 1)), (2, .int (li 2))]) hx hb dX12_signOf_29 hl (by decide) rfl (fun ls hl => ?_)
      refine lv_iload hx hb dX12_signOf_31 (lv_at hl 0 rfl) ?_
      refine lv_iconst (v := 2) hx hb dX12_signOf_33 (by decide) ?_
      obtain ⟨hd_9, hR⟩ := hR
      refine lv_irem hx hb dX12_signOf_34 hd_9 ?_
      refine lv_topi (fun v_9 ev_9 => ?_)
      have hR := hR v_9 ev_9
      refine lv_if_ne (tgt := 42) hx hb dX12_signOf_35 (by decide) (fun c_10 => ?_) (fun c_10 => ?_)
      · have hR := hR.1 c_10
        refine lv_iconst (v := (-1)) hx hb dX12_signOf_42 (by decide) ?_
        exact x_iret (w1 := (fun u : XT => (wM cI cJ cB cZ bd u))) t B h hr rfl hR dX12_signOf_43
      · have hR := hR.2 c_10
        refine lv_iconst (v := 1) hx hb dX12_signOf_38 (by decide) ?_
        refine lv_goto (tgt := 43) hx hb dX12_signOf_39 (by decide) ?_
        exact x_iret (w1 := (fun u : XT => (wM cI cJ cB cZ bd u))) t B h hr rfl hR dX12_signOf_43
  exact (main k) t _ _ s.heap [] ls hR hl h
set_option maxRecDepth 20000 in
theorem ggX12_sign_X12_isSimplex : GoodIn wsX12_sign wsX12_isSimplex := goodIn_r _ [6, 7, 8, 9, 5, 10, 31, 32, 33, 34, 35, 36, 37, 38, 39, 40, 41, 42, 43, 44, 45, 46, 47, 48, 49, 50, 51, 52, 53, 54, 55, 56, 57, 58, 59, 60, 61] (by decide +kernel) (by decide +kernel)
set_option maxRecDepth 20000 in
theorem gX12_sign_X12_isSimplex : GoodIn wsX12_sign (wsV RX12 145 RX12 yX12_isSimplex wsX12_isSimplex) := goodIn_app (goodIn_of _ (by decide +kernel)) ggX12_sign_X12_isSimplex
set_option maxRecDepth 20000 in
theorem ggX12_sign_X12_isFace : GoodIn wsX12_sign wsX12_isFace := goodIn_r _ [14, 15, 16, 17, 18, 5, 19, 20, 21, 22, 23, 24, 25, 26, 31, 32, 33, 34, 35, 36, 37, 38, 39, 40, 41, 42, 43, 44, 45, 46, 47, 48, 49, 50, 51, 52, 53, 54, 55, 56, 57, 58, 59, 60, 61] (by decide +kernel) (by decide +kernel)
set_option maxRecDepth 20000 in
theorem gX12_sign_X12_isFace : GoodIn wsX12_sign (wsV RX12 152 RX12 yX12_isFace wsX12_isFace) := goodIn_app (goodIn_of _ (by decide +kernel)) ggX12_sign_X12_isFace
set_option maxRecDepth 20000 in
theorem ggX12_sign_X12_signOf : GoodIn wsX12_sign wsX12_signOf := goodIn_r _ [30, 15, 20, 21, 22, 23, 24, 25, 26, 31, 32, 33, 34, 35, 36, 37, 38, 39, 40, 41, 42, 43, 44, 45, 46, 47, 48, 49, 50, 51, 52, 53, 54, 55, 56, 57, 58, 59, 60, 61] (by decide +kernel) (by decide +kernel)
set_option maxRecDepth 20000 in
theorem gX12_sign_X12_signOf : GoodIn wsX12_sign (wsV RX12 166 RX12 yX12_signOf wsX12_signOf) := goodIn_app (goodIn_of _ (by decide +kernel)) ggX12_sign_X12_signOf
def wbX12_sign_0 (rec : Nat → XT → (Nat → Int32) → (Nat → Int64) → (Int32 → XT → Prop) → Prop) (k : Nat) (t : XT) (li : Nat → Int32) (lj : Nat → Int64) (Q : Int32 → XT → Prop) : Prop :=
  (wqX12_isSimplex k t (li 1) (fun r_1 t_1 => ((r_1 = 0) → rec 1 t_1 li lj Q) ∧ (¬ (r_1 = 0) → (wqX12_isSimplex k t_1 (li 2) (fun r_3 t_3 => ((¬ r_3 = 0) → (wqX12_isFace k t_3 (li 1) (li 2) (fun r_5 t_5 => ((r_5 = 0) → Q 0 t_5) ∧ (¬ (r_5 = 0) → (wqX12_signOf k t_5 (li 1) (li 2) (fun r_7 t_7 => Q r_7 t_7)))))) ∧ ((r_3 = 0) → rec 1 t_3 li lj Q))))))
def wbX12_sign_1 (rec : Nat → XT → (Nat → Int32) → (Nat → Int64) → (Int32 → XT → Prop) → Prop) (k : Nat) (t : XT) (li : Nat → Int32) (lj : Nat → Int64) (Q : Int32 → XT → Prop) : Prop :=
  Q (-2147483648) t
def wpX12_sign : Nat → Nat → XT → (Nat → Int32) → (Nat → Int64) → (Int32 → XT → Prop) → Prop
  | 0, _, _, _, _, _ => False
  | k + 1, 0, t, li, lj, Q => wbX12_sign_0 (wpX12_sign k) k t li lj Q
  | k + 1, 1, t, li, lj, Q => wbX12_sign_1 (wpX12_sign k) k t li lj Q
  | _ + 1, _, _, _, _, _ => False
def wqX12_sign (k : Nat) (t : XT) (a1 : Int32) (a2 : Int32) (Q : Int32 → XT → Prop) : Prop := wpX12_sign k 0 t (uI (uI (fun _ => 0) 1 a1) 2 a2) (fun _ => 0) Q
set_option maxHeartbeats 8000000 in
set_option maxRecDepth 100000 in
theorem wkX12_sign (l : Launch) (D : va_G) (cI cJ cB cZ : ClassId) (bd : Nat → Nat) (k : Nat) (t : XT) (a1 : Int32) (a2 : Int32) (Q : Int32 → XT → Prop) (hR : wqX12_sign k t a1 a2 Q) : MetI l yX12_sign wsX12_sign 3 63 0 0 D (TYS cI cJ cB cZ) (wM cI cJ cB cZ bd t) [.ref (bd 0), .int a1, .int a2] (fun r u => Q r u) (fun u : XT => (wM cI cJ cB cZ bd u)) := by
  refine x_startI (ty := .int) (cc := cX12_sign) (by decide) rfl (Nat.le_of_ble_eq_true rfl) ?_
  intro p e s m args below meth c A ls B hr hnm h hl
  have hx := B.1.1
  have hb := B.1.2.1
  have hml := B.1.2.2.1
  have hts := B.1.2.2.2.2
  have hown : s.vm.findClass RX12 = some m.cls := B.1.2.2.2.1
  have main : ∀ k : Nat, (∀ (t : XT) (li : Nat → Int32) (lj : Nat → Int64) (H : Heap) (locs : List Loc) (ls : Array Slot), wpX12_sign k 0 t li lj Q → lv_has ls 3 [(0, .ref (bd 0)), (1, .int (li 1)), (2, .int (li 2))] → Hp D A s.heap (wM cI cJ cB cZ bd t) H locs → W p l e { frames := 3, cells := 0, slots := 0, locals := 63 } s m args below meth c H locs 0 0 (MQ below (va_Qi (fun r u => Q r u) (fun u t => xEnd D ((fun u : XT => (wM cI cJ cB cZ bd u)) u) A t) A) args s 0 0 A) (F0 m 0 ls [])) ∧
      (∀ (t : XT) (li : Nat → Int32) (lj : Nat → Int64) (H : Heap) (locs : List Loc) (ls : Array Slot), wpX12_sign k 1 t li lj Q → lv_has ls 3 [(0, .ref (bd 0)), (1, .int (li 1)), (2, .int (li 2))] → Hp D A s.heap (wM cI cJ cB cZ bd t) H locs → W p l e { frames := 3, cells := 0, slots := 0, locals := 63 } s m args below meth c H locs 0 0 (MQ below (va_Qi (fun r u => Q r u) (fun u t => xEnd D ((fun u : XT => (wM cI cJ cB cZ bd u)) u) A t) A) args s 0 0 A) (F0 m 16 ls [])) := by
    intro k
    induction k with
    | zero => exact ⟨fun _ _ _ _ _ _ hR => False.elim hR, fun _ _ _ _ _ _ hR => False.elim hR⟩
    | succ k ih =>
      refine ⟨?_, ?_⟩
      · intro t li lj H locs ls hR hl h
        have hR : wbX12_sign_0 (wpX12_sign k) k t li lj Q := hR
        unfold wbX12_sign_0 at hR
        refine lv_aload_n hx hb dX12_sign_0 rfl (lv_at hl 0 rfl) ?_
        refine lv_iload_n hx hb dX12_sign_1 rfl (lv_at hl 1 rfl) ?_
        refine x_cVIF (n := 1) (As := [.int (li 1)]) (rest := []) B h (wkX12_isSimplex l D cI cJ cB cZ bd k t (li 1) _ hR) ⟨⟨_, rfl⟩, by decide +kernel, Nat.le_of_ble_eq_true rfl, Nat.le_of_ble_eq_true rfl⟩ gX12_sign_X12_isSimplex (show ((wM cI cJ cB cZ bd t) : va_W)[0]? = some (_, .inr (12, _)) from rfl) rfl rfl hl.1 rfl (Nat.le_of_ble_eq_true rfl) dX12_sign_2 ⟨Nat.le_of_ble_eq_true rfl, Nat.le_of_ble_eq_true rfl⟩ (fun r_1 t_1 H locs hR h => ?_)
        refine lv_if_eq (tgt := 16) hx hb dX12_sign_5 (by decide) (fun c_2 => ?_) (fun c_2 => ?_)
        · have hR := hR.1 c_2
          exact ih.2 t_1 li lj H locs ls hR (lv_sub hl [0, 1, 2] rfl) h
        · have hR := hR.2 c_2
          refine lv_aload_n hx hb dX12_sign_8 rfl (lv_at hl 0 rfl) ?_
          refine lv_iload_n hx hb dX12_sign_9 rfl (lv_at hl 2 rfl) ?_
          refine x_cVIF (n := 1) (As := [.int (li 2)]) (rest := []) B h (wkX12_isSimplex l D cI cJ cB cZ bd k t_1 (li 2) _ hR) ⟨⟨_, rfl⟩, by decide +kernel, Nat.le_of_ble_eq_true rfl, Nat.le_of_ble_eq_true rfl⟩ gX12_sign_X12_isSimplex (show ((wM cI cJ cB cZ bd t_1) : va_W)[0]? = some (_, .inr (12, _)) from rfl) rfl rfl hl.1 rfl (Nat.le_of_ble_eq_true rfl) dX12_sign_10 ⟨Nat.le_of_ble_eq_true rfl, Nat.le_of_ble_eq_true rfl⟩ (fun r_3 t_3 H locs hR h => ?_)
          refine lv_if_ne (tgt := 19) hx hb dX12_sign_13 (by decide) (fun c_4 => ?_) (fun c_4 => ?_)
          · have hR := hR.1 c_4
            refine lv_aload_n hx hb dX12_sign_19 rfl (lv_at hl 0 rfl) ?_
            refine lv_iload_n hx hb dX12_sign_20 rfl (lv_at hl 1 rfl) ?_
            refine lv_iload_n hx hb dX12_sign_21 rfl (lv_at hl 2 rfl) ?_
            refine x_cVIF (n := 2) (As := [.int (li 1), .int (li 2)]) (rest := []) B h (wkX12_isFace l D cI cJ cB cZ bd k t_3 (li 1) (li 2) _ hR) ⟨⟨_, rfl⟩, by decide +kernel, Nat.le_of_ble_eq_true rfl, Nat.le_of_ble_eq_true rfl⟩ gX12_sign_X12_isFace (show ((wM cI cJ cB cZ bd t_3) : va_W)[0]? = some (_, .inr (12, _)) from rfl) rfl rfl hl.1 rfl (Nat.le_of_ble_eq_true rfl) dX12_sign_22 ⟨Nat.le_of_ble_eq_true rfl, Nat.le_of_ble_eq_true rfl⟩ (fun r_5 t_5 H locs hR h => ?_)
            refine lv_if_eq (tgt := 37) hx hb dX12_sign_25 (by decide) (fun c_6 => ?_) (fun c_6 => ?_)
            · have hR := hR.1 c_6
              refine lv_iconst (v := 0) hx hb dX12_sign_37 (by decide) ?_
              exact x_iret (w1 := (fun u : XT => (wM cI cJ cB cZ bd u))) t_5 B h hr rfl hR dX12_sign_38
            · have hR := hR.2 c_6
              refine lv_aload_n hx hb dX12_sign_28 rfl (lv_at hl 0 rfl) ?_
              refine lv_iload_n hx hb dX12_sign_29 rfl (lv_at hl 1 rfl) ?_
              refine lv_iload_n hx hb dX12_sign_30 rfl (lv_at hl 2 rfl) ?_
              refine x_cVIF (n := 2) (As := [.int (li 1), .int (li 2)]) (rest := []) B h (wkX12_signOf l D cI cJ cB cZ bd k t_5 (li 1) (li 2) _ hR) ⟨⟨_, rfl⟩, by decide +kernel, Nat.le_of_ble_eq_true rfl, Nat.le_of_ble_eq_true rfl⟩ gX12_sign_X12_signOf (show ((wM cI cJ cB cZ bd t_5) : va_W)[0]? = some (_, .inr (12, _)) from rfl) rfl rfl hl.1 rfl (Nat.le_of_ble_eq_true rfl) dX12_sign_31 ⟨Nat.le_of_ble_eq_true rfl, Nat.le_of_ble_eq_true rfl⟩ (fun r_7 t_7 H locs hR h => ?_)
              refine lv_goto (tgt := 38) hx hb dX12_sign_34 (by decide) ?_
              exact x_iret (w1 := (fun u : XT => (wM cI cJ cB cZ bd u))) t_7 B h hr rfl hR dX12_sign_38
          · have hR := hR.2 c_4
            exact ih.2 t_3 li lj H locs ls hR (lv_sub hl [0, 1, 2] rfl) h
      · intro t li lj H locs ls hR hl h
        have hR : wbX12_sign_1 (wpX12_sign k) k t li lj Q := hR
        unfold wbX12_sign_1 at hR
        refine lv_ldc (v := (-2147483648)) hx hb hown (hts (.constant RX12 165 (-2147483648)) (by decide +kernel)) dX12_sign_16 ?_
        exact x_iret (w1 := (fun u : XT => (wM cI cJ cB cZ bd u))) t B h hr rfl hR dX12_sign_18
  exact (main k).1 t _ _ s.heap [] ls hR hl h
set_option maxRecDepth 20000 in
theorem ggX12_isThere_X12_isSimplex : GoodIn wsX12_isThere wsX12_isSimplex := goodIn_r _ [6, 7, 8, 9, 5, 10, 11, 12, 13, 14, 15, 16, 17, 18, 19, 20, 21, 22, 23, 24, 25, 26, 27, 28, 29, 30, 31, 32, 33, 34, 35, 36, 37, 38, 39, 40, 41] (by decide +kernel) (by decide +kernel)
set_option maxRecDepth 20000 in
theorem gX12_isThere_X12_isSimplex : GoodIn wsX12_isThere (wsV RX12 145 RX12 yX12_isSimplex wsX12_isSimplex) := goodIn_app (goodIn_of _ (by decide +kernel)) ggX12_isThere_X12_isSimplex
def wbX12_isThere_0 (rec : Nat → XT → (Nat → Int32) → (Nat → Int64) → (Int32 → XT → Prop) → Prop) (k : Nat) (t : XT) (li : Nat → Int32) (lj : Nat → Int64) (Q : Int32 → XT → Prop) : Prop :=
  (wqX12_isSimplex k t (li 1) (fun r_1 t_1 => ((r_1 = 0) → rec 1 t_1 li lj Q) ∧ (¬ (r_1 = 0) → (vp_in (li 1) 60 ∧ (∀ v_3 : Int32, v_3 = (t_1.2.2.1 5) (li 1).toNatClampNeg → ((¬ v_3 = 0) → rec 1 t_1 li lj Q) ∧ ((v_3 = 0) → Q 1 t_1))))))
def wbX12_isThere_1 (rec : Nat → XT → (Nat → Int32) → (Nat → Int64) → (Int32 → XT → Prop) → Prop) (k : Nat) (t : XT) (li : Nat → Int32) (lj : Nat → Int64) (Q : Int32 → XT → Prop) : Prop :=
  Q 0 t
def wpX12_isThere : Nat → Nat → XT → (Nat → Int32) → (Nat → Int64) → (Int32 → XT → Prop) → Prop
  | 0, _, _, _, _, _ => False
  | k + 1, 0, t, li, lj, Q => wbX12_isThere_0 (wpX12_isThere k) k t li lj Q
  | k + 1, 1, t, li, lj, Q => wbX12_isThere_1 (wpX12_isThere k) k t li lj Q
  | _ + 1, _, _, _, _, _ => False
def wqX12_isThere (k : Nat) (t : XT) (a1 : Int32) (Q : Int32 → XT → Prop) : Prop := wpX12_isThere k 0 t (uI (fun _ => 0) 1 a1) (fun _ => 0) Q
set_option maxHeartbeats 8000000 in
set_option maxRecDepth 100000 in
theorem wkX12_isThere (l : Launch) (D : va_G) (cI cJ cB cZ : ClassId) (bd : Nat → Nat) (k : Nat) (t : XT) (a1 : Int32) (Q : Int32 → XT → Prop) (hR : wqX12_isThere k t a1 Q) : MetI l yX12_isThere wsX12_isThere 2 43 0 0 D (TYS cI cJ cB cZ) (wM cI cJ cB cZ bd t) [.ref (bd 0), .int a1] (fun r u => Q r u) (fun u : XT => (wM cI cJ cB cZ bd u)) := by
  refine x_startI (ty := .boolean) (cc := cX12_isThere) (by decide) rfl (Nat.le_of_ble_eq_true rfl) ?_
  intro p e s m args below meth c A ls B hr hnm h hl
  have hx := B.1.1
  have hb := B.1.2.1
  have hml := B.1.2.2.1
  have hts := B.1.2.2.2.2
  have hown : s.vm.findClass RX12 = some m.cls := B.1.2.2.2.1
  have hin12 : ∀ w ∈ u_ws RX12 TX12 31, w ∈ wsX12_isThere := by decide +kernel
  have main : ∀ k : Nat, (∀ (t : XT) (li : Nat → Int32) (lj : Nat → Int64) (H : Heap) (locs : List Loc) (ls : Array Slot), wpX12_isThere k 0 t li lj Q → lv_has ls 2 [(0, .ref (bd 0)), (1, .int (li 1))] → Hp D A s.heap (wM cI cJ cB cZ bd t) H locs → W p l e { frames := 2, cells := 0, slots := 0, locals := 43 } s m args below meth c H locs 0 0 (MQ below (va_Qi (fun r u => Q r u) (fun u t => xEnd D ((fun u : XT => (wM cI cJ cB cZ bd u)) u) A t) A) args s 0 0 A) (F0 m 0 ls [])) ∧
      (∀ (t : XT) (li : Nat → Int32) (lj : Nat → Int64) (H : Heap) (locs : List Loc) (ls : Array Slot), wpX12_isThere k 1 t li lj Q → lv_has ls 2 [(0, .ref (bd 0)), (1, .int (li 1))] → Hp D A s.heap (wM cI cJ cB cZ bd t) H locs → W p l e { frames := 2, cells := 0, slots := 0, locals := 43 } s m args below meth c H locs 0 0 (MQ below (va_Qi (fun r u => Q r u) (fun u t => xEnd D ((fun u : XT => (wM cI cJ cB cZ bd u)) u) A t) A) args s 0 0 A) (F0 m 21 ls [])) := by
    intro k
    induction k with
    | zero => exact ⟨fun _ _ _ _ _ _ hR => False.elim hR, fun _ _ _ _ _ _ hR => False.elim hR⟩
    | succ k ih =>
      refine ⟨?_, ?_⟩
      · intro t li lj H locs ls hR hl h
        have hR : wbX12_isThere_0 (wpX12_isThere k) k t li lj Q := hR
        unfold wbX12_isThere_0 at hR
        refine lv_aload_n hx hb dX12_isThere_0 rfl (lv_at hl 0 rfl) ?_
        refine lv_iload_n hx hb dX12_isThere_1 rfl (lv_at hl 1 rfl) ?_
        refine x_cVIF (n := 1) (As := [.int (li 1)]) (rest := []) B h (wkX12_isSimplex l D cI cJ cB cZ bd k t (li 1) _ hR) ⟨⟨_, rfl⟩, by decide +kernel, Nat.le_of_ble_eq_true rfl, Nat.le_of_ble_eq_true rfl⟩ gX12_isThere_X12_isSimplex (show ((wM cI cJ cB cZ bd t) : va_W)[0]? = some (_, .inr (12, _)) from rfl) rfl rfl hl.1 rfl (Nat.le_of_ble_eq_true rfl) dX12_isThere_2 ⟨Nat.le_of_ble_eq_true rfl, Nat.le_of_ble_eq_true rfl⟩ (fun r_1 t_1 H locs hR h => ?_)
        refine lv_if_eq (tgt := 21) hx hb dX12_isThere_5 (by decide) (fun c_2 => ?_) (fun c_2 => ?_)
        · have hR := hR.1 c_2
          exact ih.2 t_1 li lj H locs ls hR (lv_sub hl [0, 1] rfl) h
        · have hR := hR.2 c_2
          refine lv_aload_n hx hb dX12_isThere_8 rfl (lv_at hl 0 rfl) ?_
          refine x_get (ci := 12) (C := RX12) (T := TX12) (N := 31) (v := .ref (bd 6)) B h hin12 0 9 rfl rfl (by decide) (by decide +kernel) rfl dX12_isThere_9 ?_
          refine lv_iload_n hx hb dX12_isThere_12 rfl (lv_at hl 1 rfl) ?_
          obtain ⟨hb_3, hR⟩ := hR
          refine va_zald (f := (t_1.2.2.1 5)) hx hb B.2.1 h.1 6 3 rfl rfl hb_3 dX12_isThere_13 ?_
          refine lv_topi (fun v_3 ev_3 => ?_)
          have hR := hR v_3 ev_3
          refine lv_if_ne (tgt := 21) hx hb dX12_isThere_14 (by decide) (fun c_4 => ?_) (fun c_4 => ?_)
          · have hR := hR.1 c_4
            exact ih.2 t_1 li lj H locs ls hR (lv_sub hl [0, 1] rfl) h
          · have hR := hR.2 c_4
            refine lv_iconst (v := 1) hx hb dX12_isThere_17 (by decide) ?_
            refine lv_goto (tgt := 22) hx hb dX12_isThere_18 (by decide) ?_
            exact x_iret (w1 := (fun u : XT => (wM cI cJ cB cZ bd u))) t_1 B h hr rfl hR dX12_isThere_22
      · intro t li lj H locs ls hR hl h
        have hR : wbX12_isThere_1 (wpX12_isThere k) k t li lj Q := hR
        unfold wbX12_isThere_1 at hR
        refine lv_iconst (v := 0) hx hb dX12_isThere_21 (by decide) ?_
        exact x_iret (w1 := (fun u : XT => (wM cI cJ cB cZ bd u))) t B h hr rfl hR dX12_isThere_22
  exact (main k).1 t _ _ s.heap [] ls hR hl h
def wbX12_isFree_0 (rec : Nat → XT → (Nat → Int32) → (Nat → Int64) → (Int32 → XT → Prop) → Prop) (k : Nat) (t : XT) (li : Nat → Int32) (lj : Nat → Int64) (Q : Int32 → XT → Prop) : Prop :=
  (vp_in (li 1) 60 ∧ (∀ v_1 : Int32, v_1 = (t.2.2.1 4) (li 1).toNatClampNeg → ((¬ v_1 = (-1)) → rec 1 t li lj Q) ∧ ((v_1 = (-1)) → (vp_in (li 2) 60 ∧ (∀ v_3 : Int32, v_3 = (t.2.2.1 4) (li 2).toNatClampNeg → ((¬ v_3 = (-1)) → rec 1 t li lj Q) ∧ ((v_3 = (-1)) → Q 1 t))))))
def wbX12_isFree_1 (rec : Nat → XT → (Nat → Int32) → (Nat → Int64) → (Int32 → XT → Prop) → Prop) (k : Nat) (t : XT) (li : Nat → Int32) (lj : Nat → Int64) (Q : Int32 → XT → Prop) : Prop :=
  Q 0 t
def wpX12_isFree : Nat → Nat → XT → (Nat → Int32) → (Nat → Int64) → (Int32 → XT → Prop) → Prop
  | 0, _, _, _, _, _ => False
  | k + 1, 0, t, li, lj, Q => wbX12_isFree_0 (wpX12_isFree k) k t li lj Q
  | k + 1, 1, t, li, lj, Q => wbX12_isFree_1 (wpX12_isFree k) k t li lj Q
  | _ + 1, _, _, _, _, _ => False
def wqX12_isFree (k : Nat) (t : XT) (a1 : Int32) (a2 : Int32) (Q : Int32 → XT → Prop) : Prop := wpX12_isFree k 0 t (uI (uI (fun _ => 0) 1 a1) 2 a2) (fun _ => 0) Q
set_option maxHeartbeats 8000000 in
set_option maxRecDepth 100000 in
theorem wkX12_isFree (l : Launch) (D : va_G) (cI cJ cB cZ : ClassId) (bd : Nat → Nat) (k : Nat) (t : XT) (a1 : Int32) (a2 : Int32) (Q : Int32 → XT → Prop) (hR : wqX12_isFree k t a1 a2 Q) : MetI l yX12_isFree wsX12_isFree 0 0 0 0 D (TYS cI cJ cB cZ) (wM cI cJ cB cZ bd t) [.ref (bd 0), .int a1, .int a2] (fun r u => Q r u) (fun u : XT => (wM cI cJ cB cZ bd u)) := by
  refine x_startI (ty := .boolean) (cc := cX12_isFree) (by decide) rfl (Nat.le_of_ble_eq_true rfl) ?_
  intro p e s m args below meth c A ls B hr hnm h hl
  have hx := B.1.1
  have hb := B.1.2.1
  have hml := B.1.2.2.1
  have hts := B.1.2.2.2.2
  have hown : s.vm.findClass RX12 = some m.cls := B.1.2.2.2.1
  have hin12 : ∀ w ∈ u_ws RX12 TX12 31, w ∈ wsX12_isFree := by decide +kernel
  have main : ∀ k : Nat, (∀ (t : XT) (li : Nat → Int32) (lj : Nat → Int64) (H : Heap) (locs : List Loc) (ls : Array Slot), wpX12_isFree k 0 t li lj Q → lv_has ls 3 [(0, .ref (bd 0)), (1, .int (li 1)), (2, .int (li 2))] → Hp D A s.heap (wM cI cJ cB cZ bd t) H locs → W p l e { frames := 0, cells := 0, slots := 0, locals := 0 } s m args below meth c H locs 0 0 (MQ below (va_Qi (fun r u => Q r u) (fun u t => xEnd D ((fun u : XT => (wM cI cJ cB cZ bd u)) u) A t) A) args s 0 0 A) (F0 m 0 ls [])) ∧
      (∀ (t : XT) (li : Nat → Int32) (lj : Nat → Int64) (H : Heap) (locs : List Loc) (ls : Array Slot), wpX12_isFree k 1 t li lj Q → lv_has ls 3 [(0, .ref (bd 0)), (1, .int (li 1)), (2, .int (li 2))] → Hp D A s.heap (wM cI cJ cB cZ bd t) H locs → W p l e { frames := 0, cells := 0, slots := 0, locals := 0 } s m args below meth c H locs 0 0 (MQ below (va_Qi (fun r u => Q r u) (fun u t => xEnd D ((fun u : XT => (wM cI cJ cB cZ bd u)) u) A t) A) args s 0 0 A) (F0 m 24 ls [])) := by
    intro k
    induction k with
    | zero => exact ⟨fun _ _ _ _ _ _ hR => False.elim hR, fun _ _ _ _ _ _ hR => False.elim hR⟩
    | succ k ih =>
      refine ⟨?_, ?_⟩
      · intro t li lj H locs ls hR hl h
        have hR : wbX12_isFree_0 (wpX12_isFree k) k t li lj Q := hR
        unfold wbX12_isFree_0 at hR
        refine lv_aload_n hx hb dX12_isFree_0 rfl (lv_at hl 0 rfl) ?_
        refine x_get (ci := 12) (C := RX12) (T := TX12) (N := 31) (v := .ref (bd 5)) B h hin12 0 8 rfl rfl (by decide) (by decide +kernel) rfl dX12_isFree_1 ?_
        refine lv_iload_n hx hb dX12_isFree_4 rfl (lv_at hl 1 rfl) ?_
        obtain ⟨hb_1, hR⟩ := hR
        refine va_iald (f := (t.2.2.1 4)) hx hb B.2.1 h.1 5 0 rfl rfl hb_1 dX12_isFree_5 ?_
        refine lv_topi (fun v_1 ev_1 => ?_)
        have hR := hR v_1 ev_1
        refine lv_iconst (v := (-1)) hx hb dX12_isFree_6 (by decide) ?_
        refine lv_icmp_ne (tgt := 24) hx hb dX12_isFree_7 (by decide) (fun c_2 => ?_) (fun c_2 => ?_)
        · have hR := hR.1 c_2
          exact ih.2 t li lj H locs ls hR (lv_sub hl [0, 1, 2] rfl) h
        · have hR := hR.2 c_2
          refine lv_aload_n hx hb dX12_isFree_10 rfl (lv_at hl 0 rfl) ?_
          refine x_get (ci := 12) (C := RX12) (T := TX12) (N := 31) (v := .ref (bd 5)) B h hin12 0 8 rfl rfl (by decide) (by decide +kernel) rfl dX12_isFree_11 ?_
          refine lv_iload_n hx hb dX12_isFree_14 rfl (lv_at hl 2 rfl) ?_
          obtain ⟨hb_3, hR⟩ := hR
          refine va_iald (f := (t.2.2.1 4)) hx hb B.2.1 h.1 5 0 rfl rfl hb_3 dX12_isFree_15 ?_
          refine lv_topi (fun v_3 ev_3 => ?_)
          have hR := hR v_3 ev_3
          refine lv_iconst (v := (-1)) hx hb dX12_isFree_16 (by decide) ?_
          refine lv_icmp_ne (tgt := 24) hx hb dX12_isFree_17 (by decide) (fun c_4 => ?_) (fun c_4 => ?_)
          · have hR := hR.1 c_4
            exact ih.2 t li lj H locs ls hR (lv_sub hl [0, 1, 2] rfl) h
          · have hR := hR.2 c_4
            refine lv_iconst (v := 1) hx hb dX12_isFree_20 (by decide) ?_
            refine lv_goto (tgt := 25) hx hb dX12_isFree_21 (by decide) ?_
            exact x_iret (w1 := (fun u : XT => (wM cI cJ cB cZ bd u))) t B h hr rfl hR dX12_isFree_25
      · intro t li lj H locs ls hR hl h
        have hR : wbX12_isFree_1 (wpX12_isFree k) k t li lj Q := hR
        unfold wbX12_isFree_1 at hR
        refine lv_iconst (v := 0) hx hb dX12_isFree_24 (by decide) ?_
        exact x_iret (w1 := (fun u : XT => (wM cI cJ cB cZ bd u))) t B h hr rfl hR dX12_isFree_25
  exact (main k).1 t _ _ s.heap [] ls hR hl h
set_option maxRecDepth 20000 in
theorem ggX12_leadsOn_X12_isFace : GoodIn wsX12_leadsOn wsX12_isFace := goodIn_r _ [8, 9, 10, 11, 12, 7, 13, 14, 15, 16, 17, 18, 19, 20, 21, 22, 23, 24, 25, 26, 27, 28, 29, 30, 31, 32, 33, 34, 35, 36, 37, 38, 39, 40, 41, 42, 43, 44, 45, 46, 47, 48, 49, 50, 51] (by decide +kernel) (by decide +kernel)
set_option maxRecDepth 20000 in
theorem gX12_leadsOn_X12_isFace : GoodIn wsX12_leadsOn (wsV RX12 152 RX12 yX12_isFace wsX12_isFace) := goodIn_app (goodIn_of _ (by decide +kernel)) ggX12_leadsOn_X12_isFace
def wbX12_leadsOn_0 (rec : Nat → XT → (Nat → Int32) → (Nat → Int64) → (Int32 → XT → Prop) → Prop) (k : Nat) (t : XT) (li : Nat → Int32) (lj : Nat → Int64) (Q : Int32 → XT → Prop) : Prop :=
  rec 1 t (uI li 2 0) lj Q
def wbX12_leadsOn_1 (rec : Nat → XT → (Nat → Int32) → (Nat → Int64) → (Int32 → XT → Prop) → Prop) (k : Nat) (t : XT) (li : Nat → Int32) (lj : Nat → Int64) (Q : Int32 → XT → Prop) : Prop :=
  ((((t.1 3) : Int32) ≤ (li 2)) → Q 0 t) ∧ (¬ (((t.1 3) : Int32) ≤ (li 2)) → (((li 2) = (li 1)) → rec 2 t li lj Q) ∧ (¬ ((li 2) = (li 1)) → (vp_in (li 2) 60 ∧ (∀ v_3 : Int32, v_3 = (t.2.2.1 7) (li 2).toNatClampNeg → ((¬ v_3 = 1) → rec 2 t li lj Q) ∧ ((v_3 = 1) → (vp_in (li 1) 60 ∧ (∀ v_5 : Int32, v_5 = (t.2.2.1 4) (li 1).toNatClampNeg → (wqX12_isFace k t (li 2) v_5 (fun r_6 t_6 => ((r_6 = 0) → rec 2 t_6 li lj Q) ∧ (¬ (r_6 = 0) → Q 1 t_6))))))))))
def wbX12_leadsOn_2 (rec : Nat → XT → (Nat → Int32) → (Nat → Int64) → (Int32 → XT → Prop) → Prop) (k : Nat) (t : XT) (li : Nat → Int32) (lj : Nat → Int64) (Q : Int32 → XT → Prop) : Prop :=
  (∀ v_8 : Int32, v_8 = (li 2) + Int32.ofInt 1 → rec 1 t (uI li 2 v_8) lj Q)
def wpX12_leadsOn : Nat → Nat → XT → (Nat → Int32) → (Nat → Int64) → (Int32 → XT → Prop) → Prop
  | 0, _, _, _, _, _ => False
  | k + 1, 0, t, li, lj, Q => wbX12_leadsOn_0 (wpX12_leadsOn k) k t li lj Q
  | k + 1, 1, t, li, lj, Q => wbX12_leadsOn_1 (wpX12_leadsOn k) k t li lj Q
  | k + 1, 2, t, li, lj, Q => wbX12_leadsOn_2 (wpX12_leadsOn k) k t li lj Q
  | _ + 1, _, _, _, _, _ => False
def wqX12_leadsOn (k : Nat) (t : XT) (a1 : Int32) (Q : Int32 → XT → Prop) : Prop := wpX12_leadsOn k 0 t (uI (fun _ => 0) 1 a1) (fun _ => 0) Q
set_option maxHeartbeats 8000000 in
set_option maxRecDepth 100000 in
theorem wkX12_leadsOn (l : Launch) (D : va_G) (cI cJ cB cZ : ClassId) (bd : Nat → Nat) (k : Nat) (t : XT) (a1 : Int32) (Q : Int32 → XT → Prop) (hR : wqX12_leadsOn k t a1 Q) : MetI l yX12_leadsOn wsX12_leadsOn 3 63 0 0 D (TYS cI cJ cB cZ) (wM cI cJ cB cZ bd t) [.ref (bd 0), .int a1] (fun r u => Q r u) (fun u : XT => (wM cI cJ cB cZ bd u)) := by
  refine x_startI (ty := .boolean) (cc := cX12_leadsOn) (by decide) rfl (Nat.le_of_ble_eq_true rfl) ?_
  intro p e s m args below meth c A ls B hr hnm h hl
  have hx := B.1.1
  have hb := B.1.2.1
  have hml := B.1.2.2.1
  have hts := B.1.2.2.2.2
  have hown : s.vm.findClass RX12 = some m.cls := B.1.2.2.2.1
  have hin12 : ∀ w ∈ u_ws RX12 TX12 31, w ∈ wsX12_leadsOn := by decide +kernel
  have main : ∀ k : Nat, (∀ (t : XT) (li : Nat → Int32) (lj : Nat → Int64) (H : Heap) (locs : List Loc) (ls : Array Slot), wpX12_leadsOn k 0 t li lj Q → lv_has ls 3 [(0, .ref (bd 0)), (1, .int (li 1))] → Hp D A s.heap (wM cI cJ cB cZ bd t) H locs → W p l e { frames := 3, cells := 0, slots := 0, locals := 63 } s m args below meth c H locs 0 0 (MQ below (va_Qi (fun r u => Q r u) (fun u t => xEnd D ((fun u : XT => (wM cI cJ cB cZ bd u)) u) A t) A) args s 0 0 A) (F0 m 0 ls [])) ∧
      (∀ (t : XT) (li : Nat → Int32) (lj : Nat → Int64) (H : Heap) (locs : List Loc) (ls : Array Slot), wpX12_leadsOn k 1 t li lj Q → lv_has ls 3 [(0, .ref (bd 0)), (1, .int (li 1)), (2, .int (li 2))] → Hp D A s.heap (wM cI cJ cB cZ bd t) H locs → W p l e { frames := 3, cells := 0, slots := 0, locals := 63 } s m args below meth c H locs 0 0 (MQ below (va_Qi (fun r u => Q r u) (fun u t => xEnd D ((fun u : XT => (wM cI cJ cB cZ bd u)) u) A t) A) args s 0 0 A) (F0 m 2 ls [])) ∧
      (∀ (t : XT) (li : Nat → Int32) (lj : Nat → Int64) (H : Heap) (locs : List Loc) (ls : Array Slot), wpX12_leadsOn k 2 t li lj Q → lv_has ls 3 [(0, .ref (bd 0)), (1, .int (li 1)), (2, .int (li 2))] → Hp D A s.heap (wM cI cJ cB cZ bd t) H locs → W p l e { frames := 3, cells := 0, slots := 0, locals := 63 } s m args below meth c H locs 0 0 (MQ below (va_Qi (fun r u => Q r u) (fun u t => xEnd D ((fun u : XT => (wM cI cJ cB cZ bd u)) u) A t) A) args s 0 0 A) (F0 m 41 ls [])) := by
    intro k
    induction k with
    | zero => exact ⟨fun _ _ _ _ _ _ hR => False.elim hR, fun _ _ _ _ _ _ hR => False.elim hR, fun _ _ _ _ _ _ hR => False.elim hR⟩
    | succ k ih =>
      refine ⟨?_, ?_, ?_⟩
      · intro t li lj H locs ls hR hl h
        have hR : wbX12_leadsOn_0 (wpX12_leadsOn k) k t li lj Q := hR
        unfold wbX12_leadsOn_0 at hR
        refine lv_iconst (v := 0) hx hb dX12_leadsOn_0 (by decide) ?_
        refine lv_istore_n (lv' := [(2, .int 0), (0, .ref (bd 0)), (1, .int (li 1))]) hx hb dX12_leadsOn_1 rfl hl (by decide) rfl (fun ls hl => ?_)
        exact ih.2.1 t (uI li 2 0) lj H locs ls hR (lv_sub hl [1, 2, 0] rfl) h
      · intro t li lj H locs ls hR hl h
        have hR : wbX12_leadsOn_1 (wpX12_leadsOn k) k t li lj Q := hR
        unfold wbX12_leadsOn_1 at hR
        refine lv_iload_n hx hb dX12_leadsOn_2 rfl (lv_at hl 2 rfl) ?_
        refine lv_aload_n hx hb dX12_leadsOn_3 rfl (lv_at hl 0 rfl) ?_
        refine x_get (ci := 12) (C := RX12) (T := TX12) (N := 31) (v := .int (t.1 3)) B h hin12 0 5 rfl rfl (by decide) (by decide +kernel) rfl dX12_leadsOn_4 ?_
        refine lv_icmp_ge (tgt := 47) hx hb dX12_leadsOn_7 (by decide) (fun c_1 => ?_) (fun c_1 => ?_)
        · have hR := hR.1 c_1
          refine lv_iconst (v := 0) hx hb dX12_leadsOn_47 (by decide) ?_
          exact x_iret (w1 := (fun u : XT => (wM cI cJ cB cZ bd u))) t B h hr rfl hR dX12_leadsOn_48
        · have hR := hR.2 c_1
          refine lv_iload_n hx hb dX12_leadsOn_10 rfl (lv_at hl 2 rfl) ?_
          refine lv_iload_n hx hb dX12_leadsOn_11 rfl (lv_at hl 1 rfl) ?_
          refine lv_icmp_eq (tgt := 41) hx hb dX12_leadsOn_12 (by decide) (fun c_2 => ?_) (fun c_2 => ?_)
          · have hR := hR.1 c_2
            exact ih.2.2 t li lj H locs ls hR (lv_sub hl [0, 1, 2] rfl) h
          · have hR := hR.2 c_2
            refine lv_aload_n hx hb dX12_leadsOn_15 rfl (lv_at hl 0 rfl) ?_
            refine x_get (ci := 12) (C := RX12) (T := TX12) (N := 31) (v := .ref (bd 8)) B h hin12 0 11 rfl rfl (by decide) (by decide +kernel) rfl dX12_leadsOn_16 ?_
            refine lv_iload_n hx hb dX12_leadsOn_19 rfl (lv_at hl 2 rfl) ?_
            obtain ⟨hb_3, hR⟩ := hR
            refine va_iald (f := (t.2.2.1 7)) hx hb B.2.1 h.1 8 0 rfl rfl hb_3 dX12_leadsOn_20 ?_
            refine lv_topi (fun v_3 ev_3 => ?_)
            have hR := hR v_3 ev_3
            refine lv_iconst (v := 1) hx hb dX12_leadsOn_21 (by decide) ?_
            refine lv_icmp_ne (tgt := 41) hx hb dX12_leadsOn_22 (by decide) (fun c_4 => ?_) (fun c_4 => ?_)
            · have hR := hR.1 c_4
              exact ih.2.2 t li lj H locs ls hR (lv_sub hl [0, 1, 2] rfl) h
            · have hR := hR.2 c_4
              refine lv_aload_n hx hb dX12_leadsOn_25 rfl (lv_at hl 0 rfl) ?_
              refine lv_iload_n hx hb dX12_leadsOn_26 rfl (lv_at hl 2 rfl) ?_
              refine lv_aload_n hx hb dX12_leadsOn_27 rfl (lv_at hl 0 rfl) ?_
              refine x_get (ci := 12) (C := RX12) (T := TX12) (N := 31) (v := .ref (bd 5)) B h hin12 0 8 rfl rfl (by decide) (by decide +kernel) rfl dX12_leadsOn_28 ?_
              refine lv_iload_n hx hb dX12_leadsOn_31 rfl (lv_at hl 1 rfl) ?_
              obtain ⟨hb_5, hR⟩ := hR
              refine va_iald (f := (t.2.2.1 4)) hx hb B.2.1 h.1 5 0 rfl rfl hb_5 dX12_leadsOn_32 ?_
              refine lv_topi (fun v_5 ev_5 => ?_)
              have hR := hR v_5 ev_5
              refine x_cVIF (n := 2) (As := [.int (li 2), .int v_5]) (rest := []) B h (wkX12_isFace l D cI cJ cB cZ bd k t (li 2) v_5 _ hR) ⟨⟨_, rfl⟩, by decide +kernel, Nat.le_of_ble_eq_true rfl, Nat.le_of_ble_eq_true rfl⟩ gX12_leadsOn_X12_isFace (show ((wM cI cJ cB cZ bd t) : va_W)[0]? = some (_, .inr (12, _)) from rfl) rfl rfl hl.1 rfl (Nat.le_of_ble_eq_true rfl) dX12_leadsOn_33 ⟨Nat.le_of_ble_eq_true rfl, Nat.le_of_ble_eq_true rfl⟩ (fun r_6 t_6 H locs hR h => ?_)
              refine lv_if_eq (tgt := 41) hx hb dX12_leadsOn_36 (by decide) (fun c_7 => ?_) (fun c_7 => ?_)
              · have hR := hR.1 c_7
                exact ih.2.2 t_6 li lj H locs ls hR (lv_sub hl [0, 1, 2] rfl) h
              · have hR := hR.2 c_7
                refine lv_iconst (v := 1) hx hb dX12_leadsOn_39 (by decide) ?_
                exact x_iret (w1 := (fun u : XT => (wM cI cJ cB cZ bd u))) t_6 B h hr rfl hR dX12_leadsOn_40
      · intro t li lj H locs ls hR hl h
        have hR : wbX12_leadsOn_2 (wpX12_leadsOn k) k t li lj Q := hR
        unfold wbX12_leadsOn_2 at hR
        obtain ⟨v_8, ev_8⟩ : ∃ v : Int32, v = (li 2) + Int32.ofInt 1 := ⟨_, rfl⟩
        have hR := hR v_8 ev_8
        refine lv_iinc (v := v_8) (lv' := [(2, .int v_8), (0, .ref (bd 0)), (1, .int (li 1))]) hx hb dX12_leadsOn_41 hl (k := 2) rfl ev_8.symm (by decide) rfl (fun ls hl => ?_)
        refine lv_goto (tgt := 2) hx hb dX12_leadsOn_44 (by decide) ?_
        exact ih.2.1 t (uI li 2 v_8) lj H locs ls hR (lv_sub hl [1, 2, 0] rfl) h
  exact (main k).1 t _ _ s.heap [] ls hR hl h
