set_option maxHeartbeats 8000000 in
set_option maxRecDepth 100000 in
theorem whole_of2 {p : Program} {e : Env} {s : State} {m : MethodId} {below : List Frame} {meth : Method} {c : Code} (l : Launch) (hflags : l.flags = flags0) {b L : Nat} {xs : Nat → Int32} (hL : L ≤ 3072) {K0 : Nat} (P : hq_point K0) {C : Nat → XT → Nat → Prop} (hC0 : C 513 tx0 0) (hDn : ∀ (n : Nat) (t : XT) (z : Nat), C (n + 1) t z → C n t z) (hC_feed : ∀ (n : Nat) (t : XT) (z : Nat) (p1 p2 p3 p4 p5 : Int32), z ≤ 160 → C (n + 1) t z → ∃ k, wqX11_feed k t p1 p2 p3 p4 p5 (fun r t' => (z + 20 ≤ 160 ∧ r = nI (z + 20) ∧ C n t' (z + 20)) ∨ (¬ z + 20 ≤ 160 ∧ r = -1 ∧ C n t' z))) (hC_end : ∀ (n : Nat) (t : XT) (z : Nat) (p1 : Int32), z ≤ 160 → C (n + 1) t z → ∃ k, wqX11_end k t p1 (fun r t' => (∃ y, y ≤ z ∧ p1 = nI y ∧ C n t' y) ∨ ((∀ y, y ≤ z → p1 ≠ nI y) ∧ C n t' z))) (hC_complex : ∀ (n : Nat) (t : XT) (z : Nat), z ≤ 160 → C (n + 1) t z → ∃ k, wqX11_complex k t  (fun r t' => C n t' 0)) (hC_simplex : ∀ (n : Nat) (t : XT) (z : Nat) (p1 p2 : Int32), C (n + 1) t z → ∃ k, wqX11_simplex k t p1 p2 (fun r t' => C n t' z)) (hC_number : ∀ (n : Nat) (t : XT) (z : Nat) (p1 : Int32), C (n + 1) t z → ∃ k, wqX11_number k t p1 (fun r t' => C n t' z)) (hC_sign : ∀ (n : Nat) (t : XT) (z : Nat) (p1 p2 : Int32), C (n + 1) t z → ∃ k, wqX11_sign k t p1 p2 (fun r t' => C n t' z)) (hC_pair : ∀ (n : Nat) (t : XT) (z : Nat) (p1 p2 : Int32), C (n + 1) t z → ∃ k, wqX11_pair k t p1 p2 (fun r t' => C n t' z)) (hC_part : ∀ (n : Nat) (t : XT) (z : Nat) (p1 : Int32), C (n + 1) t z → ∃ k, wqX11_part k t p1 (fun r t' => C n t' z)) (hC_auto : ∀ (n : Nat) (t : XT) (z : Nat) (p1 : Int32), C (n + 1) t z → ∃ k, wqX11_auto k t p1 (fun r t' => C n t' z)) (hC_cancel : ∀ (n : Nat) (t : XT) (z : Nat) (p1 p2 : Int32), C (n + 1) t z → ∃ k, wqX11_cancel k t p1 p2 (fun r t' => C n t' z)) (hC_collapse : ∀ (n : Nat) (t : XT) (z : Nat) (p1 : Int32), C (n + 1) t z → ∃ k, wqX11_collapse k t p1 (fun r t' => C n t' z)) (hC_undo : ∀ (n : Nat) (t : XT) (z : Nat), C (n + 1) t z → ∃ k, wqX11_undo k t  (fun r t' => C n t' z)) (hC_critical : ∀ (n : Nat) (t : XT) (z : Nat) (p1 p2 : Int32), C (n + 1) t z → ∃ k, wqX11_critical k t p1 p2 (fun r t' => C n t' z)) (hC_paths : ∀ (n : Nat) (t : XT) (z : Nat) (p1 p2 : Int32), C (n + 1) t z → ∃ k, wqX11_paths k t p1 p2 (fun r t' => C n t' z)) (hC_path : ∀ (n : Nat) (t : XT) (z : Nat) (p1 p2 p3 p4 : Int32), C (n + 1) t z → ∃ k, wqX11_path k t p1 p2 p3 p4 (fun r t' => C n t' z)) (hC_incidence : ∀ (n : Nat) (t : XT) (z : Nat) (p1 p2 : Int32), C (n + 1) t z → ∃ k, wqX11_incidence k t p1 p2 (fun r t' => C n t' z)) (hC_chain : ∀ (n : Nat) (t : XT) (z : Nat) (p1 p2 : Int32), C (n + 1) t z → ∃ k, wqX11_chain k t p1 p2 (fun r t' => C n t' z)) (hC_root : ∀ (n : Nat) (t : XT) (z : Nat) (p1 p2 : Int32), C (n + 1) t z → ∃ k, wqX11_root k t p1 p2 (fun r t' => C n t' z)) (hC_through : ∀ (n : Nat) (t : XT) (z : Nat) (p1 p2 p3 : Int32), C (n + 1) t z → ∃ k, wqX11_through k t p1 p2 p3 (fun r t' => C n t' z)) (hC_squares : ∀ (n : Nat) (t : XT) (z : Nat), C (n + 1) t z → ∃ k, wqX11_squares k t  (fun r t' => C n t' z)) (hC_betti : ∀ (n : Nat) (t : XT) (z : Nat) (p1 p2 : Int32), C (n + 1) t z → ∃ k, wqX11_betti k t p1 p2 (fun r t' => C n t' z)) (hC_torsion : ∀ (n : Nat) (t : XT) (z : Nat) (p1 p2 p3 : Int32), C (n + 1) t z → ∃ k, wqX11_torsion k t p1 p2 p3 (fun r t' => C n t' z)) (hC_slack : ∀ (n : Nat) (t : XT) (z : Nat) (p1 : Int32), C (n + 1) t z → ∃ k, wqX11_slack k t p1 (fun r t' => C n t' z)) (hC_free : ∀ (n : Nat) (t : XT) (z : Nat) (p1 : Int32), C (n + 1) t z → ∃ k, wqX11_free k t p1 (fun r t' => C n t' z)) (hC_facet : ∀ (n : Nat) (t : XT) (z : Nat) (p1 : Int32), C (n + 1) t z → ∃ k, wqX11_facet k t p1 (fun r t' => C n t' z)) (hC_link : ∀ (n : Nat) (t : XT) (z : Nat) (p1 p2 : Int32), C (n + 1) t z → ∃ k, wqX11_link k t p1 p2 (fun r t' => C n t' z)) (hC_room : ∀ (n : Nat) (t : XT) (z : Nat) (p1 : Int32), C (n + 1) t z → ∃ k, wqX11_room k t p1 (fun r t' => C n t' z)) (hC_draws : ∀ (n : Nat) (t : XT) (z : Nat) (p1 : Int32), C (n + 1) t z → ∃ k, wqX11_draws k t p1 (fun r t' => C n t' z)) (hC_drawn : ∀ (n : Nat) (t : XT) (z : Nat) (p1 p2 : Int32), C (n + 1) t z → ∃ k, wqX11_drawn k t p1 p2 (fun r t' => C n t' z)) (hC_level : ∀ (n : Nat) (t : XT) (z : Nat) (p1 p2 : Int32), C (n + 1) t z → ∃ k, wqX11_level k t p1 p2 (fun r t' => C n t' z)) (hC_levelBetti : ∀ (n : Nat) (t : XT) (z : Nat) (p1 p2 : Int32), C (n + 1) t z → ∃ k, wqX11_levelBetti k t p1 p2 (fun r t' => C n t' z)) (hC_keep : ∀ (n : Nat) (t : XT) (z : Nat) (p1 : Int32), C (n + 1) t z → ∃ k, wqX11_keep k t p1 (fun r t' => C n t' z)) (hC_same : ∀ (n : Nat) (t : XT) (z : Nat) (p1 : Int32), C (n + 1) t z → ∃ k, wqX11_same k t p1 (fun r t' => C n t' z)) (hC_count : ∀ (n : Nat) (t : XT) (z : Nat) (p1 : Int32), C (n + 1) t z → ∃ k, wqX11_count k t p1 (fun r t' => C n t' z)) (C0 : lw_At p s m meth c b L xs) : W p l e room_1 s m #[Value.ref b] below meth c s.heap [] 0 0 (lw_Z below #[Value.ref b] s) (entryFrame m ([Value.ref b] : List Value).toArray 4) := by
  obtain ⟨hx, hb, hr, hml, hown, hts0, hX, hbl, hlocks, hgv⟩ := id C0
  have hbA : ¬ s.heap.size ≤ b := Nat.not_le.mpr hbl
  obtain ⟨c0, i0, hk0⟩ := u_known (C := RX0) (T := TX0) (N := 4) (n := 4) hts0 inX0 (hts0 (.instantiable RX0 4) mw_1183)
  obtain ⟨c1, i1, hk1⟩ := u_known (C := RX1) (T := TX1) (N := 7) (n := 7) hts0 inX1 (hts0 (.instantiable RX1 7) mw_1185)
  obtain ⟨c2, i2, hk2⟩ := u_known (C := RX2) (T := TX2) (N := 6) (n := 6) hts0 inX2 (hts0 (.instantiable RX2 6) mw_1187)
  obtain ⟨c3, i3, hk3⟩ := u_known (C := RX3) (T := TX3) (N := 4) (n := 4) hts0 inX3 (hts0 (.instantiable RX3 4) mw_1181)
  obtain ⟨c4, i4, hk4⟩ := u_known (C := RX4) (T := TX4) (N := 2) (n := 2) hts0 inX4 (hts0 (.instantiable RX4 2) mw_1179)
  obtain ⟨c5, i5, hk5⟩ := u_known (C := RX5) (T := TX5) (N := 6) (n := 6) hts0 inX5 (hts0 (.instantiable RX5 6) mw_1218)
  obtain ⟨c6, i6, hk6⟩ := u_known (C := RX6) (T := TX6) (N := 6) (n := 6) hts0 inX6 (hts0 (.instantiable RX6 6) mw_1164)
  obtain ⟨c7, i7, hk7⟩ := u_known (C := RX7) (T := TX7) (N := 3) (n := 3) hts0 inX7 (hts0 (.instantiable RX7 3) mw_1162)
  obtain ⟨c8, i8, hk8⟩ := u_known (C := RX8) (T := TX8) (N := 3) (n := 3) hts0 inX8 (hts0 (.instantiable RX8 3) mw_1168)
  obtain ⟨c9, i9, hk9⟩ := u_known (C := RX9) (T := TX9) (N := 7) (n := 7) hts0 inX9 (hts0 (.instantiable RX9 7) mw_1166)
  obtain ⟨c10, i10, hk10⟩ := u_known (C := RX10) (T := TX10) (N := 2) (n := 2) hts0 inX10 (hts0 (.instantiable RX10 2) mw_1170)
  obtain ⟨c11, i11, hk11⟩ := u_known (C := RX11) (T := TX11) (N := 11) (n := 11) hts0 inX11 (hts0 (.instantiable RX11 11) mw_1236)
  obtain ⟨c12, i12, hk12⟩ := u_known (C := RX12) (T := TX12) (N := 31) (n := 31) hts0 inX12 (hts0 (.instantiable RX12 31) mw_1237)
  obtain ⟨dC, dI, hKc⟩ : ∃ (dC : Nat → ClassId) (dI : Nat → Nat → Nat), ∀ (k : Nat) (q : vw_C), vwCl[k]? = some q → u_Kn s q.1 q.2.1 q.2.2 (dC k) (dI k) := by
    refine ⟨fun k => match k with | 0 => c0 | 1 => c1 | 2 => c2 | 3 => c3 | 4 => c4 | 5 => c5 | 6 => c6 | 7 => c7 | 8 => c8 | 9 => c9 | 10 => c10 | 11 => c11 | _ => c12, fun k => match k with | 0 => i0 | 1 => i1 | 2 => i2 | 3 => i3 | 4 => i4 | 5 => i5 | 6 => i6 | 7 => i7 | 8 => i8 | 9 => i9 | 10 => i10 | 11 => i11 | _ => i12, ?_⟩
    intro k q hq
    match k, hq with
    | 0, hq => cases hq; exact hk0
    | 1, hq => cases hq; exact hk1
    | 2, hq => cases hq; exact hk2
    | 3, hq => cases hq; exact hk3
    | 4, hq => cases hq; exact hk4
    | 5, hq => cases hq; exact hk5
    | 6, hq => cases hq; exact hk6
    | 7, hq => cases hq; exact hk7
    | 8, hq => cases hq; exact hk8
    | 9, hq => cases hq; exact hk9
    | 10, hq => cases hq; exact hk10
    | 11, hq => cases hq; exact hk11
    | 12, hq => cases hq; exact hk12
    | k + 13, hq => simp [vwCl] at hq
  obtain ⟨cI, aI⟩ := arr_known (ty := .int) (fun C hC => by cases hC) (hts0 (.arrayClass .int) mw_1175)
  obtain ⟨cJ, aJ⟩ := arr_known (ty := .long) (fun C hC => by cases hC) (hts0 (.arrayClass .long) mw_1192)
  obtain ⟨cB, aB⟩ := arr_known (ty := .byte) (fun C hC => by cases hC) (hts0 (.arrayClass .byte) mw_1231)
  obtain ⟨cZ, aZ⟩ := arr_known (ty := .boolean) (fun C hC => by cases hC) (hts0 (.arrayClass .boolean) mw_1230)
  have hK : va_K (dC, dI) vwCl (TYS cI cJ cB cZ) s := by
    refine ⟨hKc, fun k q hq => ?_⟩
    match k, hq with
    | 0, hq => cases hq; exact aI
    | 1, hq => cases hq; exact aJ
    | 2, hq => cases hq; exact aB
    | 3, hq => cases hq; exact aZ
    | k + 4, hq => simp at hq
  have B : Bd p s m #[Value.ref b] meth c cL_law 4 lw_tbl RL (dC, dI) (TYS cI cJ cB cZ) := ⟨⟨hx, hb, hml, hown, hts0⟩, hK, hlocks, fun q hq => va_Nw.of rfl (hts0 _ (nw_in q hq))⟩
  have h : Hp (dC, dI) (fun q => s.heap.size ≤ q) s.heap [] s.heap [] := ⟨fun k q h => by simp at h, ⟨fun i j p q h => by simp at h, fun k q h => by simp at h⟩, va_S.rf, fun _ h => h⟩
  have hl := lv_entry ([.ref b]) (n := 4) (Nat.le_of_ble_eq_true rfl)
  rw [lg_entry_eq]
  generalize (lg_sl ([.ref b]) ++ List.replicate (4 - (lg_sl ([.ref b])).length) Slot.unset).toArray = ls at hl ⊢
  have hl : lv_has ls 4 [(0, .ref b)] := hl
  refine x_new (C := RX11) (T := TX11) (N := 11) (ci := 11) (fs := [.null, .null, .null, .null, .null, .null, .null, .null, .null, .null, .int 0]) B h inX11 tyX11 tyX11_ok mw_1238 mw_1236 mw_10 rfl (fun j hj => by rcases (show j = 0 ∨ j = 1 ∨ j = 2 ∨ j = 3 ∨ j = 4 ∨ j = 5 ∨ j = 6 ∨ j = 7 ∨ j = 8 ∨ j = 9 ∨ j = 10 by omega) with rfl | rfl | rfl | rfl | rfl | rfl | rfl | rfl | rfl | rfl | rfl <;> rfl) (Nat.le_of_ble_eq_true rfl) (Nat.le_of_ble_eq_true rfl) dL_law_0 (fun q0 H h => ?_)
  have h : Hp (dC, dI) (fun q => s.heap.size ≤ q) s.heap ([] ++ ([(q0, .inr (11, [.null, .null, .null, .null, .null, .null, .null, .null, .null, .null, .int 0]))] ++ [])) H _ := h
  refine lv_dup hx hb dL_law_3 rfl ?_
  refine x_cIV (n := 0) (pre := []) (wc := [(q0, .inr (11, [.null, .null, .null, .null, .null, .null, .null, .null, .null, .null, .int 0]))]) (post := []) (As := []) (rest := [.ref q0]) B h (i_X11 l (dC, dI) cI cJ cB cZ q0) ⟨⟨_, rfl⟩, by decide +kernel, Nat.le_of_ble_eq_true rfl, Nat.le_of_ble_eq_true rfl⟩ gT_X11_init mw_10 mw_1228 mw_1229 rfl rfl hl.1 rfl (Nat.le_of_ble_eq_true rfl) dL_law_4 ⟨Nat.le_of_ble_eq_true rfl, Nat.le_of_ble_eq_true rfl⟩ (fun ad H locs hp h2 => ?_)
  clear h
  have hp : ad 0 = q0 := hp
  subst hp
  have h : Hp (dC, dI) (fun q => s.heap.size ≤ q) s.heap (WX cI cJ cB cZ ad) H locs := by have h9 := h2; rw [List.nil_append, List.append_nil] at h9; exact h9
  refine lv_astore_n (lv' := [(1, .ref (ad 0)), (0, .ref b)]) hx hb dL_law_7 rfl hl (by decide) rfl (fun ls hl => ?_)
  refine x_new (C := RX12) (T := TX12) (N := 31) (ci := 12) (fs := [.null, .int 0, .int 0, .int 0, .null, .int 0, .null, .null, .null, .null, .null, .null, .null, .int 0, .null, .null, .null, .null, .int 0, .null, .null, .null, .null, .int 0, .int 0, .null, .int 0, .null, .null, .null, .null]) B h inX12 tyX12 tyX12_ok mw_1239 mw_1237 mw_16 rfl (fun j hj => by rcases (show j = 0 ∨ j = 1 ∨ j = 2 ∨ j = 3 ∨ j = 4 ∨ j = 5 ∨ j = 6 ∨ j = 7 ∨ j = 8 ∨ j = 9 ∨ j = 10 ∨ j = 11 ∨ j = 12 ∨ j = 13 ∨ j = 14 ∨ j = 15 ∨ j = 16 ∨ j = 17 ∨ j = 18 ∨ j = 19 ∨ j = 20 ∨ j = 21 ∨ j = 22 ∨ j = 23 ∨ j = 24 ∨ j = 25 ∨ j = 26 ∨ j = 27 ∨ j = 28 ∨ j = 29 ∨ j = 30 by omega) with rfl | rfl | rfl | rfl | rfl | rfl | rfl | rfl | rfl | rfl | rfl | rfl | rfl | rfl | rfl | rfl | rfl | rfl | rfl | rfl | rfl | rfl | rfl | rfl | rfl | rfl | rfl | rfl | rfl | rfl | rfl <;> rfl) (Nat.le_of_ble_eq_true rfl) (Nat.le_of_ble_eq_true rfl) dL_law_8 (fun q1 H h => ?_)
  have h : Hp (dC, dI) (fun q => s.heap.size ≤ q) s.heap (WX cI cJ cB cZ ad ++ ([(q1, .inr (12, [.null, .int 0, .int 0, .int 0, .null, .int 0, .null, .null, .null, .null, .null, .null, .null, .int 0, .null, .null, .null, .null, .int 0, .null, .null, .null, .null, .int 0, .int 0, .null, .int 0, .null, .null, .null, .null]))] ++ [])) H _ := h
  refine lv_dup hx hb dL_law_11 rfl ?_
  refine x_cIV (n := 0) (pre := WX cI cJ cB cZ ad) (wc := [(q1, .inr (12, [.null, .int 0, .int 0, .int 0, .null, .int 0, .null, .null, .null, .null, .null, .null, .null, .int 0, .null, .null, .null, .null, .int 0, .null, .null, .null, .null, .int 0, .int 0, .null, .int 0, .null, .null, .null, .null]))]) (post := []) (As := []) (rest := [.ref q1]) B h (i_X12 l (dC, dI) cI cJ cB cZ q1) ⟨⟨_, rfl⟩, by decide +kernel, Nat.le_of_ble_eq_true rfl, Nat.le_of_ble_eq_true rfl⟩ gT_X12_init mw_16 mw_1234 mw_1235 rfl rfl hl.1 rfl (Nat.le_of_ble_eq_true rfl) dL_law_12 ⟨Nat.le_of_ble_eq_true rfl, Nat.le_of_ble_eq_true rfl⟩ (fun bd H locs hp h2 => ?_)
  clear h
  have hp : bd 0 = q1 := hp
  subst hp
  have h : Hp (dC, dI) (fun q => s.heap.size ≤ q) s.heap (WX cI cJ cB cZ ad ++ WM cI cJ cB cZ bd) H locs := by have h9 := h2; rw [List.append_nil] at h9; exact h9
  refine lv_astore_n (lv' := [(2, .ref (bd 0)), (1, .ref (ad 0)), (0, .ref b)]) hx hb dL_law_15 rfl hl (by decide) rfl (fun ls hl => ?_)
  refine lv_iconst (v := 0) hx hb dL_law_16 (by decide) ?_
  refine lv_istore_n (lv' := [(3, .int 0), (2, .ref (bd 0)), (1, .ref (ad 0)), (0, .ref b)]) hx hb dL_law_17 rfl hl (by decide) rfl (fun ls hl => ?_)
  refine W.widen (k := 56) (n := 11906) (Nat.le_of_ble_eq_true rfl) (Nat.le_of_ble_eq_true rfl) ?_
  have fin : ∀ (H : Heap) (locs : List Loc) (ls : Array Slot), va_S (fun q => s.heap.size ≤ q) s.heap H locs → W p l e room_1 s m #[Value.ref b] below meth c H locs 56 11906 (lw_Z below #[Value.ref b] s) (F0 m 1192 ls []) := by
    intro H locs ls hS
    refine lv_iconst (v := 1) hx hb dL_law_1192 (by decide) ?_
    refine va_forget (fun q hq => hS.2.2 q hq) ?_
    exact lw_ret hx hb hr hlocks dL_law_1193
  have h : Hp (dC, dI) (fun q => s.heap.size ≤ q) s.heap (wX cI cJ cB cZ ad tx0 ++ wM cI cJ cB cZ bd tm0) H locs := h
  exact lc_loop2 (fun n => hj (C n)) (fun n tx tm ⟨z, a, b⟩ => ⟨z, a, hDn n tx z b⟩) B hX hbl hL (fun n => hi_feed (hC_feed n)) (fun n => hi_end (hC_end n)) (fun n => hi_complex (hC_complex n)) (fun n => hi_simplex (hC_simplex n)) (fun n => hi_number (hC_number n)) (fun n => hi_sign (hC_sign n)) (fun n => hi_pair (hC_pair n)) (fun n => hi_part (hC_part n)) (fun n => hi_auto (hC_auto n)) (fun n => hi_cancel (hC_cancel n)) (fun n => hi_collapse (hC_collapse n)) (fun n => hi_undo (hC_undo n)) (fun n => hi_critical (hC_critical n)) (fun n => hi_paths (hC_paths n)) (fun n => hi_path (hC_path n)) (fun n => hi_incidence (hC_incidence n)) (fun n => hi_chain (hC_chain n)) (fun n => hi_root (hC_root n)) (fun n => hi_through (hC_through n)) (fun n => hi_squares (hC_squares n)) (fun n => hi_betti P (hC_betti n)) (fun n => hi_torsion P (hC_torsion n)) (fun n => hi_slack P (hC_slack n)) (fun n => hi_free (hC_free n)) (fun n => hi_facet (hC_facet n)) (fun n => hi_link (hC_link n)) (fun n => hi_room (hC_room n)) (fun n => hi_draws (hC_draws n)) (fun n => hi_drawn (hC_drawn n)) (fun n => hi_level (hC_level n)) (fun n => hi_levelBetti P (hC_levelBetti n)) (fun n => hi_keep (hC_keep n)) (fun n => hi_same (hC_same n)) (fun n => hi_count (hC_count n)) fin 513 0 tx0 tm0 H locs ls (by omega) (by omega) ⟨0, hr_0, hC0⟩ h hl
