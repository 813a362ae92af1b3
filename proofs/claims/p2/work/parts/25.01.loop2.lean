set_option maxHeartbeats 8000000 in
set_option maxRecDepth 100000 in
theorem lc_loop2 {p : Program} {l : Launch} {e : Env} {s : State} {m : MethodId} {below : List Frame} {meth : Method} {c : Code} {Q : State → Prop} {D : va_G} {cI cJ cB cZ : ClassId} {ad bd : Nat → Nat} {b L : Nat} {xs : Nat → Int32} (Inv : Nat → XT → XT → Prop) (hDn : ∀ (n : Nat) (tx tm : XT), Inv (n + 1) tx tm → Inv n tx tm) (B : Bd p s m #[Value.ref b] meth c cL_law 4 lw_tbl RL D (TYS cI cJ cB cZ)) (hX : va_X b L xs s s.heap) (hbl : b < s.heap.size) (hL : L ≤ 3072) (hP_feed : ∀ (n : Nat) (tx tm : XT) (p1 p2 p3 p4 p5 : Int32), Inv (n + 1) tx tm → ∃ k, wqX11_feed k tx p1 p2 p3 p4 p5 (fun r1 tx' => ∃ k', wqX12_feed k' tm p1 p2 p3 p4 p5 (fun r2 tm' => r1 = r2 ∧ Inv n tx' tm'))) (hP_end : ∀ (n : Nat) (tx tm : XT) (p1 : Int32), Inv (n + 1) tx tm → ∃ k, wqX11_end k tx p1 (fun r1 tx' => ∃ k', wqX12_end k' tm p1 (fun r2 tm' => Inv n tx' tm'))) (hP_complex : ∀ (n : Nat) (tx tm : XT) , Inv (n + 1) tx tm → ∃ k, wqX11_complex k tx  (fun r1 tx' => ∃ k', wqX12_complex k' tm  (fun r2 tm' => Inv n tx' tm'))) (hP_simplex : ∀ (n : Nat) (tx tm : XT) (p1 p2 : Int32), Inv (n + 1) tx tm → ∃ k, wqX11_simplex k tx p1 p2 (fun r1 tx' => ∃ k', wqX12_simplex k' tm p1 p2 (fun r2 tm' => Inv n tx' tm'))) (hP_number : ∀ (n : Nat) (tx tm : XT) (p1 : Int32), Inv (n + 1) tx tm → ∃ k, wqX11_number k tx p1 (fun r1 tx' => ∃ k', wqX12_number k' tm p1 (fun r2 tm' => Inv n tx' tm'))) (hP_sign : ∀ (n : Nat) (tx tm : XT) (p1 p2 : Int32), Inv (n + 1) tx tm → ∃ k, wqX11_sign k tx p1 p2 (fun r1 tx' => ∃ k', wqX12_sign k' tm p1 p2 (fun r2 tm' => Inv n tx' tm'))) (hP_pair : ∀ (n : Nat) (tx tm : XT) (p1 p2 : Int32), Inv (n + 1) tx tm → ∃ k, wqX11_pair k tx p1 p2 (fun r1 tx' => ∃ k', wqX12_pair k' tm p1 p2 (fun r2 tm' => Inv n tx' tm'))) (hP_part : ∀ (n : Nat) (tx tm : XT) (p1 : Int32), Inv (n + 1) tx tm → ∃ k, wqX11_part k tx p1 (fun r1 tx' => ∃ k', wqX12_part k' tm p1 (fun r2 tm' => Inv n tx' tm'))) (hP_auto : ∀ (n : Nat) (tx tm : XT) (p1 : Int32), Inv (n + 1) tx tm → ∃ k, wqX11_auto k tx p1 (fun r1 tx' => ∃ k', wqX12_auto k' tm p1 (fun r2 tm' => Inv n tx' tm'))) (hP_cancel : ∀ (n : Nat) (tx tm : XT) (p1 p2 : Int32), Inv (n + 1) tx tm → ∃ k, wqX11_cancel k tx p1 p2 (fun r1 tx' => ∃ k', wqX12_cancel k' tm p1 p2 (fun r2 tm' => Inv n tx' tm'))) (hP_collapse : ∀ (n : Nat) (tx tm : XT) (p1 : Int32), Inv (n + 1) tx tm → ∃ k, wqX11_collapse k tx p1 (fun r1 tx' => ∃ k', wqX12_collapse k' tm p1 (fun r2 tm' => Inv n tx' tm'))) (hP_undo : ∀ (n : Nat) (tx tm : XT) , Inv (n + 1) tx tm → ∃ k, wqX11_undo k tx  (fun r1 tx' => ∃ k', wqX12_undo k' tm  (fun r2 tm' => Inv n tx' tm'))) (hP_critical : ∀ (n : Nat) (tx tm : XT) (p1 p2 : Int32), Inv (n + 1) tx tm → ∃ k, wqX11_critical k tx p1 p2 (fun r1 tx' => ∃ k', wqX12_critical k' tm p1 p2 (fun r2 tm' => Inv n tx' tm'))) (hP_paths : ∀ (n : Nat) (tx tm : XT) (p1 p2 : Int32), Inv (n + 1) tx tm → ∃ k, wqX11_paths k tx p1 p2 (fun r1 tx' => ∃ k', wqX12_paths k' tm p1 p2 (fun r2 tm' => Inv n tx' tm'))) (hP_path : ∀ (n : Nat) (tx tm : XT) (p1 p2 p3 p4 : Int32), Inv (n + 1) tx tm → ∃ k, wqX11_path k tx p1 p2 p3 p4 (fun r1 tx' => ∃ k', wqX12_path k' tm p1 p2 p3 p4 (fun r2 tm' => Inv n tx' tm'))) (hP_incidence : ∀ (n : Nat) (tx tm : XT) (p1 p2 : Int32), Inv (n + 1) tx tm → ∃ k, wqX11_incidence k tx p1 p2 (fun r1 tx' => ∃ k', wqX12_incidence k' tm p1 p2 (fun r2 tm' => Inv n tx' tm'))) (hP_chain : ∀ (n : Nat) (tx tm : XT) (p1 p2 : Int32), Inv (n + 1) tx tm → ∃ k, wqX11_chain k tx p1 p2 (fun r1 tx' => ∃ k', wqX12_chain k' tm p1 p2 (fun r2 tm' => Inv n tx' tm'))) (hP_root : ∀ (n : Nat) (tx tm : XT) (p1 p2 : Int32), Inv (n + 1) tx tm → ∃ k, wqX11_root k tx p1 p2 (fun r1 tx' => ∃ k', wqX12_root k' tm p1 p2 (fun r2 tm' => Inv n tx' tm'))) (hP_through : ∀ (n : Nat) (tx tm : XT) (p1 p2 p3 : Int32), Inv (n + 1) tx tm → ∃ k, wqX11_through k tx p1 p2 p3 (fun r1 tx' => ∃ k', wqX12_through k' tm p1 p2 p3 (fun r2 tm' => Inv n tx' tm'))) (hP_squares : ∀ (n : Nat) (tx tm : XT) , Inv (n + 1) tx tm → ∃ k, wqX11_squares k tx  (fun r1 tx' => ∃ k', wqX12_squares k' tm  (fun r2 tm' => Inv n tx' tm'))) (hP_betti : ∀ (n : Nat) (tx tm : XT) (p1 p2 : Int32), Inv (n + 1) tx tm → ∃ k, wqX11_betti k tx p1 p2 (fun r1 tx' => ∃ k', wqX12_betti k' tm p1 p2 (fun r2 tm' => Inv n tx' tm'))) (hP_torsion : ∀ (n : Nat) (tx tm : XT) (p1 p2 p3 : Int32), Inv (n + 1) tx tm → ∃ k, wqX11_torsion k tx p1 p2 p3 (fun r1 tx' => ∃ k', wqX12_torsion k' tm p1 p2 p3 (fun r2 tm' => Inv n tx' tm'))) (hP_slack : ∀ (n : Nat) (tx tm : XT) (p1 : Int32), Inv (n + 1) tx tm → ∃ k, wqX11_slack k tx p1 (fun r1 tx' => ∃ k', wqX12_slack k' tm p1 (fun r2 tm' => Inv n tx' tm'))) (hP_free : ∀ (n : Nat) (tx tm : XT) (p1 : Int32), Inv (n + 1) tx tm → ∃ k, wqX11_free k tx p1 (fun r1 tx' => ∃ k', wqX12_free k' tm p1 (fun r2 tm' => Inv n tx' tm'))) (hP_facet : ∀ (n : Nat) (tx tm : XT) (p1 : Int32), Inv (n + 1) tx tm → ∃ k, wqX11_facet k tx p1 (fun r1 tx' => ∃ k', wqX12_facet k' tm p1 (fun r2 tm' => Inv n tx' tm'))) (hP_link : ∀ (n : Nat) (tx tm : XT) (p1 p2 : Int32), Inv (n + 1) tx tm → ∃ k, wqX11_link k tx p1 p2 (fun r1 tx' => ∃ k', wqX12_link k' tm p1 p2 (fun r2 tm' => Inv n tx' tm'))) (hP_room : ∀ (n : Nat) (tx tm : XT) (p1 : Int32), Inv (n + 1) tx tm → ∃ k, wqX11_room k tx p1 (fun r1 tx' => ∃ k', wqX12_room k' tm p1 (fun r2 tm' => Inv n tx' tm'))) (hP_draws : ∀ (n : Nat) (tx tm : XT) (p1 : Int32), Inv (n + 1) tx tm → ∃ k, wqX11_draws k tx p1 (fun r1 tx' => ∃ k', wqX12_draws k' tm p1 (fun r2 tm' => Inv n tx' tm'))) (hP_drawn : ∀ (n : Nat) (tx tm : XT) (p1 p2 : Int32), Inv (n + 1) tx tm → ∃ k, wqX11_drawn k tx p1 p2 (fun r1 tx' => ∃ k', wqX12_drawn k' tm p1 p2 (fun r2 tm' => Inv n tx' tm'))) (hP_level : ∀ (n : Nat) (tx tm : XT) (p1 p2 : Int32), Inv (n + 1) tx tm → ∃ k, wqX11_level k tx p1 p2 (fun r1 tx' => ∃ k', wqX12_level k' tm p1 p2 (fun r2 tm' => Inv n tx' tm'))) (hP_levelBetti : ∀ (n : Nat) (tx tm : XT) (p1 p2 : Int32), Inv (n + 1) tx tm → ∃ k, wqX11_levelBetti k tx p1 p2 (fun r1 tx' => ∃ k', wqX12_levelBetti k' tm p1 p2 (fun r2 tm' => Inv n tx' tm'))) (hP_keep : ∀ (n : Nat) (tx tm : XT) (p1 : Int32), Inv (n + 1) tx tm → ∃ k, wqX11_keep k tx p1 (fun r1 tx' => ∃ k', wqX12_keep k' tm p1 (fun r2 tm' => Inv n tx' tm'))) (hP_same : ∀ (n : Nat) (tx tm : XT) (p1 : Int32), Inv (n + 1) tx tm → ∃ k, wqX11_same k tx p1 (fun r1 tx' => ∃ k', wqX12_same k' tm p1 (fun r2 tm' => Inv n tx' tm'))) (hP_count : ∀ (n : Nat) (tx tm : XT) (p1 : Int32), Inv (n + 1) tx tm → ∃ k, wqX11_count k tx p1 (fun r1 tx' => ∃ k', wqX12_count k' tm p1 (fun r2 tm' => Inv n tx' tm'))) (fin : ∀ (H : Heap) (locs : List Loc) (ls : Array Slot), va_S (fun q => s.heap.size ≤ q) s.heap H locs → W p l e room_1 s m #[Value.ref b] below meth c H locs 56 11906 Q (F0 m 1192 ls [])) :
    ∀ (n i : Nat) (tx tm : XT) (H : Heap) (locs : List Loc) (ls : Array Slot), i + 6 * n + 6 > L → i ≤ L + 6 → Inv n tx tm → Hp D (fun q => s.heap.size ≤ q) s.heap (wX cI cJ cB cZ ad tx ++ wM cI cJ cB cZ bd tm) H locs → lv_has ls 4 [(3, .int (nI i)), (2, .ref (bd 0)), (1, .ref (ad 0)), (0, .ref b)] → W p l e room_1 s m #[Value.ref b] below meth c H locs 56 11906 Q (F0 m 18 ls []) := by
  have hx := B.1.1
  have hb := B.1.2.1
  have hbA : ¬ s.heap.size ≤ b := Nat.not_le.mpr hbl
  intro n
  induction n with
  | zero =>
    intro i tx tm H locs ls hn hi hI h hl
    refine lv_iload_n hx hb dL_law_18 rfl (lv_at hl 0 rfl) ?_
    refine lv_aload_n hx hb dL_law_19 rfl (lv_at hl 3 rfl) ?_
    refine va_slen hx hb hX hbl hbA h.2.2.1 dL_law_20 ?_
    refine lv_bipush (v := 6) hx hb dL_law_21 (by decide) ?_
    refine lv_isub hx hb dL_law_23 ?_
    exact lv_icmp_gt (tgt := 1192) hx hb dL_law_24 (by decide) (fun _ => fin H locs ls h.2.2.1) (fun c_1 => absurd ((lc_gt (by omega) hL).mpr (by omega)) c_1)
  | succ n ih =>
    intro i tx tm H locs ls hn hi hI h hl
    refine lv_iload_n hx hb dL_law_18 rfl (lv_at hl 0 rfl) ?_
    refine lv_aload_n hx hb dL_law_19 rfl (lv_at hl 3 rfl) ?_
    refine va_slen hx hb hX hbl hbA h.2.2.1 dL_law_20 ?_
    refine lv_bipush (v := 6) hx hb dL_law_21 (by decide) ?_
    refine lv_isub hx hb dL_law_23 ?_
    refine lv_icmp_gt (tgt := 1192) hx hb dL_law_24 (by decide) (fun _ => fin H locs ls h.2.2.1) (fun c_1 => ?_)
    have hi6 : i + 6 ≤ L := by
      rcases Nat.lt_or_ge L (i + 6) with h6 | h6
      · exact absurd ((lc_gt (by omega) hL).mpr h6) c_1
      · exact h6
    have kk : ∀ (tx tm : XT) (H : Heap) (locs : List Loc), Inv n tx tm → Hp D (fun q => s.heap.size ≤ q) s.heap (wX cI cJ cB cZ ad tx ++ wM cI cJ cB cZ bd tm) H locs → W p l e room_1 s m #[Value.ref b] below meth c H locs 56 11906 Q (F0 m 1186 ls []) := by
      intro tx tm H locs hI h
      refine lv_iinc (v := nI (i + 6)) (lv' := [(3, .int (nI (i + 6))), (2, .ref (bd 0)), (1, .ref (ad 0)), (0, .ref b)]) hx hb dL_law_1186 hl (k := 0) rfl (nI_add i 6) (by decide) rfl (fun ls hl => ?_)
      refine lv_goto (tgt := 18) hx hb dL_law_1189 (by decide) ?_
      exact ih (i + 6) tx tm H locs ls (by omega) (by omega) hI h hl
    refine lv_aload_n hx hb dL_law_27 rfl (lv_at hl 3 rfl) ?_
    refine lv_iload_n hx hb dL_law_28 rfl (lv_at hl 0 rfl) ?_
    refine va_sld hx hb hX hbl hbA h.2.2.1 (vp_in_nI (show i < L by omega) (by omega)) dL_law_29 ?_
    refine lv_bipush (v := 63) hx hb dL_law_30 (by decide) ?_
    refine lv_iand hx hb dL_law_32 ?_
    refine lv_topi (fun v ev => ?_)
    clear ev
    rcases sw_cases v 0 33 34 (by decide) with c_2 | ⟨j, hj, ej⟩
    · skip
      refine lv_tableOut (tgt := 1186) hx hb dL_law_33 c_2 (by decide) ?_
      exact kk tx tm H locs (hDn n tx tm hI) h
    · skip
      rcases (show j = 0 ∨ j = 1 ∨ j = 2 ∨ j = 3 ∨ j = 4 ∨ j = 5 ∨ j = 6 ∨ j = 7 ∨ j = 8 ∨ j = 9 ∨ j = 10 ∨ j = 11 ∨ j = 12 ∨ j = 13 ∨ j = 14 ∨ j = 15 ∨ j = 16 ∨ j = 17 ∨ j = 18 ∨ j = 19 ∨ j = 20 ∨ j = 21 ∨ j = 22 ∨ j = 23 ∨ j = 24 ∨ j = 25 ∨ j = 26 ∨ j = 27 ∨ j = 28 ∨ j = 29 ∨ j = 30 ∨ j = 31 ∨ j = 32 ∨ j = 33 by omega) with rfl | rfl | rfl | rfl | rfl | rfl | rfl | rfl | rfl | rfl | rfl | rfl | rfl | rfl | rfl | rfl | rfl | rfl | rfl | rfl | rfl | rfl | rfl | rfl | rfl | rfl | rfl | rfl | rfl | rfl | rfl | rfl | rfl | rfl
      · skip
        obtain rfl : v = 0 := ej.trans (by decide)
        refine lv_tableIn (off := 151) (tgt := 184) hx hb dL_law_33 (by decide) (by decide) (by decide) (by decide) ?_
        exact lc_feed (Inv n) B hX hbl hL hi6 h hl (hP_feed n tx tm (xs (i + 1)) (xs (i + 2)) (xs (i + 3)) (xs (i + 4)) (xs (i + 5)) hI) kk
      · skip
        obtain rfl : v = 1 := ej.trans (by decide)
        refine lv_tableIn (off := 214) (tgt := 247) hx hb dL_law_33 (by decide) (by decide) (by decide) (by decide) ?_
        exact lc_end (Inv n) B hX hbl hL hi6 h hl (hP_end n tx tm (xs (i + 1)) hI) kk
      · skip
        obtain rfl : v = 2 := ej.trans (by decide)
        refine lv_tableIn (off := 237) (tgt := 270) hx hb dL_law_33 (by decide) (by decide) (by decide) (by decide) ?_
        exact lc_complex (Inv n) B hX hbl hL hi6 h hl (hP_complex n tx tm  hI) kk
      · skip
        obtain rfl : v = 3 := ej.trans (by decide)
        refine lv_tableIn (off := 250) (tgt := 283) hx hb dL_law_33 (by decide) (by decide) (by decide) (by decide) ?_
        exact lc_simplex (Inv n) B hX hbl hL hi6 h hl (hP_simplex n tx tm (xs (i + 1)) (xs (i + 2)) hI) kk
      · skip
        obtain rfl : v = 4 := ej.trans (by decide)
        refine lv_tableIn (off := 283) (tgt := 316) hx hb dL_law_33 (by decide) (by decide) (by decide) (by decide) ?_
        exact lc_number (Inv n) B hX hbl hL hi6 h hl (hP_number n tx tm (xs (i + 1)) hI) kk
      · skip
        obtain rfl : v = 5 := ej.trans (by decide)
        refine lv_tableIn (off := 306) (tgt := 339) hx hb dL_law_33 (by decide) (by decide) (by decide) (by decide) ?_
        exact lc_sign (Inv n) B hX hbl hL hi6 h hl (hP_sign n tx tm (xs (i + 1)) (xs (i + 2)) hI) kk
      · skip
        obtain rfl : v = 6 := ej.trans (by decide)
        refine lv_tableIn (off := 339) (tgt := 372) hx hb dL_law_33 (by decide) (by decide) (by decide) (by decide) ?_
        exact lc_pair (Inv n) B hX hbl hL hi6 h hl (hP_pair n tx tm (xs (i + 1)) (xs (i + 2)) hI) kk
      · skip
        obtain rfl : v = 7 := ej.trans (by decide)
        refine lv_tableIn (off := 372) (tgt := 405) hx hb dL_law_33 (by decide) (by decide) (by decide) (by decide) ?_
        exact lc_part (Inv n) B hX hbl hL hi6 h hl (hP_part n tx tm (xs (i + 1)) hI) kk
      · skip
        obtain rfl : v = 8 := ej.trans (by decide)
        refine lv_tableIn (off := 395) (tgt := 428) hx hb dL_law_33 (by decide) (by decide) (by decide) (by decide) ?_
        exact lc_auto (Inv n) B hX hbl hL hi6 h hl (hP_auto n tx tm (xs (i + 1)) hI) kk
      · skip
        obtain rfl : v = 9 := ej.trans (by decide)
        refine lv_tableIn (off := 418) (tgt := 451) hx hb dL_law_33 (by decide) (by decide) (by decide) (by decide) ?_
        exact lc_cancel (Inv n) B hX hbl hL hi6 h hl (hP_cancel n tx tm (xs (i + 1)) (xs (i + 2)) hI) kk
      · skip
        obtain rfl : v = 10 := ej.trans (by decide)
        refine lv_tableIn (off := 451) (tgt := 484) hx hb dL_law_33 (by decide) (by decide) (by decide) (by decide) ?_
        exact lc_collapse (Inv n) B hX hbl hL hi6 h hl (hP_collapse n tx tm (xs (i + 1)) hI) kk
      · skip
        obtain rfl : v = 11 := ej.trans (by decide)
        refine lv_tableIn (off := 474) (tgt := 507) hx hb dL_law_33 (by decide) (by decide) (by decide) (by decide) ?_
        exact lc_undo (Inv n) B hX hbl hL hi6 h hl (hP_undo n tx tm  hI) kk
      · skip
        obtain rfl : v = 12 := ej.trans (by decide)
        refine lv_tableIn (off := 487) (tgt := 520) hx hb dL_law_33 (by decide) (by decide) (by decide) (by decide) ?_
        exact lc_critical (Inv n) B hX hbl hL hi6 h hl (hP_critical n tx tm (xs (i + 1)) (xs (i + 2)) hI) kk
      · skip
        obtain rfl : v = 13 := ej.trans (by decide)
        refine lv_tableIn (off := 520) (tgt := 553) hx hb dL_law_33 (by decide) (by decide) (by decide) (by decide) ?_
        exact lc_paths (Inv n) B hX hbl hL hi6 h hl (hP_paths n tx tm (xs (i + 1)) (xs (i + 2)) hI) kk
      · skip
        obtain rfl : v = 14 := ej.trans (by decide)
        refine lv_tableIn (off := 553) (tgt := 586) hx hb dL_law_33 (by decide) (by decide) (by decide) (by decide) ?_
        exact lc_path (Inv n) B hX hbl hL hi6 h hl (hP_path n tx tm (xs (i + 1)) (xs (i + 2)) (xs (i + 3)) (xs (i + 4)) hI) kk
      · skip
        obtain rfl : v = 15 := ej.trans (by decide)
        refine lv_tableIn (off := 606) (tgt := 639) hx hb dL_law_33 (by decide) (by decide) (by decide) (by decide) ?_
        exact lc_incidence (Inv n) B hX hbl hL hi6 h hl (hP_incidence n tx tm (xs (i + 1)) (xs (i + 2)) hI) kk
      · skip
        obtain rfl : v = 16 := ej.trans (by decide)
        refine lv_tableIn (off := 639) (tgt := 672) hx hb dL_law_33 (by decide) (by decide) (by decide) (by decide) ?_
        exact lc_chain (Inv n) B hX hbl hL hi6 h hl (hP_chain n tx tm (xs (i + 1)) (xs (i + 2)) hI) kk
      · skip
        obtain rfl : v = 17 := ej.trans (by decide)
        refine lv_tableIn (off := 672) (tgt := 705) hx hb dL_law_33 (by decide) (by decide) (by decide) (by decide) ?_
        exact lc_root (Inv n) B hX hbl hL hi6 h hl (hP_root n tx tm (xs (i + 1)) (xs (i + 2)) hI) kk
      · skip
        obtain rfl : v = 18 := ej.trans (by decide)
        refine lv_tableIn (off := 705) (tgt := 738) hx hb dL_law_33 (by decide) (by decide) (by decide) (by decide) ?_
        exact lc_through (Inv n) B hX hbl hL hi6 h hl (hP_through n tx tm (xs (i + 1)) (xs (i + 2)) (xs (i + 3)) hI) kk
      · skip
        obtain rfl : v = 19 := ej.trans (by decide)
        refine lv_tableIn (off := 748) (tgt := 781) hx hb dL_law_33 (by decide) (by decide) (by decide) (by decide) ?_
        exact lc_squares (Inv n) B hX hbl hL hi6 h hl (hP_squares n tx tm  hI) kk
      · skip
        obtain rfl : v = 20 := ej.trans (by decide)
        refine lv_tableIn (off := 761) (tgt := 794) hx hb dL_law_33 (by decide) (by decide) (by decide) (by decide) ?_
        exact lc_betti (Inv n) B hX hbl hL hi6 h hl (hP_betti n tx tm (xs (i + 1)) (xs (i + 2)) hI) kk
      · skip
        obtain rfl : v = 21 := ej.trans (by decide)
        refine lv_tableIn (off := 794) (tgt := 827) hx hb dL_law_33 (by decide) (by decide) (by decide) (by decide) ?_
        exact lc_torsion (Inv n) B hX hbl hL hi6 h hl (hP_torsion n tx tm (xs (i + 1)) (xs (i + 2)) (xs (i + 3)) hI) kk
      · skip
        obtain rfl : v = 22 := ej.trans (by decide)
        refine lv_tableIn (off := 837) (tgt := 870) hx hb dL_law_33 (by decide) (by decide) (by decide) (by decide) ?_
        exact lc_slack (Inv n) B hX hbl hL hi6 h hl (hP_slack n tx tm (xs (i + 1)) hI) kk
      · skip
        obtain rfl : v = 23 := ej.trans (by decide)
        refine lv_tableIn (off := 860) (tgt := 893) hx hb dL_law_33 (by decide) (by decide) (by decide) (by decide) ?_
        exact lc_free (Inv n) B hX hbl hL hi6 h hl (hP_free n tx tm (xs (i + 1)) hI) kk
      · skip
        obtain rfl : v = 24 := ej.trans (by decide)
        refine lv_tableIn (off := 883) (tgt := 916) hx hb dL_law_33 (by decide) (by decide) (by decide) (by decide) ?_
        exact lc_facet (Inv n) B hX hbl hL hi6 h hl (hP_facet n tx tm (xs (i + 1)) hI) kk
      · skip
        obtain rfl : v = 25 := ej.trans (by decide)
        refine lv_tableIn (off := 906) (tgt := 939) hx hb dL_law_33 (by decide) (by decide) (by decide) (by decide) ?_
        exact lc_link (Inv n) B hX hbl hL hi6 h hl (hP_link n tx tm (xs (i + 1)) (xs (i + 2)) hI) kk
      · skip
        obtain rfl : v = 26 := ej.trans (by decide)
        refine lv_tableIn (off := 939) (tgt := 972) hx hb dL_law_33 (by decide) (by decide) (by decide) (by decide) ?_
        exact lc_room (Inv n) B hX hbl hL hi6 h hl (hP_room n tx tm (xs (i + 1)) hI) kk
      · skip
        obtain rfl : v = 27 := ej.trans (by decide)
        refine lv_tableIn (off := 962) (tgt := 995) hx hb dL_law_33 (by decide) (by decide) (by decide) (by decide) ?_
        exact lc_draws (Inv n) B hX hbl hL hi6 h hl (hP_draws n tx tm (xs (i + 1)) hI) kk
      · skip
        obtain rfl : v = 28 := ej.trans (by decide)
        refine lv_tableIn (off := 985) (tgt := 1018) hx hb dL_law_33 (by decide) (by decide) (by decide) (by decide) ?_
        exact lc_drawn (Inv n) B hX hbl hL hi6 h hl (hP_drawn n tx tm (xs (i + 1)) (xs (i + 2)) hI) kk
      · skip
        obtain rfl : v = 29 := ej.trans (by decide)
        refine lv_tableIn (off := 1018) (tgt := 1051) hx hb dL_law_33 (by decide) (by decide) (by decide) (by decide) ?_
        exact lc_level (Inv n) B hX hbl hL hi6 h hl (hP_level n tx tm (xs (i + 1)) (xs (i + 2)) hI) kk
      · skip
        obtain rfl : v = 30 := ej.trans (by decide)
        refine lv_tableIn (off := 1051) (tgt := 1084) hx hb dL_law_33 (by decide) (by decide) (by decide) (by decide) ?_
        exact lc_levelBetti (Inv n) B hX hbl hL hi6 h hl (hP_levelBetti n tx tm (xs (i + 1)) (xs (i + 2)) hI) kk
      · skip
        obtain rfl : v = 31 := ej.trans (by decide)
        refine lv_tableIn (off := 1084) (tgt := 1117) hx hb dL_law_33 (by decide) (by decide) (by decide) (by decide) ?_
        exact lc_keep (Inv n) B hX hbl hL hi6 h hl (hP_keep n tx tm (xs (i + 1)) hI) kk
      · skip
        obtain rfl : v = 32 := ej.trans (by decide)
        refine lv_tableIn (off := 1107) (tgt := 1140) hx hb dL_law_33 (by decide) (by decide) (by decide) (by decide) ?_
        exact lc_same (Inv n) B hX hbl hL hi6 h hl (hP_same n tx tm (xs (i + 1)) hI) kk
      · skip
        obtain rfl : v = 33 := ej.trans (by decide)
        refine lv_tableIn (off := 1130) (tgt := 1163) hx hb dL_law_33 (by decide) (by decide) (by decide) (by decide) ?_
        exact lc_count (Inv n) B hX hbl hL hi6 h hl (hP_count n tx tm (xs (i + 1)) hI) kk
