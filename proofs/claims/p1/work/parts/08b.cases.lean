theorem hp_nil {D : va_G} {A : Nat → Prop} {H0 H : Heap} {w w2 : va_W} {locs : List Loc} (h : Hp D A H0 ([] ++ (w ++ w2)) H locs) : Hp D A H0 (w ++ (w2 ++ [])) H locs := by
  rw [List.append_nil]
  exact h
set_option maxHeartbeats 4000000 in
set_option maxRecDepth 100000 in
theorem law_feed {p : Program} {l : Launch} {e : Env} {s : State} {m : MethodId} {below : List Frame} {meth : Method} {c : Code} {Q : State → Prop} {D : va_G} {cI cJ cB cZ : ClassId} {ad bd : Nat → Nat} {b : Nat} {xs : Nat → Int32} {H : Heap} {locs : List Loc} {ls : Array Slot} (B : Bd p s m #[Value.ref b] meth c cL_law 4 lw_tbl RL D (TYS cI cJ cB cZ)) (hX : va_X b 6 xs s s.heap) (hbl : b < s.heap.size) (h : Hp D (fun q => s.heap.size ≤ q) s.heap (WX cI cJ cB cZ ad ++ WM cI cJ cB cZ bd) H locs) (hl : lv_has ls 4 [(3, .int 0), (2, .ref (bd 0)), (1, .ref (ad 0)), (0, .ref b)]) (kk : ∀ (H : Heap) (locs : List Loc), va_S (fun q => s.heap.size ≤ q) s.heap H locs → W p l e room_1 s m #[Value.ref b] below meth c H locs 56 11906 Q (F0 m 1191 ls [])) : W p l e room_1 s m #[Value.ref b] below meth c H locs 56 11906 Q (F0 m 184 ls []) := by
  have hx := B.1.1
  have hb := B.1.2.1
  have hbA : ¬ s.heap.size ≤ b := Nat.not_le.mpr hbl
  refine lv_aload_n hx hb dL_law_184 rfl (lv_at hl 2 rfl) ?_
  refine lv_aload_n hx hb dL_law_185 rfl (lv_at hl 3 rfl) ?_
  refine lv_iload_n hx hb dL_law_186 rfl (lv_at hl 0 rfl) ?_
  refine lv_iconst (v := 1) hx hb dL_law_187 (by decide) ?_
  refine lv_iadd hx hb dL_law_188 ?_
  refine lv_topi (fun v_188 ev_188 => ?_)
  obtain rfl : v_188 = 1 := ev_188.trans (by decide)
  refine va_sld hx hb hX hbl hbA h.2.2.1 (vp_in_iff.mpr (by decide)) dL_law_189 ?_
  refine lv_aload_n hx hb dL_law_190 rfl (lv_at hl 3 rfl) ?_
  refine lv_iload_n hx hb dL_law_191 rfl (lv_at hl 0 rfl) ?_
  refine lv_iconst (v := 2) hx hb dL_law_192 (by decide) ?_
  refine lv_iadd hx hb dL_law_193 ?_
  refine lv_topi (fun v_193 ev_193 => ?_)
  obtain rfl : v_193 = 2 := ev_193.trans (by decide)
  refine va_sld hx hb hX hbl hbA h.2.2.1 (vp_in_iff.mpr (by decide)) dL_law_194 ?_
  refine lv_aload_n hx hb dL_law_195 rfl (lv_at hl 3 rfl) ?_
  refine lv_iload_n hx hb dL_law_196 rfl (lv_at hl 0 rfl) ?_
  refine lv_iconst (v := 3) hx hb dL_law_197 (by decide) ?_
  refine lv_iadd hx hb dL_law_198 ?_
  refine lv_topi (fun v_198 ev_198 => ?_)
  obtain rfl : v_198 = 3 := ev_198.trans (by decide)
  refine va_sld hx hb hX hbl hbA h.2.2.1 (vp_in_iff.mpr (by decide)) dL_law_199 ?_
  refine lv_aload_n hx hb dL_law_200 rfl (lv_at hl 3 rfl) ?_
  refine lv_iload_n hx hb dL_law_201 rfl (lv_at hl 0 rfl) ?_
  refine lv_iconst (v := 4) hx hb dL_law_202 (by decide) ?_
  refine lv_iadd hx hb dL_law_203 ?_
  refine lv_topi (fun v_203 ev_203 => ?_)
  obtain rfl : v_203 = 4 := ev_203.trans (by decide)
  refine va_sld hx hb hX hbl hbA h.2.2.1 (vp_in_iff.mpr (by decide)) dL_law_204 ?_
  refine lv_aload_n hx hb dL_law_205 rfl (lv_at hl 3 rfl) ?_
  refine lv_iload_n hx hb dL_law_206 rfl (lv_at hl 0 rfl) ?_
  refine lv_iconst (v := 5) hx hb dL_law_207 (by decide) ?_
  refine lv_iadd hx hb dL_law_208 ?_
  refine lv_topi (fun v_208 ev_208 => ?_)
  obtain rfl : v_208 = 5 := ev_208.trans (by decide)
  refine va_sld hx hb hX hbl hbA h.2.2.1 (vp_in_iff.mpr (by decide)) dL_law_209 ?_
  have h : Hp D (fun q => s.heap.size ≤ q) s.heap ([] ++ (WX cI cJ cB cZ ad ++ WM cI cJ cB cZ bd)) H locs := h
  refine x_cVI (n := 5) (pre := []) (post := WM cI cJ cB cZ bd) (wc := WX cI cJ cB cZ ad) (As := [.int (xs (Int32.toNatClampNeg 1)), .int (xs (Int32.toNatClampNeg 2)), .int (xs (Int32.toNatClampNeg 3)), .int (xs (Int32.toNatClampNeg 4)), .int (xs (Int32.toNatClampNeg 5))]) (rest := []) B h (k5_X11_feed l D cI cJ cB cZ ad bd (xs (Int32.toNatClampNeg 1)) (xs (Int32.toNatClampNeg 2)) (xs (Int32.toNatClampNeg 3)) (xs (Int32.toNatClampNeg 4)) (xs (Int32.toNatClampNeg 5))) ⟨⟨_, rfl⟩, by decide +kernel, Nat.le_of_ble_eq_true rfl, Nat.le_of_ble_eq_true rfl⟩ gT_X11_feed (show (WX cI cJ cB cZ ad)[0]? = some (ad 0, .inr (11, _)) from rfl) rfl rfl hl.1 rfl (Nat.le_of_ble_eq_true rfl) dL_law_210 ⟨Nat.le_of_ble_eq_true rfl, Nat.le_of_ble_eq_true rfl⟩ (fun r_1 u_1 H locs hp_1 h => ?_)
  refine lv_aload_n hx hb dL_law_213 rfl (lv_at hl 1 rfl) ?_
  refine lv_aload_n hx hb dL_law_214 rfl (lv_at hl 3 rfl) ?_
  refine lv_iload_n hx hb dL_law_215 rfl (lv_at hl 0 rfl) ?_
  refine lv_iconst (v := 1) hx hb dL_law_216 (by decide) ?_
  refine lv_iadd hx hb dL_law_217 ?_
  refine lv_topi (fun v_217 ev_217 => ?_)
  obtain rfl : v_217 = 1 := ev_217.trans (by decide)
  refine va_sld hx hb hX hbl hbA h.2.2.1 (vp_in_iff.mpr (by decide)) dL_law_218 ?_
  refine lv_aload_n hx hb dL_law_219 rfl (lv_at hl 3 rfl) ?_
  refine lv_iload_n hx hb dL_law_220 rfl (lv_at hl 0 rfl) ?_
  refine lv_iconst (v := 2) hx hb dL_law_221 (by decide) ?_
  refine lv_iadd hx hb dL_law_222 ?_
  refine lv_topi (fun v_222 ev_222 => ?_)
  obtain rfl : v_222 = 2 := ev_222.trans (by decide)
  refine va_sld hx hb hX hbl hbA h.2.2.1 (vp_in_iff.mpr (by decide)) dL_law_223 ?_
  refine lv_aload_n hx hb dL_law_224 rfl (lv_at hl 3 rfl) ?_
  refine lv_iload_n hx hb dL_law_225 rfl (lv_at hl 0 rfl) ?_
  refine lv_iconst (v := 3) hx hb dL_law_226 (by decide) ?_
  refine lv_iadd hx hb dL_law_227 ?_
  refine lv_topi (fun v_227 ev_227 => ?_)
  obtain rfl : v_227 = 3 := ev_227.trans (by decide)
  refine va_sld hx hb hX hbl hbA h.2.2.1 (vp_in_iff.mpr (by decide)) dL_law_228 ?_
  refine lv_aload_n hx hb dL_law_229 rfl (lv_at hl 3 rfl) ?_
  refine lv_iload_n hx hb dL_law_230 rfl (lv_at hl 0 rfl) ?_
  refine lv_iconst (v := 4) hx hb dL_law_231 (by decide) ?_
  refine lv_iadd hx hb dL_law_232 ?_
  refine lv_topi (fun v_232 ev_232 => ?_)
  obtain rfl : v_232 = 4 := ev_232.trans (by decide)
  refine va_sld hx hb hX hbl hbA h.2.2.1 (vp_in_iff.mpr (by decide)) dL_law_233 ?_
  refine lv_aload_n hx hb dL_law_234 rfl (lv_at hl 3 rfl) ?_
  refine lv_iload_n hx hb dL_law_235 rfl (lv_at hl 0 rfl) ?_
  refine lv_iconst (v := 5) hx hb dL_law_236 (by decide) ?_
  refine lv_iadd hx hb dL_law_237 ?_
  refine lv_topi (fun v_237 ev_237 => ?_)
  obtain rfl : v_237 = 5 := ev_237.trans (by decide)
  refine va_sld hx hb hX hbl hbA h.2.2.1 (vp_in_iff.mpr (by decide)) dL_law_238 ?_
  have h := hp_nil h
  refine x_cVI (n := 5) (post := []) (wc := WM cI cJ cB cZ bd) (As := [.int (xs (Int32.toNatClampNeg 1)), .int (xs (Int32.toNatClampNeg 2)), .int (xs (Int32.toNatClampNeg 3)), .int (xs (Int32.toNatClampNeg 4)), .int (xs (Int32.toNatClampNeg 5))]) (rest := [.int r_1]) B h (k11_X12_feed l D cI cJ cB cZ ad bd (xs (Int32.toNatClampNeg 1)) (xs (Int32.toNatClampNeg 2)) (xs (Int32.toNatClampNeg 3)) (xs (Int32.toNatClampNeg 4)) (xs (Int32.toNatClampNeg 5))) ⟨⟨_, rfl⟩, by decide +kernel, Nat.le_of_ble_eq_true rfl, Nat.le_of_ble_eq_true rfl⟩ gT_X12_feed (show (WM cI cJ cB cZ bd)[0]? = some (bd 0, .inr (12, _)) from rfl) rfl rfl hl.1 rfl (Nat.le_of_ble_eq_true rfl) dL_law_239 ⟨Nat.le_of_ble_eq_true rfl, Nat.le_of_ble_eq_true rfl⟩ (fun r_2 u_2 H locs hp_2 h => ?_)
  exact lv_icmp_eq (tgt := 1191) hx hb dL_law_242 (by decide) (fun _ => kk H locs h.2.2.1) (fun c_1 => absurd (eq_feed (xs (Int32.toNatClampNeg 1)) (xs (Int32.toNatClampNeg 2)) (xs (Int32.toNatClampNeg 3)) (xs (Int32.toNatClampNeg 4)) (xs (Int32.toNatClampNeg 5)) r_1 r_2 u_1 u_2 hp_1 hp_2) c_1)
set_option maxHeartbeats 4000000 in
set_option maxRecDepth 100000 in
theorem law_end {p : Program} {l : Launch} {e : Env} {s : State} {m : MethodId} {below : List Frame} {meth : Method} {c : Code} {Q : State → Prop} {D : va_G} {cI cJ cB cZ : ClassId} {ad bd : Nat → Nat} {b : Nat} {xs : Nat → Int32} {H : Heap} {locs : List Loc} {ls : Array Slot} (B : Bd p s m #[Value.ref b] meth c cL_law 4 lw_tbl RL D (TYS cI cJ cB cZ)) (hX : va_X b 6 xs s s.heap) (hbl : b < s.heap.size) (h : Hp D (fun q => s.heap.size ≤ q) s.heap (WX cI cJ cB cZ ad ++ WM cI cJ cB cZ bd) H locs) (hl : lv_has ls 4 [(3, .int 0), (2, .ref (bd 0)), (1, .ref (ad 0)), (0, .ref b)]) (kk : ∀ (H : Heap) (locs : List Loc), va_S (fun q => s.heap.size ≤ q) s.heap H locs → W p l e room_1 s m #[Value.ref b] below meth c H locs 56 11906 Q (F0 m 1191 ls [])) : W p l e room_1 s m #[Value.ref b] below meth c H locs 56 11906 Q (F0 m 247 ls []) := by
  have hx := B.1.1
  have hb := B.1.2.1
  have hbA : ¬ s.heap.size ≤ b := Nat.not_le.mpr hbl
  refine lv_aload_n hx hb dL_law_247 rfl (lv_at hl 2 rfl) ?_
  refine lv_aload_n hx hb dL_law_248 rfl (lv_at hl 3 rfl) ?_
  refine lv_iload_n hx hb dL_law_249 rfl (lv_at hl 0 rfl) ?_
  refine lv_iconst (v := 1) hx hb dL_law_250 (by decide) ?_
  refine lv_iadd hx hb dL_law_251 ?_
  refine lv_topi (fun v_251 ev_251 => ?_)
  obtain rfl : v_251 = 1 := ev_251.trans (by decide)
  refine va_sld hx hb hX hbl hbA h.2.2.1 (vp_in_iff.mpr (by decide)) dL_law_252 ?_
  have h : Hp D (fun q => s.heap.size ≤ q) s.heap ([] ++ (WX cI cJ cB cZ ad ++ WM cI cJ cB cZ bd)) H locs := h
  refine x_cVI (n := 1) (pre := []) (post := WM cI cJ cB cZ bd) (wc := WX cI cJ cB cZ ad) (As := [.int (xs (Int32.toNatClampNeg 1))]) (rest := []) B h (k12_X11_end l D cI cJ cB cZ ad bd (xs (Int32.toNatClampNeg 1))) ⟨⟨_, rfl⟩, by decide +kernel, Nat.le_of_ble_eq_true rfl, Nat.le_of_ble_eq_true rfl⟩ gT_X11_end (show (WX cI cJ cB cZ ad)[0]? = some (ad 0, .inr (11, _)) from rfl) rfl rfl hl.1 rfl (Nat.le_of_ble_eq_true rfl) dL_law_253 ⟨Nat.le_of_ble_eq_true rfl, Nat.le_of_ble_eq_true rfl⟩ (fun r_1 u_1 H locs hp_1 h => ?_)
  refine lv_aload_n hx hb dL_law_256 rfl (lv_at hl 1 rfl) ?_
  refine lv_aload_n hx hb dL_law_257 rfl (lv_at hl 3 rfl) ?_
  refine lv_iload_n hx hb dL_law_258 rfl (lv_at hl 0 rfl) ?_
  refine lv_iconst (v := 1) hx hb dL_law_259 (by decide) ?_
  refine lv_iadd hx hb dL_law_260 ?_
  refine lv_topi (fun v_260 ev_260 => ?_)
  obtain rfl : v_260 = 1 := ev_260.trans (by decide)
  refine va_sld hx hb hX hbl hbA h.2.2.1 (vp_in_iff.mpr (by decide)) dL_law_261 ?_
  have h := hp_nil h
  refine x_cVI (n := 1) (post := []) (wc := WM cI cJ cB cZ bd) (As := [.int (xs (Int32.toNatClampNeg 1))]) (rest := [.int r_1]) B h (k13_X12_end l D cI cJ cB cZ ad bd (xs (Int32.toNatClampNeg 1))) ⟨⟨_, rfl⟩, by decide +kernel, Nat.le_of_ble_eq_true rfl, Nat.le_of_ble_eq_true rfl⟩ gT_X12_end (show (WM cI cJ cB cZ bd)[0]? = some (bd 0, .inr (12, _)) from rfl) rfl rfl hl.1 rfl (Nat.le_of_ble_eq_true rfl) dL_law_262 ⟨Nat.le_of_ble_eq_true rfl, Nat.le_of_ble_eq_true rfl⟩ (fun r_2 u_2 H locs hp_2 h => ?_)
  exact lv_icmp_eq (tgt := 1191) hx hb dL_law_265 (by decide) (fun _ => kk H locs h.2.2.1) (fun c_1 => absurd (eq_end (xs (Int32.toNatClampNeg 1)) r_1 r_2 u_1 u_2 hp_1 hp_2) c_1)
set_option maxHeartbeats 4000000 in
set_option maxRecDepth 100000 in
theorem law_complex {p : Program} {l : Launch} {e : Env} {s : State} {m : MethodId} {below : List Frame} {meth : Method} {c : Code} {Q : State → Prop} {D : va_G} {cI cJ cB cZ : ClassId} {ad bd : Nat → Nat} {b : Nat} {xs : Nat → Int32} {H : Heap} {locs : List Loc} {ls : Array Slot} (B : Bd p s m #[Value.ref b] meth c cL_law 4 lw_tbl RL D (TYS cI cJ cB cZ)) (hX : va_X b 6 xs s s.heap) (hbl : b < s.heap.size) (h : Hp D (fun q => s.heap.size ≤ q) s.heap (WX cI cJ cB cZ ad ++ WM cI cJ cB cZ bd) H locs) (hl : lv_has ls 4 [(3, .int 0), (2, .ref (bd 0)), (1, .ref (ad 0)), (0, .ref b)]) (kk : ∀ (H : Heap) (locs : List Loc), va_S (fun q => s.heap.size ≤ q) s.heap H locs → W p l e room_1 s m #[Value.ref b] below meth c H locs 56 11906 Q (F0 m 1191 ls [])) : W p l e room_1 s m #[Value.ref b] below meth c H locs 56 11906 Q (F0 m 270 ls []) := by
  have hx := B.1.1
  have hb := B.1.2.1
  have hbA : ¬ s.heap.size ≤ b := Nat.not_le.mpr hbl
  refine lv_aload_n hx hb dL_law_270 rfl (lv_at hl 2 rfl) ?_
  have h : Hp D (fun q => s.heap.size ≤ q) s.heap ([] ++ (WX cI cJ cB cZ ad ++ WM cI cJ cB cZ bd)) H locs := h
  refine x_cVI (n := 0) (pre := []) (post := WM cI cJ cB cZ bd) (wc := WX cI cJ cB cZ ad) (As := []) (rest := []) B h (k20_X11_complex l D cI cJ cB cZ ad bd) ⟨⟨_, rfl⟩, by decide +kernel, Nat.le_of_ble_eq_true rfl, Nat.le_of_ble_eq_true rfl⟩ gT_X11_complex (show (WX cI cJ cB cZ ad)[0]? = some (ad 0, .inr (11, _)) from rfl) rfl rfl hl.1 rfl (Nat.le_of_ble_eq_true rfl) dL_law_271 ⟨Nat.le_of_ble_eq_true rfl, Nat.le_of_ble_eq_true rfl⟩ (fun r_1 u_1 H locs hp_1 h => ?_)
  refine lv_aload_n hx hb dL_law_274 rfl (lv_at hl 1 rfl) ?_
  have h := hp_nil h
  refine x_cVI (n := 0) (post := []) (wc := WM cI cJ cB cZ bd) (As := []) (rest := [.int r_1]) B h (k35_X12_complex l D cI cJ cB cZ ad bd) ⟨⟨_, rfl⟩, by decide +kernel, Nat.le_of_ble_eq_true rfl, Nat.le_of_ble_eq_true rfl⟩ gT_X12_complex (show (WM cI cJ cB cZ bd)[0]? = some (bd 0, .inr (12, _)) from rfl) rfl rfl hl.1 rfl (Nat.le_of_ble_eq_true rfl) dL_law_275 ⟨Nat.le_of_ble_eq_true rfl, Nat.le_of_ble_eq_true rfl⟩ (fun r_2 u_2 H locs hp_2 h => ?_)
  exact lv_icmp_eq (tgt := 1191) hx hb dL_law_278 (by decide) (fun _ => kk H locs h.2.2.1) (fun c_1 => absurd (eq_complex  r_1 r_2 u_1 u_2 hp_1 hp_2) c_1)
set_option maxHeartbeats 4000000 in
set_option maxRecDepth 100000 in
theorem law_simplex {p : Program} {l : Launch} {e : Env} {s : State} {m : MethodId} {below : List Frame} {meth : Method} {c : Code} {Q : State → Prop} {D : va_G} {cI cJ cB cZ : ClassId} {ad bd : Nat → Nat} {b : Nat} {xs : Nat → Int32} {H : Heap} {locs : List Loc} {ls : Array Slot} (B : Bd p s m #[Value.ref b] meth c cL_law 4 lw_tbl RL D (TYS cI cJ cB cZ)) (hX : va_X b 6 xs s s.heap) (hbl : b < s.heap.size) (h : Hp D (fun q => s.heap.size ≤ q) s.heap (WX cI cJ cB cZ ad ++ WM cI cJ cB cZ bd) H locs) (hl : lv_has ls 4 [(3, .int 0), (2, .ref (bd 0)), (1, .ref (ad 0)), (0, .ref b)]) (kk : ∀ (H : Heap) (locs : List Loc), va_S (fun q => s.heap.size ≤ q) s.heap H locs → W p l e room_1 s m #[Value.ref b] below meth c H locs 56 11906 Q (F0 m 1191 ls [])) : W p l e room_1 s m #[Value.ref b] below meth c H locs 56 11906 Q (F0 m 283 ls []) := by
  have hx := B.1.1
  have hb := B.1.2.1
  have hbA : ¬ s.heap.size ≤ b := Nat.not_le.mpr hbl
  refine lv_aload_n hx hb dL_law_283 rfl (lv_at hl 2 rfl) ?_
  refine lv_aload_n hx hb dL_law_284 rfl (lv_at hl 3 rfl) ?_
  refine lv_iload_n hx hb dL_law_285 rfl (lv_at hl 0 rfl) ?_
  refine lv_iconst (v := 1) hx hb dL_law_286 (by decide) ?_
  refine lv_iadd hx hb dL_law_287 ?_
  refine lv_topi (fun v_287 ev_287 => ?_)
  obtain rfl : v_287 = 1 := ev_287.trans (by decide)
  refine va_sld hx hb hX hbl hbA h.2.2.1 (vp_in_iff.mpr (by decide)) dL_law_288 ?_
  refine lv_aload_n hx hb dL_law_289 rfl (lv_at hl 3 rfl) ?_
  refine lv_iload_n hx hb dL_law_290 rfl (lv_at hl 0 rfl) ?_
  refine lv_iconst (v := 2) hx hb dL_law_291 (by decide) ?_
  refine lv_iadd hx hb dL_law_292 ?_
  refine lv_topi (fun v_292 ev_292 => ?_)
  obtain rfl : v_292 = 2 := ev_292.trans (by decide)
  refine va_sld hx hb hX hbl hbA h.2.2.1 (vp_in_iff.mpr (by decide)) dL_law_293 ?_
  have h : Hp D (fun q => s.heap.size ≤ q) s.heap ([] ++ (WX cI cJ cB cZ ad ++ WM cI cJ cB cZ bd)) H locs := h
  refine x_cVI (n := 2) (pre := []) (post := WM cI cJ cB cZ bd) (wc := WX cI cJ cB cZ ad) (As := [.int (xs (Int32.toNatClampNeg 1)), .int (xs (Int32.toNatClampNeg 2))]) (rest := []) B h (k37_X11_simplex l D cI cJ cB cZ ad bd (xs (Int32.toNatClampNeg 1)) (xs (Int32.toNatClampNeg 2))) ⟨⟨_, rfl⟩, by decide +kernel, Nat.le_of_ble_eq_true rfl, Nat.le_of_ble_eq_true rfl⟩ gT_X11_simplex (show (WX cI cJ cB cZ ad)[0]? = some (ad 0, .inr (11, _)) from rfl) rfl rfl hl.1 rfl (Nat.le_of_ble_eq_true rfl) dL_law_294 ⟨Nat.le_of_ble_eq_true rfl, Nat.le_of_ble_eq_true rfl⟩ (fun r_1 u_1 H locs hp_1 h => ?_)
  refine lv_aload_n hx hb dL_law_297 rfl (lv_at hl 1 rfl) ?_
  refine lv_aload_n hx hb dL_law_298 rfl (lv_at hl 3 rfl) ?_
  refine lv_iload_n hx hb dL_law_299 rfl (lv_at hl 0 rfl) ?_
  refine lv_iconst (v := 1) hx hb dL_law_300 (by decide) ?_
  refine lv_iadd hx hb dL_law_301 ?_
  refine lv_topi (fun v_301 ev_301 => ?_)
  obtain rfl : v_301 = 1 := ev_301.trans (by decide)
  refine va_sld hx hb hX hbl hbA h.2.2.1 (vp_in_iff.mpr (by decide)) dL_law_302 ?_
  refine lv_aload_n hx hb dL_law_303 rfl (lv_at hl 3 rfl) ?_
  refine lv_iload_n hx hb dL_law_304 rfl (lv_at hl 0 rfl) ?_
  refine lv_iconst (v := 2) hx hb dL_law_305 (by decide) ?_
  refine lv_iadd hx hb dL_law_306 ?_
  refine lv_topi (fun v_306 ev_306 => ?_)
  obtain rfl : v_306 = 2 := ev_306.trans (by decide)
  refine va_sld hx hb hX hbl hbA h.2.2.1 (vp_in_iff.mpr (by decide)) dL_law_307 ?_
  have h := hp_nil h
  refine x_cVI (n := 2) (post := []) (wc := WM cI cJ cB cZ bd) (As := [.int (xs (Int32.toNatClampNeg 1)), .int (xs (Int32.toNatClampNeg 2))]) (rest := [.int r_1]) B h (k40_X12_simplex l D cI cJ cB cZ ad bd (xs (Int32.toNatClampNeg 1)) (xs (Int32.toNatClampNeg 2))) ⟨⟨_, rfl⟩, by decide +kernel, Nat.le_of_ble_eq_true rfl, Nat.le_of_ble_eq_true rfl⟩ gT_X12_simplex (show (WM cI cJ cB cZ bd)[0]? = some (bd 0, .inr (12, _)) from rfl) rfl rfl hl.1 rfl (Nat.le_of_ble_eq_true rfl) dL_law_308 ⟨Nat.le_of_ble_eq_true rfl, Nat.le_of_ble_eq_true rfl⟩ (fun r_2 u_2 H locs hp_2 h => ?_)
  exact lv_icmp_eq (tgt := 1191) hx hb dL_law_311 (by decide) (fun _ => kk H locs h.2.2.1) (fun c_1 => absurd (eq_simplex (xs (Int32.toNatClampNeg 1)) (xs (Int32.toNatClampNeg 2)) r_1 r_2 u_1 u_2 hp_1 hp_2) c_1)
set_option maxHeartbeats 4000000 in
set_option maxRecDepth 100000 in
theorem law_number {p : Program} {l : Launch} {e : Env} {s : State} {m : MethodId} {below : List Frame} {meth : Method} {c : Code} {Q : State → Prop} {D : va_G} {cI cJ cB cZ : ClassId} {ad bd : Nat → Nat} {b : Nat} {xs : Nat → Int32} {H : Heap} {locs : List Loc} {ls : Array Slot} (B : Bd p s m #[Value.ref b] meth c cL_law 4 lw_tbl RL D (TYS cI cJ cB cZ)) (hX : va_X b 6 xs s s.heap) (hbl : b < s.heap.size) (h : Hp D (fun q => s.heap.size ≤ q) s.heap (WX cI cJ cB cZ ad ++ WM cI cJ cB cZ bd) H locs) (hl : lv_has ls 4 [(3, .int 0), (2, .ref (bd 0)), (1, .ref (ad 0)), (0, .ref b)]) (kk : ∀ (H : Heap) (locs : List Loc), va_S (fun q => s.heap.size ≤ q) s.heap H locs → W p l e room_1 s m #[Value.ref b] below meth c H locs 56 11906 Q (F0 m 1191 ls [])) : W p l e room_1 s m #[Value.ref b] below meth c H locs 56 11906 Q (F0 m 316 ls []) := by
  have hx := B.1.1
  have hb := B.1.2.1
  have hbA : ¬ s.heap.size ≤ b := Nat.not_le.mpr hbl
  refine lv_aload_n hx hb dL_law_316 rfl (lv_at hl 2 rfl) ?_
  refine lv_aload_n hx hb dL_law_317 rfl (lv_at hl 3 rfl) ?_
  refine lv_iload_n hx hb dL_law_318 rfl (lv_at hl 0 rfl) ?_
  refine lv_iconst (v := 1) hx hb dL_law_319 (by decide) ?_
  refine lv_iadd hx hb dL_law_320 ?_
  refine lv_topi (fun v_320 ev_320 => ?_)
  obtain rfl : v_320 = 1 := ev_320.trans (by decide)
  refine va_sld hx hb hX hbl hbA h.2.2.1 (vp_in_iff.mpr (by decide)) dL_law_321 ?_
  have h : Hp D (fun q => s.heap.size ≤ q) s.heap ([] ++ (WX cI cJ cB cZ ad ++ WM cI cJ cB cZ bd)) H locs := h
  refine x_cVI (n := 1) (pre := []) (post := WM cI cJ cB cZ bd) (wc := WX cI cJ cB cZ ad) (As := [.int (xs (Int32.toNatClampNeg 1))]) (rest := []) B h (k41_X11_number l D cI cJ cB cZ ad bd (xs (Int32.toNatClampNeg 1))) ⟨⟨_, rfl⟩, by decide +kernel, Nat.le_of_ble_eq_true rfl, Nat.le_of_ble_eq_true rfl⟩ gT_X11_number (show (WX cI cJ cB cZ ad)[0]? = some (ad 0, .inr (11, _)) from rfl) rfl rfl hl.1 rfl (Nat.le_of_ble_eq_true rfl) dL_law_322 ⟨Nat.le_of_ble_eq_true rfl, Nat.le_of_ble_eq_true rfl⟩ (fun r_1 u_1 H locs hp_1 h => ?_)
  refine lv_aload_n hx hb dL_law_325 rfl (lv_at hl 1 rfl) ?_
  refine lv_aload_n hx hb dL_law_326 rfl (lv_at hl 3 rfl) ?_
  refine lv_iload_n hx hb dL_law_327 rfl (lv_at hl 0 rfl) ?_
  refine lv_iconst (v := 1) hx hb dL_law_328 (by decide) ?_
  refine lv_iadd hx hb dL_law_329 ?_
  refine lv_topi (fun v_329 ev_329 => ?_)
  obtain rfl : v_329 = 1 := ev_329.trans (by decide)
  refine va_sld hx hb hX hbl hbA h.2.2.1 (vp_in_iff.mpr (by decide)) dL_law_330 ?_
  have h := hp_nil h
  refine x_cVI (n := 1) (post := []) (wc := WM cI cJ cB cZ bd) (As := [.int (xs (Int32.toNatClampNeg 1))]) (rest := [.int r_1]) B h (k43_X12_number l D cI cJ cB cZ ad bd (xs (Int32.toNatClampNeg 1))) ⟨⟨_, rfl⟩, by decide +kernel, Nat.le_of_ble_eq_true rfl, Nat.le_of_ble_eq_true rfl⟩ gT_X12_number (show (WM cI cJ cB cZ bd)[0]? = some (bd 0, .inr (12, _)) from rfl) rfl rfl hl.1 rfl (Nat.le_of_ble_eq_true rfl) dL_law_331 ⟨Nat.le_of_ble_eq_true rfl, Nat.le_of_ble_eq_true rfl⟩ (fun r_2 u_2 H locs hp_2 h => ?_)
  exact lv_icmp_eq (tgt := 1191) hx hb dL_law_334 (by decide) (fun _ => kk H locs h.2.2.1) (fun c_1 => absurd (eq_number (xs (Int32.toNatClampNeg 1)) r_1 r_2 u_1 u_2 hp_1 hp_2) c_1)
set_option maxHeartbeats 4000000 in
set_option maxRecDepth 100000 in
theorem law_sign {p : Program} {l : Launch} {e : Env} {s : State} {m : MethodId} {below : List Frame} {meth : Method} {c : Code} {Q : State → Prop} {D : va_G} {cI cJ cB cZ : ClassId} {ad bd : Nat → Nat} {b : Nat} {xs : Nat → Int32} {H : Heap} {locs : List Loc} {ls : Array Slot} (B : Bd p s m #[Value.ref b] meth c cL_law 4 lw_tbl RL D (TYS cI cJ cB cZ)) (hX : va_X b 6 xs s s.heap) (hbl : b < s.heap.size) (h : Hp D (fun q => s.heap.size ≤ q) s.heap (WX cI cJ cB cZ ad ++ WM cI cJ cB cZ bd) H locs) (hl : lv_has ls 4 [(3, .int 0), (2, .ref (bd 0)), (1, .ref (ad 0)), (0, .ref b)]) (kk : ∀ (H : Heap) (locs : List Loc), va_S (fun q => s.heap.size ≤ q) s.heap H locs → W p l e room_1 s m #[Value.ref b] below meth c H locs 56 11906 Q (F0 m 1191 ls [])) : W p l e room_1 s m #[Value.ref b] below meth c H locs 56 11906 Q (F0 m 339 ls []) := by
  have hx := B.1.1
  have hb := B.1.2.1
  have hbA : ¬ s.heap.size ≤ b := Nat.not_le.mpr hbl
  refine lv_aload_n hx hb dL_law_339 rfl (lv_at hl 2 rfl) ?_
  refine lv_aload_n hx hb dL_law_340 rfl (lv_at hl 3 rfl) ?_
  refine lv_iload_n hx hb dL_law_341 rfl (lv_at hl 0 rfl) ?_
  refine lv_iconst (v := 1) hx hb dL_law_342 (by decide) ?_
  refine lv_iadd hx hb dL_law_343 ?_
  refine lv_topi (fun v_343 ev_343 => ?_)
  obtain rfl : v_343 = 1 := ev_343.trans (by decide)
  refine va_sld hx hb hX hbl hbA h.2.2.1 (vp_in_iff.mpr (by decide)) dL_law_344 ?_
  refine lv_aload_n hx hb dL_law_345 rfl (lv_at hl 3 rfl) ?_
  refine lv_iload_n hx hb dL_law_346 rfl (lv_at hl 0 rfl) ?_
  refine lv_iconst (v := 2) hx hb dL_law_347 (by decide) ?_
  refine lv_iadd hx hb dL_law_348 ?_
  refine lv_topi (fun v_348 ev_348 => ?_)
  obtain rfl : v_348 = 2 := ev_348.trans (by decide)
  refine va_sld hx hb hX hbl hbA h.2.2.1 (vp_in_iff.mpr (by decide)) dL_law_349 ?_
  have h : Hp D (fun q => s.heap.size ≤ q) s.heap ([] ++ (WX cI cJ cB cZ ad ++ WM cI cJ cB cZ bd)) H locs := h
  refine x_cVI (n := 2) (pre := []) (post := WM cI cJ cB cZ bd) (wc := WX cI cJ cB cZ ad) (As := [.int (xs (Int32.toNatClampNeg 1)), .int (xs (Int32.toNatClampNeg 2))]) (rest := []) B h (k44_X11_sign l D cI cJ cB cZ ad bd (xs (Int32.toNatClampNeg 1)) (xs (Int32.toNatClampNeg 2))) ⟨⟨_, rfl⟩, by decide +kernel, Nat.le_of_ble_eq_true rfl, Nat.le_of_ble_eq_true rfl⟩ gT_X11_sign (show (WX cI cJ cB cZ ad)[0]? = some (ad 0, .inr (11, _)) from rfl) rfl rfl hl.1 rfl (Nat.le_of_ble_eq_true rfl) dL_law_350 ⟨Nat.le_of_ble_eq_true rfl, Nat.le_of_ble_eq_true rfl⟩ (fun r_1 u_1 H locs hp_1 h => ?_)
  refine lv_aload_n hx hb dL_law_353 rfl (lv_at hl 1 rfl) ?_
  refine lv_aload_n hx hb dL_law_354 rfl (lv_at hl 3 rfl) ?_
  refine lv_iload_n hx hb dL_law_355 rfl (lv_at hl 0 rfl) ?_
  refine lv_iconst (v := 1) hx hb dL_law_356 (by decide) ?_
  refine lv_iadd hx hb dL_law_357 ?_
  refine lv_topi (fun v_357 ev_357 => ?_)
  obtain rfl : v_357 = 1 := ev_357.trans (by decide)
  refine va_sld hx hb hX hbl hbA h.2.2.1 (vp_in_iff.mpr (by decide)) dL_law_358 ?_
  refine lv_aload_n hx hb dL_law_359 rfl (lv_at hl 3 rfl) ?_
  refine lv_iload_n hx hb dL_law_360 rfl (lv_at hl 0 rfl) ?_
  refine lv_iconst (v := 2) hx hb dL_law_361 (by decide) ?_
  refine lv_iadd hx hb dL_law_362 ?_
  refine lv_topi (fun v_362 ev_362 => ?_)
  obtain rfl : v_362 = 2 := ev_362.trans (by decide)
  refine va_sld hx hb hX hbl hbA h.2.2.1 (vp_in_iff.mpr (by decide)) dL_law_363 ?_
  have h := hp_nil h
  refine x_cVI (n := 2) (post := []) (wc := WM cI cJ cB cZ bd) (As := [.int (xs (Int32.toNatClampNeg 1)), .int (xs (Int32.toNatClampNeg 2))]) (rest := [.int r_1]) B h (k45_X12_sign l D cI cJ cB cZ ad bd (xs (Int32.toNatClampNeg 1)) (xs (Int32.toNatClampNeg 2))) ⟨⟨_, rfl⟩, by decide +kernel, Nat.le_of_ble_eq_true rfl, Nat.le_of_ble_eq_true rfl⟩ gT_X12_sign (show (WM cI cJ cB cZ bd)[0]? = some (bd 0, .inr (12, _)) from rfl) rfl rfl hl.1 rfl (Nat.le_of_ble_eq_true rfl) dL_law_364 ⟨Nat.le_of_ble_eq_true rfl, Nat.le_of_ble_eq_true rfl⟩ (fun r_2 u_2 H locs hp_2 h => ?_)
  exact lv_icmp_eq (tgt := 1191) hx hb dL_law_367 (by decide) (fun _ => kk H locs h.2.2.1) (fun c_1 => absurd (eq_sign (xs (Int32.toNatClampNeg 1)) (xs (Int32.toNatClampNeg 2)) r_1 r_2 u_1 u_2 hp_1 hp_2) c_1)
set_option maxHeartbeats 4000000 in
set_option maxRecDepth 100000 in
theorem law_pair {p : Program} {l : Launch} {e : Env} {s : State} {m : MethodId} {below : List Frame} {meth : Method} {c : Code} {Q : State → Prop} {D : va_G} {cI cJ cB cZ : ClassId} {ad bd : Nat → Nat} {b : Nat} {xs : Nat → Int32} {H : Heap} {locs : List Loc} {ls : Array Slot} (B : Bd p s m #[Value.ref b] meth c cL_law 4 lw_tbl RL D (TYS cI cJ cB cZ)) (hX : va_X b 6 xs s s.heap) (hbl : b < s.heap.size) (h : Hp D (fun q => s.heap.size ≤ q) s.heap (WX cI cJ cB cZ ad ++ WM cI cJ cB cZ bd) H locs) (hl : lv_has ls 4 [(3, .int 0), (2, .ref (bd 0)), (1, .ref (ad 0)), (0, .ref b)]) (kk : ∀ (H : Heap) (locs : List Loc), va_S (fun q => s.heap.size ≤ q) s.heap H locs → W p l e room_1 s m #[Value.ref b] below meth c H locs 56 11906 Q (F0 m 1191 ls [])) : W p l e room_1 s m #[Value.ref b] below meth c H locs 56 11906 Q (F0 m 372 ls []) := by
  have hx := B.1.1
  have hb := B.1.2.1
  have hbA : ¬ s.heap.size ≤ b := Nat.not_le.mpr hbl
  refine lv_aload_n hx hb dL_law_372 rfl (lv_at hl 2 rfl) ?_
  refine lv_aload_n hx hb dL_law_373 rfl (lv_at hl 3 rfl) ?_
  refine lv_iload_n hx hb dL_law_374 rfl (lv_at hl 0 rfl) ?_
  refine lv_iconst (v := 1) hx hb dL_law_375 (by decide) ?_
  refine lv_iadd hx hb dL_law_376 ?_
  refine lv_topi (fun v_376 ev_376 => ?_)
  obtain rfl : v_376 = 1 := ev_376.trans (by decide)
  refine va_sld hx hb hX hbl hbA h.2.2.1 (vp_in_iff.mpr (by decide)) dL_law_377 ?_
  refine lv_aload_n hx hb dL_law_378 rfl (lv_at hl 3 rfl) ?_
  refine lv_iload_n hx hb dL_law_379 rfl (lv_at hl 0 rfl) ?_
  refine lv_iconst (v := 2) hx hb dL_law_380 (by decide) ?_
  refine lv_iadd hx hb dL_law_381 ?_
  refine lv_topi (fun v_381 ev_381 => ?_)
  obtain rfl : v_381 = 2 := ev_381.trans (by decide)
  refine va_sld hx hb hX hbl hbA h.2.2.1 (vp_in_iff.mpr (by decide)) dL_law_382 ?_
  have h : Hp D (fun q => s.heap.size ≤ q) s.heap ([] ++ (WX cI cJ cB cZ ad ++ WM cI cJ cB cZ bd)) H locs := h
  refine x_cVI (n := 2) (pre := []) (post := WM cI cJ cB cZ bd) (wc := WX cI cJ cB cZ ad) (As := [.int (xs (Int32.toNatClampNeg 1)), .int (xs (Int32.toNatClampNeg 2))]) (rest := []) B h (k47_X11_pair l D cI cJ cB cZ ad bd (xs (Int32.toNatClampNeg 1)) (xs (Int32.toNatClampNeg 2))) ⟨⟨_, rfl⟩, by decide +kernel, Nat.le_of_ble_eq_true rfl, Nat.le_of_ble_eq_true rfl⟩ gT_X11_pair (show (WX cI cJ cB cZ ad)[0]? = some (ad 0, .inr (11, _)) from rfl) rfl rfl hl.1 rfl (Nat.le_of_ble_eq_true rfl) dL_law_383 ⟨Nat.le_of_ble_eq_true rfl, Nat.le_of_ble_eq_true rfl⟩ (fun r_1 u_1 H locs hp_1 h => ?_)
  refine lv_aload_n hx hb dL_law_386 rfl (lv_at hl 1 rfl) ?_
  refine lv_aload_n hx hb dL_law_387 rfl (lv_at hl 3 rfl) ?_
  refine lv_iload_n hx hb dL_law_388 rfl (lv_at hl 0 rfl) ?_
  refine lv_iconst (v := 1) hx hb dL_law_389 (by decide) ?_
  refine lv_iadd hx hb dL_law_390 ?_
  refine lv_topi (fun v_390 ev_390 => ?_)
  obtain rfl : v_390 = 1 := ev_390.trans (by decide)
  refine va_sld hx hb hX hbl hbA h.2.2.1 (vp_in_iff.mpr (by decide)) dL_law_391 ?_
  refine lv_aload_n hx hb dL_law_392 rfl (lv_at hl 3 rfl) ?_
  refine lv_iload_n hx hb dL_law_393 rfl (lv_at hl 0 rfl) ?_
  refine lv_iconst (v := 2) hx hb dL_law_394 (by decide) ?_
  refine lv_iadd hx hb dL_law_395 ?_
  refine lv_topi (fun v_395 ev_395 => ?_)
  obtain rfl : v_395 = 2 := ev_395.trans (by decide)
  refine va_sld hx hb hX hbl hbA h.2.2.1 (vp_in_iff.mpr (by decide)) dL_law_396 ?_
  have h := hp_nil h
  refine x_cVI (n := 2) (post := []) (wc := WM cI cJ cB cZ bd) (As := [.int (xs (Int32.toNatClampNeg 1)), .int (xs (Int32.toNatClampNeg 2))]) (rest := [.int r_1]) B h (k49_X12_pair l D cI cJ cB cZ ad bd (xs (Int32.toNatClampNeg 1)) (xs (Int32.toNatClampNeg 2))) ⟨⟨_, rfl⟩, by decide +kernel, Nat.le_of_ble_eq_true rfl, Nat.le_of_ble_eq_true rfl⟩ gT_X12_pair (show (WM cI cJ cB cZ bd)[0]? = some (bd 0, .inr (12, _)) from rfl) rfl rfl hl.1 rfl (Nat.le_of_ble_eq_true rfl) dL_law_397 ⟨Nat.le_of_ble_eq_true rfl, Nat.le_of_ble_eq_true rfl⟩ (fun r_2 u_2 H locs hp_2 h => ?_)
  exact lv_icmp_eq (tgt := 1191) hx hb dL_law_400 (by decide) (fun _ => kk H locs h.2.2.1) (fun c_1 => absurd (eq_pair (xs (Int32.toNatClampNeg 1)) (xs (Int32.toNatClampNeg 2)) r_1 r_2 u_1 u_2 hp_1 hp_2) c_1)
set_option maxHeartbeats 4000000 in
set_option maxRecDepth 100000 in
theorem law_part {p : Program} {l : Launch} {e : Env} {s : State} {m : MethodId} {below : List Frame} {meth : Method} {c : Code} {Q : State → Prop} {D : va_G} {cI cJ cB cZ : ClassId} {ad bd : Nat → Nat} {b : Nat} {xs : Nat → Int32} {H : Heap} {locs : List Loc} {ls : Array Slot} (B : Bd p s m #[Value.ref b] meth c cL_law 4 lw_tbl RL D (TYS cI cJ cB cZ)) (hX : va_X b 6 xs s s.heap) (hbl : b < s.heap.size) (h : Hp D (fun q => s.heap.size ≤ q) s.heap (WX cI cJ cB cZ ad ++ WM cI cJ cB cZ bd) H locs) (hl : lv_has ls 4 [(3, .int 0), (2, .ref (bd 0)), (1, .ref (ad 0)), (0, .ref b)]) (kk : ∀ (H : Heap) (locs : List Loc), va_S (fun q => s.heap.size ≤ q) s.heap H locs → W p l e room_1 s m #[Value.ref b] below meth c H locs 56 11906 Q (F0 m 1191 ls [])) : W p l e room_1 s m #[Value.ref b] below meth c H locs 56 11906 Q (F0 m 405 ls []) := by
  have hx := B.1.1
  have hb := B.1.2.1
  have hbA : ¬ s.heap.size ≤ b := Nat.not_le.mpr hbl
  refine lv_aload_n hx hb dL_law_405 rfl (lv_at hl 2 rfl) ?_
  refine lv_aload_n hx hb dL_law_406 rfl (lv_at hl 3 rfl) ?_
  refine lv_iload_n hx hb dL_law_407 rfl (lv_at hl 0 rfl) ?_
  refine lv_iconst (v := 1) hx hb dL_law_408 (by decide) ?_
  refine lv_iadd hx hb dL_law_409 ?_
  refine lv_topi (fun v_409 ev_409 => ?_)
  obtain rfl : v_409 = 1 := ev_409.trans (by decide)
  refine va_sld hx hb hX hbl hbA h.2.2.1 (vp_in_iff.mpr (by decide)) dL_law_410 ?_
  have h : Hp D (fun q => s.heap.size ≤ q) s.heap ([] ++ (WX cI cJ cB cZ ad ++ WM cI cJ cB cZ bd)) H locs := h
  refine x_cVI (n := 1) (pre := []) (post := WM cI cJ cB cZ bd) (wc := WX cI cJ cB cZ ad) (As := [.int (xs (Int32.toNatClampNeg 1))]) (rest := []) B h (k50_X11_part l D cI cJ cB cZ ad bd (xs (Int32.toNatClampNeg 1))) ⟨⟨_, rfl⟩, by decide +kernel, Nat.le_of_ble_eq_true rfl, Nat.le_of_ble_eq_true rfl⟩ gT_X11_part (show (WX cI cJ cB cZ ad)[0]? = some (ad 0, .inr (11, _)) from rfl) rfl rfl hl.1 rfl (Nat.le_of_ble_eq_true rfl) dL_law_411 ⟨Nat.le_of_ble_eq_true rfl, Nat.le_of_ble_eq_true rfl⟩ (fun r_1 u_1 H locs hp_1 h => ?_)
  refine lv_aload_n hx hb dL_law_414 rfl (lv_at hl 1 rfl) ?_
  refine lv_aload_n hx hb dL_law_415 rfl (lv_at hl 3 rfl) ?_
  refine lv_iload_n hx hb dL_law_416 rfl (lv_at hl 0 rfl) ?_
  refine lv_iconst (v := 1) hx hb dL_law_417 (by decide) ?_
  refine lv_iadd hx hb dL_law_418 ?_
  refine lv_topi (fun v_418 ev_418 => ?_)
  obtain rfl : v_418 = 1 := ev_418.trans (by decide)
  refine va_sld hx hb hX hbl hbA h.2.2.1 (vp_in_iff.mpr (by decide)) dL_law_419 ?_
  have h := hp_nil h
  refine x_cVI (n := 1) (post := []) (wc := WM cI cJ cB cZ bd) (As := [.int (xs (Int32.toNatClampNeg 1))]) (rest := [.int r_1]) B h (k51_X12_part l D cI cJ cB cZ ad bd (xs (Int32.toNatClampNeg 1))) ⟨⟨_, rfl⟩, by decide +kernel, Nat.le_of_ble_eq_true rfl, Nat.le_of_ble_eq_true rfl⟩ gT_X12_part (show (WM cI cJ cB cZ bd)[0]? = some (bd 0, .inr (12, _)) from rfl) rfl rfl hl.1 rfl (Nat.le_of_ble_eq_true rfl) dL_law_420 ⟨Nat.le_of_ble_eq_true rfl, Nat.le_of_ble_eq_true rfl⟩ (fun r_2 u_2 H locs hp_2 h => ?_)
  exact lv_icmp_eq (tgt := 1191) hx hb dL_law_423 (by decide) (fun _ => kk H locs h.2.2.1) (fun c_1 => absurd (eq_part (xs (Int32.toNatClampNeg 1)) r_1 r_2 u_1 u_2 hp_1 hp_2) c_1)
set_option maxHeartbeats 4000000 in
set_option maxRecDepth 100000 in
theorem law_auto {p : Program} {l : Launch} {e : Env} {s : State} {m : MethodId} {below : List Frame} {meth : Method} {c : Code} {Q : State → Prop} {D : va_G} {cI cJ cB cZ : ClassId} {ad bd : Nat → Nat} {b : Nat} {xs : Nat → Int32} {H : Heap} {locs : List Loc} {ls : Array Slot} (B : Bd p s m #[Value.ref b] meth c cL_law 4 lw_tbl RL D (TYS cI cJ cB cZ)) (hX : va_X b 6 xs s s.heap) (hbl : b < s.heap.size) (h : Hp D (fun q => s.heap.size ≤ q) s.heap (WX cI cJ cB cZ ad ++ WM cI cJ cB cZ bd) H locs) (hl : lv_has ls 4 [(3, .int 0), (2, .ref (bd 0)), (1, .ref (ad 0)), (0, .ref b)]) (kk : ∀ (H : Heap) (locs : List Loc), va_S (fun q => s.heap.size ≤ q) s.heap H locs → W p l e room_1 s m #[Value.ref b] below meth c H locs 56 11906 Q (F0 m 1191 ls [])) : W p l e room_1 s m #[Value.ref b] below meth c H locs 56 11906 Q (F0 m 428 ls []) := by
  have hx := B.1.1
  have hb := B.1.2.1
  have hbA : ¬ s.heap.size ≤ b := Nat.not_le.mpr hbl
  refine lv_aload_n hx hb dL_law_428 rfl (lv_at hl 2 rfl) ?_
  refine lv_aload_n hx hb dL_law_429 rfl (lv_at hl 3 rfl) ?_
  refine lv_iload_n hx hb dL_law_430 rfl (lv_at hl 0 rfl) ?_
  refine lv_iconst (v := 1) hx hb dL_law_431 (by decide) ?_
  refine lv_iadd hx hb dL_law_432 ?_
  refine lv_topi (fun v_432 ev_432 => ?_)
  obtain rfl : v_432 = 1 := ev_432.trans (by decide)
  refine va_sld hx hb hX hbl hbA h.2.2.1 (vp_in_iff.mpr (by decide)) dL_law_433 ?_
  have h : Hp D (fun q => s.heap.size ≤ q) s.heap ([] ++ (WX cI cJ cB cZ ad ++ WM cI cJ cB cZ bd)) H locs := h
  refine x_cVI (n := 1) (pre := []) (post := WM cI cJ cB cZ bd) (wc := WX cI cJ cB cZ ad) (As := [.int (xs (Int32.toNatClampNeg 1))]) (rest := []) B h (k52_X11_auto l D cI cJ cB cZ ad bd (xs (Int32.toNatClampNeg 1))) ⟨⟨_, rfl⟩, by decide +kernel, Nat.le_of_ble_eq_true rfl, Nat.le_of_ble_eq_true rfl⟩ gT_X11_auto (show (WX cI cJ cB cZ ad)[0]? = some (ad 0, .inr (11, _)) from rfl) rfl rfl hl.1 rfl (Nat.le_of_ble_eq_true rfl) dL_law_434 ⟨Nat.le_of_ble_eq_true rfl, Nat.le_of_ble_eq_true rfl⟩ (fun r_1 u_1 H locs hp_1 h => ?_)
  refine lv_aload_n hx hb dL_law_437 rfl (lv_at hl 1 rfl) ?_
  refine lv_aload_n hx hb dL_law_438 rfl (lv_at hl 3 rfl) ?_
  refine lv_iload_n hx hb dL_law_439 rfl (lv_at hl 0 rfl) ?_
  refine lv_iconst (v := 1) hx hb dL_law_440 (by decide) ?_
  refine lv_iadd hx hb dL_law_441 ?_
  refine lv_topi (fun v_441 ev_441 => ?_)
  obtain rfl : v_441 = 1 := ev_441.trans (by decide)
  refine va_sld hx hb hX hbl hbA h.2.2.1 (vp_in_iff.mpr (by decide)) dL_law_442 ?_
  have h := hp_nil h
  refine x_cVI (n := 1) (post := []) (wc := WM cI cJ cB cZ bd) (As := [.int (xs (Int32.toNatClampNeg 1))]) (rest := [.int r_1]) B h (k53_X12_auto l D cI cJ cB cZ ad bd (xs (Int32.toNatClampNeg 1))) ⟨⟨_, rfl⟩, by decide +kernel, Nat.le_of_ble_eq_true rfl, Nat.le_of_ble_eq_true rfl⟩ gT_X12_auto (show (WM cI cJ cB cZ bd)[0]? = some (bd 0, .inr (12, _)) from rfl) rfl rfl hl.1 rfl (Nat.le_of_ble_eq_true rfl) dL_law_443 ⟨Nat.le_of_ble_eq_true rfl, Nat.le_of_ble_eq_true rfl⟩ (fun r_2 u_2 H locs hp_2 h => ?_)
  exact lv_icmp_eq (tgt := 1191) hx hb dL_law_446 (by decide) (fun _ => kk H locs h.2.2.1) (fun c_1 => absurd (eq_auto (xs (Int32.toNatClampNeg 1)) r_1 r_2 u_1 u_2 hp_1 hp_2) c_1)
set_option maxHeartbeats 4000000 in
set_option maxRecDepth 100000 in
theorem law_cancel {p : Program} {l : Launch} {e : Env} {s : State} {m : MethodId} {below : List Frame} {meth : Method} {c : Code} {Q : State → Prop} {D : va_G} {cI cJ cB cZ : ClassId} {ad bd : Nat → Nat} {b : Nat} {xs : Nat → Int32} {H : Heap} {locs : List Loc} {ls : Array Slot} (B : Bd p s m #[Value.ref b] meth c cL_law 4 lw_tbl RL D (TYS cI cJ cB cZ)) (hX : va_X b 6 xs s s.heap) (hbl : b < s.heap.size) (h : Hp D (fun q => s.heap.size ≤ q) s.heap (WX cI cJ cB cZ ad ++ WM cI cJ cB cZ bd) H locs) (hl : lv_has ls 4 [(3, .int 0), (2, .ref (bd 0)), (1, .ref (ad 0)), (0, .ref b)]) (kk : ∀ (H : Heap) (locs : List Loc), va_S (fun q => s.heap.size ≤ q) s.heap H locs → W p l e room_1 s m #[Value.ref b] below meth c H locs 56 11906 Q (F0 m 1191 ls [])) : W p l e room_1 s m #[Value.ref b] below meth c H locs 56 11906 Q (F0 m 451 ls []) := by
  have hx := B.1.1
  have hb := B.1.2.1
  have hbA : ¬ s.heap.size ≤ b := Nat.not_le.mpr hbl
  refine lv_aload_n hx hb dL_law_451 rfl (lv_at hl 2 rfl) ?_
  refine lv_aload_n hx hb dL_law_452 rfl (lv_at hl 3 rfl) ?_
  refine lv_iload_n hx hb dL_law_453 rfl (lv_at hl 0 rfl) ?_
  refine lv_iconst (v := 1) hx hb dL_law_454 (by decide) ?_
  refine lv_iadd hx hb dL_law_455 ?_
  refine lv_topi (fun v_455 ev_455 => ?_)
  obtain rfl : v_455 = 1 := ev_455.trans (by decide)
  refine va_sld hx hb hX hbl hbA h.2.2.1 (vp_in_iff.mpr (by decide)) dL_law_456 ?_
  refine lv_aload_n hx hb dL_law_457 rfl (lv_at hl 3 rfl) ?_
  refine lv_iload_n hx hb dL_law_458 rfl (lv_at hl 0 rfl) ?_
  refine lv_iconst (v := 2) hx hb dL_law_459 (by decide) ?_
  refine lv_iadd hx hb dL_law_460 ?_
  refine lv_topi (fun v_460 ev_460 => ?_)
  obtain rfl : v_460 = 2 := ev_460.trans (by decide)
  refine va_sld hx hb hX hbl hbA h.2.2.1 (vp_in_iff.mpr (by decide)) dL_law_461 ?_
  have h : Hp D (fun q => s.heap.size ≤ q) s.heap ([] ++ (WX cI cJ cB cZ ad ++ WM cI cJ cB cZ bd)) H locs := h
  refine x_cVI (n := 2) (pre := []) (post := WM cI cJ cB cZ bd) (wc := WX cI cJ cB cZ ad) (As := [.int (xs (Int32.toNatClampNeg 1)), .int (xs (Int32.toNatClampNeg 2))]) (rest := []) B h (k55_X11_cancel l D cI cJ cB cZ ad bd (xs (Int32.toNatClampNeg 1)) (xs (Int32.toNatClampNeg 2))) ⟨⟨_, rfl⟩, by decide +kernel, Nat.le_of_ble_eq_true rfl, Nat.le_of_ble_eq_true rfl⟩ gT_X11_cancel (show (WX cI cJ cB cZ ad)[0]? = some (ad 0, .inr (11, _)) from rfl) rfl rfl hl.1 rfl (Nat.le_of_ble_eq_true rfl) dL_law_462 ⟨Nat.le_of_ble_eq_true rfl, Nat.le_of_ble_eq_true rfl⟩ (fun r_1 u_1 H locs hp_1 h => ?_)
  refine lv_aload_n hx hb dL_law_465 rfl (lv_at hl 1 rfl) ?_
  refine lv_aload_n hx hb dL_law_466 rfl (lv_at hl 3 rfl) ?_
  refine lv_iload_n hx hb dL_law_467 rfl (lv_at hl 0 rfl) ?_
  refine lv_iconst (v := 1) hx hb dL_law_468 (by decide) ?_
  refine lv_iadd hx hb dL_law_469 ?_
  refine lv_topi (fun v_469 ev_469 => ?_)
  obtain rfl : v_469 = 1 := ev_469.trans (by decide)
  refine va_sld hx hb hX hbl hbA h.2.2.1 (vp_in_iff.mpr (by decide)) dL_law_470 ?_
  refine lv_aload_n hx hb dL_law_471 rfl (lv_at hl 3 rfl) ?_
  refine lv_iload_n hx hb dL_law_472 rfl (lv_at hl 0 rfl) ?_
  refine lv_iconst (v := 2) hx hb dL_law_473 (by decide) ?_
  refine lv_iadd hx hb dL_law_474 ?_
  refine lv_topi (fun v_474 ev_474 => ?_)
  obtain rfl : v_474 = 2 := ev_474.trans (by decide)
  refine va_sld hx hb hX hbl hbA h.2.2.1 (vp_in_iff.mpr (by decide)) dL_law_475 ?_
  have h := hp_nil h
  refine x_cVI (n := 2) (post := []) (wc := WM cI cJ cB cZ bd) (As := [.int (xs (Int32.toNatClampNeg 1)), .int (xs (Int32.toNatClampNeg 2))]) (rest := [.int r_1]) B h (k58_X12_cancel l D cI cJ cB cZ ad bd (xs (Int32.toNatClampNeg 1)) (xs (Int32.toNatClampNeg 2))) ⟨⟨_, rfl⟩, by decide +kernel, Nat.le_of_ble_eq_true rfl, Nat.le_of_ble_eq_true rfl⟩ gT_X12_cancel (show (WM cI cJ cB cZ bd)[0]? = some (bd 0, .inr (12, _)) from rfl) rfl rfl hl.1 rfl (Nat.le_of_ble_eq_true rfl) dL_law_476 ⟨Nat.le_of_ble_eq_true rfl, Nat.le_of_ble_eq_true rfl⟩ (fun r_2 u_2 H locs hp_2 h => ?_)
  exact lv_icmp_eq (tgt := 1191) hx hb dL_law_479 (by decide) (fun _ => kk H locs h.2.2.1) (fun c_1 => absurd (eq_cancel (xs (Int32.toNatClampNeg 1)) (xs (Int32.toNatClampNeg 2)) r_1 r_2 u_1 u_2 hp_1 hp_2) c_1)
set_option maxHeartbeats 4000000 in
set_option maxRecDepth 100000 in
theorem law_collapse {p : Program} {l : Launch} {e : Env} {s : State} {m : MethodId} {below : List Frame} {meth : Method} {c : Code} {Q : State → Prop} {D : va_G} {cI cJ cB cZ : ClassId} {ad bd : Nat → Nat} {b : Nat} {xs : Nat → Int32} {H : Heap} {locs : List Loc} {ls : Array Slot} (B : Bd p s m #[Value.ref b] meth c cL_law 4 lw_tbl RL D (TYS cI cJ cB cZ)) (hX : va_X b 6 xs s s.heap) (hbl : b < s.heap.size) (h : Hp D (fun q => s.heap.size ≤ q) s.heap (WX cI cJ cB cZ ad ++ WM cI cJ cB cZ bd) H locs) (hl : lv_has ls 4 [(3, .int 0), (2, .ref (bd 0)), (1, .ref (ad 0)), (0, .ref b)]) (kk : ∀ (H : Heap) (locs : List Loc), va_S (fun q => s.heap.size ≤ q) s.heap H locs → W p l e room_1 s m #[Value.ref b] below meth c H locs 56 11906 Q (F0 m 1191 ls [])) : W p l e room_1 s m #[Value.ref b] below meth c H locs 56 11906 Q (F0 m 484 ls []) := by
  have hx := B.1.1
  have hb := B.1.2.1
  have hbA : ¬ s.heap.size ≤ b := Nat.not_le.mpr hbl
  refine lv_aload_n hx hb dL_law_484 rfl (lv_at hl 2 rfl) ?_
  refine lv_aload_n hx hb dL_law_485 rfl (lv_at hl 3 rfl) ?_
  refine lv_iload_n hx hb dL_law_486 rfl (lv_at hl 0 rfl) ?_
  refine lv_iconst (v := 1) hx hb dL_law_487 (by decide) ?_
  refine lv_iadd hx hb dL_law_488 ?_
  refine lv_topi (fun v_488 ev_488 => ?_)
  obtain rfl : v_488 = 1 := ev_488.trans (by decide)
  refine va_sld hx hb hX hbl hbA h.2.2.1 (vp_in_iff.mpr (by decide)) dL_law_489 ?_
  have h : Hp D (fun q => s.heap.size ≤ q) s.heap ([] ++ (WX cI cJ cB cZ ad ++ WM cI cJ cB cZ bd)) H locs := h
  refine x_cVI (n := 1) (pre := []) (post := WM cI cJ cB cZ bd) (wc := WX cI cJ cB cZ ad) (As := [.int (xs (Int32.toNatClampNeg 1))]) (rest := []) B h (k59_X11_collapse l D cI cJ cB cZ ad bd (xs (Int32.toNatClampNeg 1))) ⟨⟨_, rfl⟩, by decide +kernel, Nat.le_of_ble_eq_true rfl, Nat.le_of_ble_eq_true rfl⟩ gT_X11_collapse (show (WX cI cJ cB cZ ad)[0]? = some (ad 0, .inr (11, _)) from rfl) rfl rfl hl.1 rfl (Nat.le_of_ble_eq_true rfl) dL_law_490 ⟨Nat.le_of_ble_eq_true rfl, Nat.le_of_ble_eq_true rfl⟩ (fun r_1 u_1 H locs hp_1 h => ?_)
  refine lv_aload_n hx hb dL_law_493 rfl (lv_at hl 1 rfl) ?_
  refine lv_aload_n hx hb dL_law_494 rfl (lv_at hl 3 rfl) ?_
  refine lv_iload_n hx hb dL_law_495 rfl (lv_at hl 0 rfl) ?_
  refine lv_iconst (v := 1) hx hb dL_law_496 (by decide) ?_
  refine lv_iadd hx hb dL_law_497 ?_
  refine lv_topi (fun v_497 ev_497 => ?_)
  obtain rfl : v_497 = 1 := ev_497.trans (by decide)
  refine va_sld hx hb hX hbl hbA h.2.2.1 (vp_in_iff.mpr (by decide)) dL_law_498 ?_
  have h := hp_nil h
  refine x_cVI (n := 1) (post := []) (wc := WM cI cJ cB cZ bd) (As := [.int (xs (Int32.toNatClampNeg 1))]) (rest := [.int r_1]) B h (k60_X12_collapse l D cI cJ cB cZ ad bd (xs (Int32.toNatClampNeg 1))) ⟨⟨_, rfl⟩, by decide +kernel, Nat.le_of_ble_eq_true rfl, Nat.le_of_ble_eq_true rfl⟩ gT_X12_collapse (show (WM cI cJ cB cZ bd)[0]? = some (bd 0, .inr (12, _)) from rfl) rfl rfl hl.1 rfl (Nat.le_of_ble_eq_true rfl) dL_law_499 ⟨Nat.le_of_ble_eq_true rfl, Nat.le_of_ble_eq_true rfl⟩ (fun r_2 u_2 H locs hp_2 h => ?_)
  exact lv_icmp_eq (tgt := 1191) hx hb dL_law_502 (by decide) (fun _ => kk H locs h.2.2.1) (fun c_1 => absurd (eq_collapse (xs (Int32.toNatClampNeg 1)) r_1 r_2 u_1 u_2 hp_1 hp_2) c_1)
set_option maxHeartbeats 4000000 in
set_option maxRecDepth 100000 in
theorem law_undo {p : Program} {l : Launch} {e : Env} {s : State} {m : MethodId} {below : List Frame} {meth : Method} {c : Code} {Q : State → Prop} {D : va_G} {cI cJ cB cZ : ClassId} {ad bd : Nat → Nat} {b : Nat} {xs : Nat → Int32} {H : Heap} {locs : List Loc} {ls : Array Slot} (B : Bd p s m #[Value.ref b] meth c cL_law 4 lw_tbl RL D (TYS cI cJ cB cZ)) (hX : va_X b 6 xs s s.heap) (hbl : b < s.heap.size) (h : Hp D (fun q => s.heap.size ≤ q) s.heap (WX cI cJ cB cZ ad ++ WM cI cJ cB cZ bd) H locs) (hl : lv_has ls 4 [(3, .int 0), (2, .ref (bd 0)), (1, .ref (ad 0)), (0, .ref b)]) (kk : ∀ (H : Heap) (locs : List Loc), va_S (fun q => s.heap.size ≤ q) s.heap H locs → W p l e room_1 s m #[Value.ref b] below meth c H locs 56 11906 Q (F0 m 1191 ls [])) : W p l e room_1 s m #[Value.ref b] below meth c H locs 56 11906 Q (F0 m 507 ls []) := by
  have hx := B.1.1
  have hb := B.1.2.1
  have hbA : ¬ s.heap.size ≤ b := Nat.not_le.mpr hbl
  refine lv_aload_n hx hb dL_law_507 rfl (lv_at hl 2 rfl) ?_
  have h : Hp D (fun q => s.heap.size ≤ q) s.heap ([] ++ (WX cI cJ cB cZ ad ++ WM cI cJ cB cZ bd)) H locs := h
  refine x_cVI (n := 0) (pre := []) (post := WM cI cJ cB cZ bd) (wc := WX cI cJ cB cZ ad) (As := []) (rest := []) B h (k61_X11_undo l D cI cJ cB cZ ad bd) ⟨⟨_, rfl⟩, by decide +kernel, Nat.le_of_ble_eq_true rfl, Nat.le_of_ble_eq_true rfl⟩ gT_X11_undo (show (WX cI cJ cB cZ ad)[0]? = some (ad 0, .inr (11, _)) from rfl) rfl rfl hl.1 rfl (Nat.le_of_ble_eq_true rfl) dL_law_508 ⟨Nat.le_of_ble_eq_true rfl, Nat.le_of_ble_eq_true rfl⟩ (fun r_1 u_1 H locs hp_1 h => ?_)
  refine lv_aload_n hx hb dL_law_511 rfl (lv_at hl 1 rfl) ?_
  have h := hp_nil h
  refine x_cVI (n := 0) (post := []) (wc := WM cI cJ cB cZ bd) (As := []) (rest := [.int r_1]) B h (k62_X12_undo l D cI cJ cB cZ ad bd) ⟨⟨_, rfl⟩, by decide +kernel, Nat.le_of_ble_eq_true rfl, Nat.le_of_ble_eq_true rfl⟩ gT_X12_undo (show (WM cI cJ cB cZ bd)[0]? = some (bd 0, .inr (12, _)) from rfl) rfl rfl hl.1 rfl (Nat.le_of_ble_eq_true rfl) dL_law_512 ⟨Nat.le_of_ble_eq_true rfl, Nat.le_of_ble_eq_true rfl⟩ (fun r_2 u_2 H locs hp_2 h => ?_)
  exact lv_icmp_eq (tgt := 1191) hx hb dL_law_515 (by decide) (fun _ => kk H locs h.2.2.1) (fun c_1 => absurd (eq_undo  r_1 r_2 u_1 u_2 hp_1 hp_2) c_1)
set_option maxHeartbeats 4000000 in
set_option maxRecDepth 100000 in
theorem law_critical {p : Program} {l : Launch} {e : Env} {s : State} {m : MethodId} {below : List Frame} {meth : Method} {c : Code} {Q : State → Prop} {D : va_G} {cI cJ cB cZ : ClassId} {ad bd : Nat → Nat} {b : Nat} {xs : Nat → Int32} {H : Heap} {locs : List Loc} {ls : Array Slot} (B : Bd p s m #[Value.ref b] meth c cL_law 4 lw_tbl RL D (TYS cI cJ cB cZ)) (hX : va_X b 6 xs s s.heap) (hbl : b < s.heap.size) (h : Hp D (fun q => s.heap.size ≤ q) s.heap (WX cI cJ cB cZ ad ++ WM cI cJ cB cZ bd) H locs) (hl : lv_has ls 4 [(3, .int 0), (2, .ref (bd 0)), (1, .ref (ad 0)), (0, .ref b)]) (kk : ∀ (H : Heap) (locs : List Loc), va_S (fun q => s.heap.size ≤ q) s.heap H locs → W p l e room_1 s m #[Value.ref b] below meth c H locs 56 11906 Q (F0 m 1191 ls [])) : W p l e room_1 s m #[Value.ref b] below meth c H locs 56 11906 Q (F0 m 520 ls []) := by
  have hx := B.1.1
  have hb := B.1.2.1
  have hbA : ¬ s.heap.size ≤ b := Nat.not_le.mpr hbl
  refine lv_aload_n hx hb dL_law_520 rfl (lv_at hl 2 rfl) ?_
  refine lv_aload_n hx hb dL_law_521 rfl (lv_at hl 3 rfl) ?_
  refine lv_iload_n hx hb dL_law_522 rfl (lv_at hl 0 rfl) ?_
  refine lv_iconst (v := 1) hx hb dL_law_523 (by decide) ?_
  refine lv_iadd hx hb dL_law_524 ?_
  refine lv_topi (fun v_524 ev_524 => ?_)
  obtain rfl : v_524 = 1 := ev_524.trans (by decide)
  refine va_sld hx hb hX hbl hbA h.2.2.1 (vp_in_iff.mpr (by decide)) dL_law_525 ?_
  refine lv_aload_n hx hb dL_law_526 rfl (lv_at hl 3 rfl) ?_
  refine lv_iload_n hx hb dL_law_527 rfl (lv_at hl 0 rfl) ?_
  refine lv_iconst (v := 2) hx hb dL_law_528 (by decide) ?_
  refine lv_iadd hx hb dL_law_529 ?_
  refine lv_topi (fun v_529 ev_529 => ?_)
  obtain rfl : v_529 = 2 := ev_529.trans (by decide)
  refine va_sld hx hb hX hbl hbA h.2.2.1 (vp_in_iff.mpr (by decide)) dL_law_530 ?_
  have h : Hp D (fun q => s.heap.size ≤ q) s.heap ([] ++ (WX cI cJ cB cZ ad ++ WM cI cJ cB cZ bd)) H locs := h
  refine x_cVI (n := 2) (pre := []) (post := WM cI cJ cB cZ bd) (wc := WX cI cJ cB cZ ad) (As := [.int (xs (Int32.toNatClampNeg 1)), .int (xs (Int32.toNatClampNeg 2))]) (rest := []) B h (k70_X11_critical l D cI cJ cB cZ ad bd (xs (Int32.toNatClampNeg 1)) (xs (Int32.toNatClampNeg 2))) ⟨⟨_, rfl⟩, by decide +kernel, Nat.le_of_ble_eq_true rfl, Nat.le_of_ble_eq_true rfl⟩ gT_X11_critical (show (WX cI cJ cB cZ ad)[0]? = some (ad 0, .inr (11, _)) from rfl) rfl rfl hl.1 rfl (Nat.le_of_ble_eq_true rfl) dL_law_531 ⟨Nat.le_of_ble_eq_true rfl, Nat.le_of_ble_eq_true rfl⟩ (fun r_1 u_1 H locs hp_1 h => ?_)
  refine lv_aload_n hx hb dL_law_534 rfl (lv_at hl 1 rfl) ?_
  refine lv_aload_n hx hb dL_law_535 rfl (lv_at hl 3 rfl) ?_
  refine lv_iload_n hx hb dL_law_536 rfl (lv_at hl 0 rfl) ?_
  refine lv_iconst (v := 1) hx hb dL_law_537 (by decide) ?_
  refine lv_iadd hx hb dL_law_538 ?_
  refine lv_topi (fun v_538 ev_538 => ?_)
  obtain rfl : v_538 = 1 := ev_538.trans (by decide)
  refine va_sld hx hb hX hbl hbA h.2.2.1 (vp_in_iff.mpr (by decide)) dL_law_539 ?_
  refine lv_aload_n hx hb dL_law_540 rfl (lv_at hl 3 rfl) ?_
  refine lv_iload_n hx hb dL_law_541 rfl (lv_at hl 0 rfl) ?_
  refine lv_iconst (v := 2) hx hb dL_law_542 (by decide) ?_
  refine lv_iadd hx hb dL_law_543 ?_
  refine lv_topi (fun v_543 ev_543 => ?_)
  obtain rfl : v_543 = 2 := ev_543.trans (by decide)
  refine va_sld hx hb hX hbl hbA h.2.2.1 (vp_in_iff.mpr (by decide)) dL_law_544 ?_
  have h := hp_nil h
  refine x_cVI (n := 2) (post := []) (wc := WM cI cJ cB cZ bd) (As := [.int (xs (Int32.toNatClampNeg 1)), .int (xs (Int32.toNatClampNeg 2))]) (rest := [.int r_1]) B h (k72_X12_critical l D cI cJ cB cZ ad bd (xs (Int32.toNatClampNeg 1)) (xs (Int32.toNatClampNeg 2))) ⟨⟨_, rfl⟩, by decide +kernel, Nat.le_of_ble_eq_true rfl, Nat.le_of_ble_eq_true rfl⟩ gT_X12_critical (show (WM cI cJ cB cZ bd)[0]? = some (bd 0, .inr (12, _)) from rfl) rfl rfl hl.1 rfl (Nat.le_of_ble_eq_true rfl) dL_law_545 ⟨Nat.le_of_ble_eq_true rfl, Nat.le_of_ble_eq_true rfl⟩ (fun r_2 u_2 H locs hp_2 h => ?_)
  exact lv_icmp_eq (tgt := 1191) hx hb dL_law_548 (by decide) (fun _ => kk H locs h.2.2.1) (fun c_1 => absurd (eq_critical (xs (Int32.toNatClampNeg 1)) (xs (Int32.toNatClampNeg 2)) r_1 r_2 u_1 u_2 hp_1 hp_2) c_1)
set_option maxHeartbeats 4000000 in
set_option maxRecDepth 100000 in
theorem law_paths {p : Program} {l : Launch} {e : Env} {s : State} {m : MethodId} {below : List Frame} {meth : Method} {c : Code} {Q : State → Prop} {D : va_G} {cI cJ cB cZ : ClassId} {ad bd : Nat → Nat} {b : Nat} {xs : Nat → Int32} {H : Heap} {locs : List Loc} {ls : Array Slot} (B : Bd p s m #[Value.ref b] meth c cL_law 4 lw_tbl RL D (TYS cI cJ cB cZ)) (hX : va_X b 6 xs s s.heap) (hbl : b < s.heap.size) (h : Hp D (fun q => s.heap.size ≤ q) s.heap (WX cI cJ cB cZ ad ++ WM cI cJ cB cZ bd) H locs) (hl : lv_has ls 4 [(3, .int 0), (2, .ref (bd 0)), (1, .ref (ad 0)), (0, .ref b)]) (kk : ∀ (H : Heap) (locs : List Loc), va_S (fun q => s.heap.size ≤ q) s.heap H locs → W p l e room_1 s m #[Value.ref b] below meth c H locs 56 11906 Q (F0 m 1191 ls [])) : W p l e room_1 s m #[Value.ref b] below meth c H locs 56 11906 Q (F0 m 553 ls []) := by
  have hx := B.1.1
  have hb := B.1.2.1
  have hbA : ¬ s.heap.size ≤ b := Nat.not_le.mpr hbl
  refine lv_aload_n hx hb dL_law_553 rfl (lv_at hl 2 rfl) ?_
  refine lv_aload_n hx hb dL_law_554 rfl (lv_at hl 3 rfl) ?_
  refine lv_iload_n hx hb dL_law_555 rfl (lv_at hl 0 rfl) ?_
  refine lv_iconst (v := 1) hx hb dL_law_556 (by decide) ?_
  refine lv_iadd hx hb dL_law_557 ?_
  refine lv_topi (fun v_557 ev_557 => ?_)
  obtain rfl : v_557 = 1 := ev_557.trans (by decide)
  refine va_sld hx hb hX hbl hbA h.2.2.1 (vp_in_iff.mpr (by decide)) dL_law_558 ?_
  refine lv_aload_n hx hb dL_law_559 rfl (lv_at hl 3 rfl) ?_
  refine lv_iload_n hx hb dL_law_560 rfl (lv_at hl 0 rfl) ?_
  refine lv_iconst (v := 2) hx hb dL_law_561 (by decide) ?_
  refine lv_iadd hx hb dL_law_562 ?_
  refine lv_topi (fun v_562 ev_562 => ?_)
  obtain rfl : v_562 = 2 := ev_562.trans (by decide)
  refine va_sld hx hb hX hbl hbA h.2.2.1 (vp_in_iff.mpr (by decide)) dL_law_563 ?_
  have h : Hp D (fun q => s.heap.size ≤ q) s.heap ([] ++ (WX cI cJ cB cZ ad ++ WM cI cJ cB cZ bd)) H locs := h
  refine x_cVL (n := 2) (pre := []) (post := WM cI cJ cB cZ bd) (wc := WX cI cJ cB cZ ad) (As := [.int (xs (Int32.toNatClampNeg 1)), .int (xs (Int32.toNatClampNeg 2))]) (rest := []) B h (k73_X11_paths l D cI cJ cB cZ ad bd (xs (Int32.toNatClampNeg 1)) (xs (Int32.toNatClampNeg 2))) ⟨⟨_, rfl⟩, by decide +kernel, Nat.le_of_ble_eq_true rfl, Nat.le_of_ble_eq_true rfl⟩ gT_X11_paths (show (WX cI cJ cB cZ ad)[0]? = some (ad 0, .inr (11, _)) from rfl) rfl rfl hl.1 rfl (Nat.le_of_ble_eq_true rfl) dL_law_564 ⟨Nat.le_of_ble_eq_true rfl, Nat.le_of_ble_eq_true rfl⟩ (fun r_1 u_1 H locs hp_1 h => ?_)
  refine lv_aload_n hx hb dL_law_567 rfl (lv_at hl 1 rfl) ?_
  refine lv_aload_n hx hb dL_law_568 rfl (lv_at hl 3 rfl) ?_
  refine lv_iload_n hx hb dL_law_569 rfl (lv_at hl 0 rfl) ?_
  refine lv_iconst (v := 1) hx hb dL_law_570 (by decide) ?_
  refine lv_iadd hx hb dL_law_571 ?_
  refine lv_topi (fun v_571 ev_571 => ?_)
  obtain rfl : v_571 = 1 := ev_571.trans (by decide)
  refine va_sld hx hb hX hbl hbA h.2.2.1 (vp_in_iff.mpr (by decide)) dL_law_572 ?_
  refine lv_aload_n hx hb dL_law_573 rfl (lv_at hl 3 rfl) ?_
  refine lv_iload_n hx hb dL_law_574 rfl (lv_at hl 0 rfl) ?_
  refine lv_iconst (v := 2) hx hb dL_law_575 (by decide) ?_
  refine lv_iadd hx hb dL_law_576 ?_
  refine lv_topi (fun v_576 ev_576 => ?_)
  obtain rfl : v_576 = 2 := ev_576.trans (by decide)
  refine va_sld hx hb hX hbl hbA h.2.2.1 (vp_in_iff.mpr (by decide)) dL_law_577 ?_
  have h := hp_nil h
  refine x_cVL (n := 2) (post := []) (wc := WM cI cJ cB cZ bd) (As := [.int (xs (Int32.toNatClampNeg 1)), .int (xs (Int32.toNatClampNeg 2))]) (rest := [.long r_1]) B h (k74_X12_paths l D cI cJ cB cZ ad bd (xs (Int32.toNatClampNeg 1)) (xs (Int32.toNatClampNeg 2))) ⟨⟨_, rfl⟩, by decide +kernel, Nat.le_of_ble_eq_true rfl, Nat.le_of_ble_eq_true rfl⟩ gT_X12_paths (show (WM cI cJ cB cZ bd)[0]? = some (bd 0, .inr (12, _)) from rfl) rfl rfl hl.1 rfl (Nat.le_of_ble_eq_true rfl) dL_law_578 ⟨Nat.le_of_ble_eq_true rfl, Nat.le_of_ble_eq_true rfl⟩ (fun r_2 u_2 H locs hp_2 h => ?_)
  refine W.lcmp hx hb dL_law_581 ?_
  exact lv_if_eq (tgt := 1191) hx hb dL_law_582 (by decide) (fun _ => kk H locs h.2.2.1) (fun c_1 => absurd ((lg_cmp_eq _ _).mpr (eq_paths (xs (Int32.toNatClampNeg 1)) (xs (Int32.toNatClampNeg 2)) r_1 r_2 u_1 u_2 hp_1 hp_2)) c_1)
set_option maxHeartbeats 4000000 in
set_option maxRecDepth 100000 in
theorem law_path {p : Program} {l : Launch} {e : Env} {s : State} {m : MethodId} {below : List Frame} {meth : Method} {c : Code} {Q : State → Prop} {D : va_G} {cI cJ cB cZ : ClassId} {ad bd : Nat → Nat} {b : Nat} {xs : Nat → Int32} {H : Heap} {locs : List Loc} {ls : Array Slot} (B : Bd p s m #[Value.ref b] meth c cL_law 4 lw_tbl RL D (TYS cI cJ cB cZ)) (hX : va_X b 6 xs s s.heap) (hbl : b < s.heap.size) (h : Hp D (fun q => s.heap.size ≤ q) s.heap (WX cI cJ cB cZ ad ++ WM cI cJ cB cZ bd) H locs) (hl : lv_has ls 4 [(3, .int 0), (2, .ref (bd 0)), (1, .ref (ad 0)), (0, .ref b)]) (kk : ∀ (H : Heap) (locs : List Loc), va_S (fun q => s.heap.size ≤ q) s.heap H locs → W p l e room_1 s m #[Value.ref b] below meth c H locs 56 11906 Q (F0 m 1191 ls [])) : W p l e room_1 s m #[Value.ref b] below meth c H locs 56 11906 Q (F0 m 587 ls []) := by
  have hx := B.1.1
  have hb := B.1.2.1
  have hbA : ¬ s.heap.size ≤ b := Nat.not_le.mpr hbl
  refine lv_aload_n hx hb dL_law_587 rfl (lv_at hl 2 rfl) ?_
  refine lv_aload_n hx hb dL_law_588 rfl (lv_at hl 3 rfl) ?_
  refine lv_iload_n hx hb dL_law_589 rfl (lv_at hl 0 rfl) ?_
  refine lv_iconst (v := 1) hx hb dL_law_590 (by decide) ?_
  refine lv_iadd hx hb dL_law_591 ?_
  refine lv_topi (fun v_591 ev_591 => ?_)
  obtain rfl : v_591 = 1 := ev_591.trans (by decide)
  refine va_sld hx hb hX hbl hbA h.2.2.1 (vp_in_iff.mpr (by decide)) dL_law_592 ?_
  refine lv_aload_n hx hb dL_law_593 rfl (lv_at hl 3 rfl) ?_
  refine lv_iload_n hx hb dL_law_594 rfl (lv_at hl 0 rfl) ?_
  refine lv_iconst (v := 2) hx hb dL_law_595 (by decide) ?_
  refine lv_iadd hx hb dL_law_596 ?_
  refine lv_topi (fun v_596 ev_596 => ?_)
  obtain rfl : v_596 = 2 := ev_596.trans (by decide)
  refine va_sld hx hb hX hbl hbA h.2.2.1 (vp_in_iff.mpr (by decide)) dL_law_597 ?_
  refine lv_aload_n hx hb dL_law_598 rfl (lv_at hl 3 rfl) ?_
  refine lv_iload_n hx hb dL_law_599 rfl (lv_at hl 0 rfl) ?_
  refine lv_iconst (v := 3) hx hb dL_law_600 (by decide) ?_
  refine lv_iadd hx hb dL_law_601 ?_
  refine lv_topi (fun v_601 ev_601 => ?_)
  obtain rfl : v_601 = 3 := ev_601.trans (by decide)
  refine va_sld hx hb hX hbl hbA h.2.2.1 (vp_in_iff.mpr (by decide)) dL_law_602 ?_
  refine lv_aload_n hx hb dL_law_603 rfl (lv_at hl 3 rfl) ?_
  refine lv_iload_n hx hb dL_law_604 rfl (lv_at hl 0 rfl) ?_
  refine lv_iconst (v := 4) hx hb dL_law_605 (by decide) ?_
  refine lv_iadd hx hb dL_law_606 ?_
  refine lv_topi (fun v_606 ev_606 => ?_)
  obtain rfl : v_606 = 4 := ev_606.trans (by decide)
  refine va_sld hx hb hX hbl hbA h.2.2.1 (vp_in_iff.mpr (by decide)) dL_law_607 ?_
  have h : Hp D (fun q => s.heap.size ≤ q) s.heap ([] ++ (WX cI cJ cB cZ ad ++ WM cI cJ cB cZ bd)) H locs := h
  refine x_cVI (n := 4) (pre := []) (post := WM cI cJ cB cZ bd) (wc := WX cI cJ cB cZ ad) (As := [.int (xs (Int32.toNatClampNeg 1)), .int (xs (Int32.toNatClampNeg 2)), .int (xs (Int32.toNatClampNeg 3)), .int (xs (Int32.toNatClampNeg 4))]) (rest := []) B h (k75_X11_path l D cI cJ cB cZ ad bd (xs (Int32.toNatClampNeg 1)) (xs (Int32.toNatClampNeg 2)) (xs (Int32.toNatClampNeg 3)) (xs (Int32.toNatClampNeg 4))) ⟨⟨_, rfl⟩, by decide +kernel, Nat.le_of_ble_eq_true rfl, Nat.le_of_ble_eq_true rfl⟩ gT_X11_path (show (WX cI cJ cB cZ ad)[0]? = some (ad 0, .inr (11, _)) from rfl) rfl rfl hl.1 rfl (Nat.le_of_ble_eq_true rfl) dL_law_608 ⟨Nat.le_of_ble_eq_true rfl, Nat.le_of_ble_eq_true rfl⟩ (fun r_1 u_1 H locs hp_1 h => ?_)
  refine lv_aload_n hx hb dL_law_611 rfl (lv_at hl 1 rfl) ?_
  refine lv_aload_n hx hb dL_law_612 rfl (lv_at hl 3 rfl) ?_
  refine lv_iload_n hx hb dL_law_613 rfl (lv_at hl 0 rfl) ?_
  refine lv_iconst (v := 1) hx hb dL_law_614 (by decide) ?_
  refine lv_iadd hx hb dL_law_615 ?_
  refine lv_topi (fun v_615 ev_615 => ?_)
  obtain rfl : v_615 = 1 := ev_615.trans (by decide)
  refine va_sld hx hb hX hbl hbA h.2.2.1 (vp_in_iff.mpr (by decide)) dL_law_616 ?_
  refine lv_aload_n hx hb dL_law_617 rfl (lv_at hl 3 rfl) ?_
  refine lv_iload_n hx hb dL_law_618 rfl (lv_at hl 0 rfl) ?_
  refine lv_iconst (v := 2) hx hb dL_law_619 (by decide) ?_
  refine lv_iadd hx hb dL_law_620 ?_
  refine lv_topi (fun v_620 ev_620 => ?_)
  obtain rfl : v_620 = 2 := ev_620.trans (by decide)
  refine va_sld hx hb hX hbl hbA h.2.2.1 (vp_in_iff.mpr (by decide)) dL_law_621 ?_
  refine lv_aload_n hx hb dL_law_622 rfl (lv_at hl 3 rfl) ?_
  refine lv_iload_n hx hb dL_law_623 rfl (lv_at hl 0 rfl) ?_
  refine lv_iconst (v := 3) hx hb dL_law_624 (by decide) ?_
  refine lv_iadd hx hb dL_law_625 ?_
  refine lv_topi (fun v_625 ev_625 => ?_)
  obtain rfl : v_625 = 3 := ev_625.trans (by decide)
  refine va_sld hx hb hX hbl hbA h.2.2.1 (vp_in_iff.mpr (by decide)) dL_law_626 ?_
  refine lv_aload_n hx hb dL_law_627 rfl (lv_at hl 3 rfl) ?_
  refine lv_iload_n hx hb dL_law_628 rfl (lv_at hl 0 rfl) ?_
  refine lv_iconst (v := 4) hx hb dL_law_629 (by decide) ?_
  refine lv_iadd hx hb dL_law_630 ?_
  refine lv_topi (fun v_630 ev_630 => ?_)
  obtain rfl : v_630 = 4 := ev_630.trans (by decide)
  refine va_sld hx hb hX hbl hbA h.2.2.1 (vp_in_iff.mpr (by decide)) dL_law_631 ?_
  have h := hp_nil h
  refine x_cVI (n := 4) (post := []) (wc := WM cI cJ cB cZ bd) (As := [.int (xs (Int32.toNatClampNeg 1)), .int (xs (Int32.toNatClampNeg 2)), .int (xs (Int32.toNatClampNeg 3)), .int (xs (Int32.toNatClampNeg 4))]) (rest := [.int r_1]) B h (k76_X12_path l D cI cJ cB cZ ad bd (xs (Int32.toNatClampNeg 1)) (xs (Int32.toNatClampNeg 2)) (xs (Int32.toNatClampNeg 3)) (xs (Int32.toNatClampNeg 4))) ⟨⟨_, rfl⟩, by decide +kernel, Nat.le_of_ble_eq_true rfl, Nat.le_of_ble_eq_true rfl⟩ gT_X12_path (show (WM cI cJ cB cZ bd)[0]? = some (bd 0, .inr (12, _)) from rfl) rfl rfl hl.1 rfl (Nat.le_of_ble_eq_true rfl) dL_law_632 ⟨Nat.le_of_ble_eq_true rfl, Nat.le_of_ble_eq_true rfl⟩ (fun r_2 u_2 H locs hp_2 h => ?_)
  exact lv_icmp_eq (tgt := 1191) hx hb dL_law_635 (by decide) (fun _ => kk H locs h.2.2.1) (fun c_1 => absurd (eq_path (xs (Int32.toNatClampNeg 1)) (xs (Int32.toNatClampNeg 2)) (xs (Int32.toNatClampNeg 3)) (xs (Int32.toNatClampNeg 4)) r_1 r_2 u_1 u_2 hp_1 hp_2) c_1)
set_option maxHeartbeats 4000000 in
set_option maxRecDepth 100000 in
theorem law_incidence {p : Program} {l : Launch} {e : Env} {s : State} {m : MethodId} {below : List Frame} {meth : Method} {c : Code} {Q : State → Prop} {D : va_G} {cI cJ cB cZ : ClassId} {ad bd : Nat → Nat} {b : Nat} {xs : Nat → Int32} {H : Heap} {locs : List Loc} {ls : Array Slot} (B : Bd p s m #[Value.ref b] meth c cL_law 4 lw_tbl RL D (TYS cI cJ cB cZ)) (hX : va_X b 6 xs s s.heap) (hbl : b < s.heap.size) (h : Hp D (fun q => s.heap.size ≤ q) s.heap (WX cI cJ cB cZ ad ++ WM cI cJ cB cZ bd) H locs) (hl : lv_has ls 4 [(3, .int 0), (2, .ref (bd 0)), (1, .ref (ad 0)), (0, .ref b)]) (kk : ∀ (H : Heap) (locs : List Loc), va_S (fun q => s.heap.size ≤ q) s.heap H locs → W p l e room_1 s m #[Value.ref b] below meth c H locs 56 11906 Q (F0 m 1191 ls [])) : W p l e room_1 s m #[Value.ref b] below meth c H locs 56 11906 Q (F0 m 640 ls []) := by
  have hx := B.1.1
  have hb := B.1.2.1
  have hbA : ¬ s.heap.size ≤ b := Nat.not_le.mpr hbl
  refine lv_aload_n hx hb dL_law_640 rfl (lv_at hl 2 rfl) ?_
  refine lv_aload_n hx hb dL_law_641 rfl (lv_at hl 3 rfl) ?_
  refine lv_iload_n hx hb dL_law_642 rfl (lv_at hl 0 rfl) ?_
  refine lv_iconst (v := 1) hx hb dL_law_643 (by decide) ?_
  refine lv_iadd hx hb dL_law_644 ?_
  refine lv_topi (fun v_644 ev_644 => ?_)
  obtain rfl : v_644 = 1 := ev_644.trans (by decide)
  refine va_sld hx hb hX hbl hbA h.2.2.1 (vp_in_iff.mpr (by decide)) dL_law_645 ?_
  refine lv_aload_n hx hb dL_law_646 rfl (lv_at hl 3 rfl) ?_
  refine lv_iload_n hx hb dL_law_647 rfl (lv_at hl 0 rfl) ?_
  refine lv_iconst (v := 2) hx hb dL_law_648 (by decide) ?_
  refine lv_iadd hx hb dL_law_649 ?_
  refine lv_topi (fun v_649 ev_649 => ?_)
  obtain rfl : v_649 = 2 := ev_649.trans (by decide)
  refine va_sld hx hb hX hbl hbA h.2.2.1 (vp_in_iff.mpr (by decide)) dL_law_650 ?_
  have h : Hp D (fun q => s.heap.size ≤ q) s.heap ([] ++ (WX cI cJ cB cZ ad ++ WM cI cJ cB cZ bd)) H locs := h
  refine x_cVL (n := 2) (pre := []) (post := WM cI cJ cB cZ bd) (wc := WX cI cJ cB cZ ad) (As := [.int (xs (Int32.toNatClampNeg 1)), .int (xs (Int32.toNatClampNeg 2))]) (rest := []) B h (k77_X11_incidence l D cI cJ cB cZ ad bd (xs (Int32.toNatClampNeg 1)) (xs (Int32.toNatClampNeg 2))) ⟨⟨_, rfl⟩, by decide +kernel, Nat.le_of_ble_eq_true rfl, Nat.le_of_ble_eq_true rfl⟩ gT_X11_incidence (show (WX cI cJ cB cZ ad)[0]? = some (ad 0, .inr (11, _)) from rfl) rfl rfl hl.1 rfl (Nat.le_of_ble_eq_true rfl) dL_law_651 ⟨Nat.le_of_ble_eq_true rfl, Nat.le_of_ble_eq_true rfl⟩ (fun r_1 u_1 H locs hp_1 h => ?_)
  refine lv_aload_n hx hb dL_law_654 rfl (lv_at hl 1 rfl) ?_
  refine lv_aload_n hx hb dL_law_655 rfl (lv_at hl 3 rfl) ?_
  refine lv_iload_n hx hb dL_law_656 rfl (lv_at hl 0 rfl) ?_
  refine lv_iconst (v := 1) hx hb dL_law_657 (by decide) ?_
  refine lv_iadd hx hb dL_law_658 ?_
  refine lv_topi (fun v_658 ev_658 => ?_)
  obtain rfl : v_658 = 1 := ev_658.trans (by decide)
  refine va_sld hx hb hX hbl hbA h.2.2.1 (vp_in_iff.mpr (by decide)) dL_law_659 ?_
  refine lv_aload_n hx hb dL_law_660 rfl (lv_at hl 3 rfl) ?_
  refine lv_iload_n hx hb dL_law_661 rfl (lv_at hl 0 rfl) ?_
  refine lv_iconst (v := 2) hx hb dL_law_662 (by decide) ?_
  refine lv_iadd hx hb dL_law_663 ?_
  refine lv_topi (fun v_663 ev_663 => ?_)
  obtain rfl : v_663 = 2 := ev_663.trans (by decide)
  refine va_sld hx hb hX hbl hbA h.2.2.1 (vp_in_iff.mpr (by decide)) dL_law_664 ?_
  have h := hp_nil h
  refine x_cVL (n := 2) (post := []) (wc := WM cI cJ cB cZ bd) (As := [.int (xs (Int32.toNatClampNeg 1)), .int (xs (Int32.toNatClampNeg 2))]) (rest := [.long r_1]) B h (k78_X12_incidence l D cI cJ cB cZ ad bd (xs (Int32.toNatClampNeg 1)) (xs (Int32.toNatClampNeg 2))) ⟨⟨_, rfl⟩, by decide +kernel, Nat.le_of_ble_eq_true rfl, Nat.le_of_ble_eq_true rfl⟩ gT_X12_incidence (show (WM cI cJ cB cZ bd)[0]? = some (bd 0, .inr (12, _)) from rfl) rfl rfl hl.1 rfl (Nat.le_of_ble_eq_true rfl) dL_law_665 ⟨Nat.le_of_ble_eq_true rfl, Nat.le_of_ble_eq_true rfl⟩ (fun r_2 u_2 H locs hp_2 h => ?_)
  refine W.lcmp hx hb dL_law_668 ?_
  exact lv_if_eq (tgt := 1191) hx hb dL_law_669 (by decide) (fun _ => kk H locs h.2.2.1) (fun c_1 => absurd ((lg_cmp_eq _ _).mpr (eq_incidence (xs (Int32.toNatClampNeg 1)) (xs (Int32.toNatClampNeg 2)) r_1 r_2 u_1 u_2 hp_1 hp_2)) c_1)
set_option maxHeartbeats 4000000 in
set_option maxRecDepth 100000 in
theorem law_chain {p : Program} {l : Launch} {e : Env} {s : State} {m : MethodId} {below : List Frame} {meth : Method} {c : Code} {Q : State → Prop} {D : va_G} {cI cJ cB cZ : ClassId} {ad bd : Nat → Nat} {b : Nat} {xs : Nat → Int32} {H : Heap} {locs : List Loc} {ls : Array Slot} (B : Bd p s m #[Value.ref b] meth c cL_law 4 lw_tbl RL D (TYS cI cJ cB cZ)) (hX : va_X b 6 xs s s.heap) (hbl : b < s.heap.size) (h : Hp D (fun q => s.heap.size ≤ q) s.heap (WX cI cJ cB cZ ad ++ WM cI cJ cB cZ bd) H locs) (hl : lv_has ls 4 [(3, .int 0), (2, .ref (bd 0)), (1, .ref (ad 0)), (0, .ref b)]) (kk : ∀ (H : Heap) (locs : List Loc), va_S (fun q => s.heap.size ≤ q) s.heap H locs → W p l e room_1 s m #[Value.ref b] below meth c H locs 56 11906 Q (F0 m 1191 ls [])) : W p l e room_1 s m #[Value.ref b] below meth c H locs 56 11906 Q (F0 m 674 ls []) := by
  have hx := B.1.1
  have hb := B.1.2.1
  have hbA : ¬ s.heap.size ≤ b := Nat.not_le.mpr hbl
  refine lv_aload_n hx hb dL_law_674 rfl (lv_at hl 2 rfl) ?_
  refine lv_aload_n hx hb dL_law_675 rfl (lv_at hl 3 rfl) ?_
  refine lv_iload_n hx hb dL_law_676 rfl (lv_at hl 0 rfl) ?_
  refine lv_iconst (v := 1) hx hb dL_law_677 (by decide) ?_
  refine lv_iadd hx hb dL_law_678 ?_
  refine lv_topi (fun v_678 ev_678 => ?_)
  obtain rfl : v_678 = 1 := ev_678.trans (by decide)
  refine va_sld hx hb hX hbl hbA h.2.2.1 (vp_in_iff.mpr (by decide)) dL_law_679 ?_
  refine lv_aload_n hx hb dL_law_680 rfl (lv_at hl 3 rfl) ?_
  refine lv_iload_n hx hb dL_law_681 rfl (lv_at hl 0 rfl) ?_
  refine lv_iconst (v := 2) hx hb dL_law_682 (by decide) ?_
  refine lv_iadd hx hb dL_law_683 ?_
  refine lv_topi (fun v_683 ev_683 => ?_)
  obtain rfl : v_683 = 2 := ev_683.trans (by decide)
  refine va_sld hx hb hX hbl hbA h.2.2.1 (vp_in_iff.mpr (by decide)) dL_law_684 ?_
  have h : Hp D (fun q => s.heap.size ≤ q) s.heap ([] ++ (WX cI cJ cB cZ ad ++ WM cI cJ cB cZ bd)) H locs := h
  refine x_cVL (n := 2) (pre := []) (post := WM cI cJ cB cZ bd) (wc := WX cI cJ cB cZ ad) (As := [.int (xs (Int32.toNatClampNeg 1)), .int (xs (Int32.toNatClampNeg 2))]) (rest := []) B h (k79_X11_chain l D cI cJ cB cZ ad bd (xs (Int32.toNatClampNeg 1)) (xs (Int32.toNatClampNeg 2))) ⟨⟨_, rfl⟩, by decide +kernel, Nat.le_of_ble_eq_true rfl, Nat.le_of_ble_eq_true rfl⟩ gT_X11_chain (show (WX cI cJ cB cZ ad)[0]? = some (ad 0, .inr (11, _)) from rfl) rfl rfl hl.1 rfl (Nat.le_of_ble_eq_true rfl) dL_law_685 ⟨Nat.le_of_ble_eq_true rfl, Nat.le_of_ble_eq_true rfl⟩ (fun r_1 u_1 H locs hp_1 h => ?_)
  refine lv_aload_n hx hb dL_law_688 rfl (lv_at hl 1 rfl) ?_
  refine lv_aload_n hx hb dL_law_689 rfl (lv_at hl 3 rfl) ?_
  refine lv_iload_n hx hb dL_law_690 rfl (lv_at hl 0 rfl) ?_
  refine lv_iconst (v := 1) hx hb dL_law_691 (by decide) ?_
  refine lv_iadd hx hb dL_law_692 ?_
  refine lv_topi (fun v_692 ev_692 => ?_)
  obtain rfl : v_692 = 1 := ev_692.trans (by decide)
  refine va_sld hx hb hX hbl hbA h.2.2.1 (vp_in_iff.mpr (by decide)) dL_law_693 ?_
  refine lv_aload_n hx hb dL_law_694 rfl (lv_at hl 3 rfl) ?_
  refine lv_iload_n hx hb dL_law_695 rfl (lv_at hl 0 rfl) ?_
  refine lv_iconst (v := 2) hx hb dL_law_696 (by decide) ?_
  refine lv_iadd hx hb dL_law_697 ?_
  refine lv_topi (fun v_697 ev_697 => ?_)
  obtain rfl : v_697 = 2 := ev_697.trans (by decide)
  refine va_sld hx hb hX hbl hbA h.2.2.1 (vp_in_iff.mpr (by decide)) dL_law_698 ?_
  have h := hp_nil h
  refine x_cVL (n := 2) (post := []) (wc := WM cI cJ cB cZ bd) (As := [.int (xs (Int32.toNatClampNeg 1)), .int (xs (Int32.toNatClampNeg 2))]) (rest := [.long r_1]) B h (k80_X12_chain l D cI cJ cB cZ ad bd (xs (Int32.toNatClampNeg 1)) (xs (Int32.toNatClampNeg 2))) ⟨⟨_, rfl⟩, by decide +kernel, Nat.le_of_ble_eq_true rfl, Nat.le_of_ble_eq_true rfl⟩ gT_X12_chain (show (WM cI cJ cB cZ bd)[0]? = some (bd 0, .inr (12, _)) from rfl) rfl rfl hl.1 rfl (Nat.le_of_ble_eq_true rfl) dL_law_699 ⟨Nat.le_of_ble_eq_true rfl, Nat.le_of_ble_eq_true rfl⟩ (fun r_2 u_2 H locs hp_2 h => ?_)
  refine W.lcmp hx hb dL_law_702 ?_
  exact lv_if_eq (tgt := 1191) hx hb dL_law_703 (by decide) (fun _ => kk H locs h.2.2.1) (fun c_1 => absurd ((lg_cmp_eq _ _).mpr (eq_chain (xs (Int32.toNatClampNeg 1)) (xs (Int32.toNatClampNeg 2)) r_1 r_2 u_1 u_2 hp_1 hp_2)) c_1)
set_option maxHeartbeats 4000000 in
set_option maxRecDepth 100000 in
theorem law_root {p : Program} {l : Launch} {e : Env} {s : State} {m : MethodId} {below : List Frame} {meth : Method} {c : Code} {Q : State → Prop} {D : va_G} {cI cJ cB cZ : ClassId} {ad bd : Nat → Nat} {b : Nat} {xs : Nat → Int32} {H : Heap} {locs : List Loc} {ls : Array Slot} (B : Bd p s m #[Value.ref b] meth c cL_law 4 lw_tbl RL D (TYS cI cJ cB cZ)) (hX : va_X b 6 xs s s.heap) (hbl : b < s.heap.size) (h : Hp D (fun q => s.heap.size ≤ q) s.heap (WX cI cJ cB cZ ad ++ WM cI cJ cB cZ bd) H locs) (hl : lv_has ls 4 [(3, .int 0), (2, .ref (bd 0)), (1, .ref (ad 0)), (0, .ref b)]) (kk : ∀ (H : Heap) (locs : List Loc), va_S (fun q => s.heap.size ≤ q) s.heap H locs → W p l e room_1 s m #[Value.ref b] below meth c H locs 56 11906 Q (F0 m 1191 ls [])) : W p l e room_1 s m #[Value.ref b] below meth c H locs 56 11906 Q (F0 m 708 ls []) := by
  have hx := B.1.1
  have hb := B.1.2.1
  have hbA : ¬ s.heap.size ≤ b := Nat.not_le.mpr hbl
  refine lv_aload_n hx hb dL_law_708 rfl (lv_at hl 2 rfl) ?_
  refine lv_aload_n hx hb dL_law_709 rfl (lv_at hl 3 rfl) ?_
  refine lv_iload_n hx hb dL_law_710 rfl (lv_at hl 0 rfl) ?_
  refine lv_iconst (v := 1) hx hb dL_law_711 (by decide) ?_
  refine lv_iadd hx hb dL_law_712 ?_
  refine lv_topi (fun v_712 ev_712 => ?_)
  obtain rfl : v_712 = 1 := ev_712.trans (by decide)
  refine va_sld hx hb hX hbl hbA h.2.2.1 (vp_in_iff.mpr (by decide)) dL_law_713 ?_
  refine lv_aload_n hx hb dL_law_714 rfl (lv_at hl 3 rfl) ?_
  refine lv_iload_n hx hb dL_law_715 rfl (lv_at hl 0 rfl) ?_
  refine lv_iconst (v := 2) hx hb dL_law_716 (by decide) ?_
  refine lv_iadd hx hb dL_law_717 ?_
  refine lv_topi (fun v_717 ev_717 => ?_)
  obtain rfl : v_717 = 2 := ev_717.trans (by decide)
  refine va_sld hx hb hX hbl hbA h.2.2.1 (vp_in_iff.mpr (by decide)) dL_law_718 ?_
  have h : Hp D (fun q => s.heap.size ≤ q) s.heap ([] ++ (WX cI cJ cB cZ ad ++ WM cI cJ cB cZ bd)) H locs := h
  refine x_cVI (n := 2) (pre := []) (post := WM cI cJ cB cZ bd) (wc := WX cI cJ cB cZ ad) (As := [.int (xs (Int32.toNatClampNeg 1)), .int (xs (Int32.toNatClampNeg 2))]) (rest := []) B h (k81_X11_root l D cI cJ cB cZ ad bd (xs (Int32.toNatClampNeg 1)) (xs (Int32.toNatClampNeg 2))) ⟨⟨_, rfl⟩, by decide +kernel, Nat.le_of_ble_eq_true rfl, Nat.le_of_ble_eq_true rfl⟩ gT_X11_root (show (WX cI cJ cB cZ ad)[0]? = some (ad 0, .inr (11, _)) from rfl) rfl rfl hl.1 rfl (Nat.le_of_ble_eq_true rfl) dL_law_719 ⟨Nat.le_of_ble_eq_true rfl, Nat.le_of_ble_eq_true rfl⟩ (fun r_1 u_1 H locs hp_1 h => ?_)
  refine lv_aload_n hx hb dL_law_722 rfl (lv_at hl 1 rfl) ?_
  refine lv_aload_n hx hb dL_law_723 rfl (lv_at hl 3 rfl) ?_
  refine lv_iload_n hx hb dL_law_724 rfl (lv_at hl 0 rfl) ?_
  refine lv_iconst (v := 1) hx hb dL_law_725 (by decide) ?_
  refine lv_iadd hx hb dL_law_726 ?_
  refine lv_topi (fun v_726 ev_726 => ?_)
  obtain rfl : v_726 = 1 := ev_726.trans (by decide)
  refine va_sld hx hb hX hbl hbA h.2.2.1 (vp_in_iff.mpr (by decide)) dL_law_727 ?_
  refine lv_aload_n hx hb dL_law_728 rfl (lv_at hl 3 rfl) ?_
  refine lv_iload_n hx hb dL_law_729 rfl (lv_at hl 0 rfl) ?_
  refine lv_iconst (v := 2) hx hb dL_law_730 (by decide) ?_
  refine lv_iadd hx hb dL_law_731 ?_
  refine lv_topi (fun v_731 ev_731 => ?_)
  obtain rfl : v_731 = 2 := ev_731.trans (by decide)
  refine va_sld hx hb hX hbl hbA h.2.2.1 (vp_in_iff.mpr (by decide)) dL_law_732 ?_
  have h := hp_nil h
  refine x_cVI (n := 2) (post := []) (wc := WM cI cJ cB cZ bd) (As := [.int (xs (Int32.toNatClampNeg 1)), .int (xs (Int32.toNatClampNeg 2))]) (rest := [.int r_1]) B h (k82_X12_root l D cI cJ cB cZ ad bd (xs (Int32.toNatClampNeg 1)) (xs (Int32.toNatClampNeg 2))) ⟨⟨_, rfl⟩, by decide +kernel, Nat.le_of_ble_eq_true rfl, Nat.le_of_ble_eq_true rfl⟩ gT_X12_root (show (WM cI cJ cB cZ bd)[0]? = some (bd 0, .inr (12, _)) from rfl) rfl rfl hl.1 rfl (Nat.le_of_ble_eq_true rfl) dL_law_733 ⟨Nat.le_of_ble_eq_true rfl, Nat.le_of_ble_eq_true rfl⟩ (fun r_2 u_2 H locs hp_2 h => ?_)
  exact lv_icmp_eq (tgt := 1191) hx hb dL_law_736 (by decide) (fun _ => kk H locs h.2.2.1) (fun c_1 => absurd (eq_root (xs (Int32.toNatClampNeg 1)) (xs (Int32.toNatClampNeg 2)) r_1 r_2 u_1 u_2 hp_1 hp_2) c_1)
set_option maxHeartbeats 4000000 in
set_option maxRecDepth 100000 in
theorem law_through {p : Program} {l : Launch} {e : Env} {s : State} {m : MethodId} {below : List Frame} {meth : Method} {c : Code} {Q : State → Prop} {D : va_G} {cI cJ cB cZ : ClassId} {ad bd : Nat → Nat} {b : Nat} {xs : Nat → Int32} {H : Heap} {locs : List Loc} {ls : Array Slot} (B : Bd p s m #[Value.ref b] meth c cL_law 4 lw_tbl RL D (TYS cI cJ cB cZ)) (hX : va_X b 6 xs s s.heap) (hbl : b < s.heap.size) (h : Hp D (fun q => s.heap.size ≤ q) s.heap (WX cI cJ cB cZ ad ++ WM cI cJ cB cZ bd) H locs) (hl : lv_has ls 4 [(3, .int 0), (2, .ref (bd 0)), (1, .ref (ad 0)), (0, .ref b)]) (kk : ∀ (H : Heap) (locs : List Loc), va_S (fun q => s.heap.size ≤ q) s.heap H locs → W p l e room_1 s m #[Value.ref b] below meth c H locs 56 11906 Q (F0 m 1191 ls [])) : W p l e room_1 s m #[Value.ref b] below meth c H locs 56 11906 Q (F0 m 741 ls []) := by
  have hx := B.1.1
  have hb := B.1.2.1
  have hbA : ¬ s.heap.size ≤ b := Nat.not_le.mpr hbl
  refine lv_aload_n hx hb dL_law_741 rfl (lv_at hl 2 rfl) ?_
  refine lv_aload_n hx hb dL_law_742 rfl (lv_at hl 3 rfl) ?_
  refine lv_iload_n hx hb dL_law_743 rfl (lv_at hl 0 rfl) ?_
  refine lv_iconst (v := 1) hx hb dL_law_744 (by decide) ?_
  refine lv_iadd hx hb dL_law_745 ?_
  refine lv_topi (fun v_745 ev_745 => ?_)
  obtain rfl : v_745 = 1 := ev_745.trans (by decide)
  refine va_sld hx hb hX hbl hbA h.2.2.1 (vp_in_iff.mpr (by decide)) dL_law_746 ?_
  refine lv_aload_n hx hb dL_law_747 rfl (lv_at hl 3 rfl) ?_
  refine lv_iload_n hx hb dL_law_748 rfl (lv_at hl 0 rfl) ?_
  refine lv_iconst (v := 2) hx hb dL_law_749 (by decide) ?_
  refine lv_iadd hx hb dL_law_750 ?_
  refine lv_topi (fun v_750 ev_750 => ?_)
  obtain rfl : v_750 = 2 := ev_750.trans (by decide)
  refine va_sld hx hb hX hbl hbA h.2.2.1 (vp_in_iff.mpr (by decide)) dL_law_751 ?_
  refine lv_aload_n hx hb dL_law_752 rfl (lv_at hl 3 rfl) ?_
  refine lv_iload_n hx hb dL_law_753 rfl (lv_at hl 0 rfl) ?_
  refine lv_iconst (v := 3) hx hb dL_law_754 (by decide) ?_
  refine lv_iadd hx hb dL_law_755 ?_
  refine lv_topi (fun v_755 ev_755 => ?_)
  obtain rfl : v_755 = 3 := ev_755.trans (by decide)
  refine va_sld hx hb hX hbl hbA h.2.2.1 (vp_in_iff.mpr (by decide)) dL_law_756 ?_
  have h : Hp D (fun q => s.heap.size ≤ q) s.heap ([] ++ (WX cI cJ cB cZ ad ++ WM cI cJ cB cZ bd)) H locs := h
  refine x_cVL (n := 3) (pre := []) (post := WM cI cJ cB cZ bd) (wc := WX cI cJ cB cZ ad) (As := [.int (xs (Int32.toNatClampNeg 1)), .int (xs (Int32.toNatClampNeg 2)), .int (xs (Int32.toNatClampNeg 3))]) (rest := []) B h (k83_X11_through l D cI cJ cB cZ ad bd (xs (Int32.toNatClampNeg 1)) (xs (Int32.toNatClampNeg 2)) (xs (Int32.toNatClampNeg 3))) ⟨⟨_, rfl⟩, by decide +kernel, Nat.le_of_ble_eq_true rfl, Nat.le_of_ble_eq_true rfl⟩ gT_X11_through (show (WX cI cJ cB cZ ad)[0]? = some (ad 0, .inr (11, _)) from rfl) rfl rfl hl.1 rfl (Nat.le_of_ble_eq_true rfl) dL_law_757 ⟨Nat.le_of_ble_eq_true rfl, Nat.le_of_ble_eq_true rfl⟩ (fun r_1 u_1 H locs hp_1 h => ?_)
  refine lv_aload_n hx hb dL_law_760 rfl (lv_at hl 1 rfl) ?_
  refine lv_aload_n hx hb dL_law_761 rfl (lv_at hl 3 rfl) ?_
  refine lv_iload_n hx hb dL_law_762 rfl (lv_at hl 0 rfl) ?_
  refine lv_iconst (v := 1) hx hb dL_law_763 (by decide) ?_
  refine lv_iadd hx hb dL_law_764 ?_
  refine lv_topi (fun v_764 ev_764 => ?_)
  obtain rfl : v_764 = 1 := ev_764.trans (by decide)
  refine va_sld hx hb hX hbl hbA h.2.2.1 (vp_in_iff.mpr (by decide)) dL_law_765 ?_
  refine lv_aload_n hx hb dL_law_766 rfl (lv_at hl 3 rfl) ?_
  refine lv_iload_n hx hb dL_law_767 rfl (lv_at hl 0 rfl) ?_
  refine lv_iconst (v := 2) hx hb dL_law_768 (by decide) ?_
  refine lv_iadd hx hb dL_law_769 ?_
  refine lv_topi (fun v_769 ev_769 => ?_)
  obtain rfl : v_769 = 2 := ev_769.trans (by decide)
  refine va_sld hx hb hX hbl hbA h.2.2.1 (vp_in_iff.mpr (by decide)) dL_law_770 ?_
  refine lv_aload_n hx hb dL_law_771 rfl (lv_at hl 3 rfl) ?_
  refine lv_iload_n hx hb dL_law_772 rfl (lv_at hl 0 rfl) ?_
  refine lv_iconst (v := 3) hx hb dL_law_773 (by decide) ?_
  refine lv_iadd hx hb dL_law_774 ?_
  refine lv_topi (fun v_774 ev_774 => ?_)
  obtain rfl : v_774 = 3 := ev_774.trans (by decide)
  refine va_sld hx hb hX hbl hbA h.2.2.1 (vp_in_iff.mpr (by decide)) dL_law_775 ?_
  have h := hp_nil h
  refine x_cVL (n := 3) (post := []) (wc := WM cI cJ cB cZ bd) (As := [.int (xs (Int32.toNatClampNeg 1)), .int (xs (Int32.toNatClampNeg 2)), .int (xs (Int32.toNatClampNeg 3))]) (rest := [.long r_1]) B h (k84_X12_through l D cI cJ cB cZ ad bd (xs (Int32.toNatClampNeg 1)) (xs (Int32.toNatClampNeg 2)) (xs (Int32.toNatClampNeg 3))) ⟨⟨_, rfl⟩, by decide +kernel, Nat.le_of_ble_eq_true rfl, Nat.le_of_ble_eq_true rfl⟩ gT_X12_through (show (WM cI cJ cB cZ bd)[0]? = some (bd 0, .inr (12, _)) from rfl) rfl rfl hl.1 rfl (Nat.le_of_ble_eq_true rfl) dL_law_776 ⟨Nat.le_of_ble_eq_true rfl, Nat.le_of_ble_eq_true rfl⟩ (fun r_2 u_2 H locs hp_2 h => ?_)
  refine W.lcmp hx hb dL_law_779 ?_
  exact lv_if_eq (tgt := 1191) hx hb dL_law_780 (by decide) (fun _ => kk H locs h.2.2.1) (fun c_1 => absurd ((lg_cmp_eq _ _).mpr (eq_through (xs (Int32.toNatClampNeg 1)) (xs (Int32.toNatClampNeg 2)) (xs (Int32.toNatClampNeg 3)) r_1 r_2 u_1 u_2 hp_1 hp_2)) c_1)
set_option maxHeartbeats 4000000 in
set_option maxRecDepth 100000 in
theorem law_squares {p : Program} {l : Launch} {e : Env} {s : State} {m : MethodId} {below : List Frame} {meth : Method} {c : Code} {Q : State → Prop} {D : va_G} {cI cJ cB cZ : ClassId} {ad bd : Nat → Nat} {b : Nat} {xs : Nat → Int32} {H : Heap} {locs : List Loc} {ls : Array Slot} (B : Bd p s m #[Value.ref b] meth c cL_law 4 lw_tbl RL D (TYS cI cJ cB cZ)) (hX : va_X b 6 xs s s.heap) (hbl : b < s.heap.size) (h : Hp D (fun q => s.heap.size ≤ q) s.heap (WX cI cJ cB cZ ad ++ WM cI cJ cB cZ bd) H locs) (hl : lv_has ls 4 [(3, .int 0), (2, .ref (bd 0)), (1, .ref (ad 0)), (0, .ref b)]) (kk : ∀ (H : Heap) (locs : List Loc), va_S (fun q => s.heap.size ≤ q) s.heap H locs → W p l e room_1 s m #[Value.ref b] below meth c H locs 56 11906 Q (F0 m 1191 ls [])) : W p l e room_1 s m #[Value.ref b] below meth c H locs 56 11906 Q (F0 m 785 ls []) := by
  have hx := B.1.1
  have hb := B.1.2.1
  have hbA : ¬ s.heap.size ≤ b := Nat.not_le.mpr hbl
  refine lv_aload_n hx hb dL_law_785 rfl (lv_at hl 2 rfl) ?_
  have h : Hp D (fun q => s.heap.size ≤ q) s.heap ([] ++ (WX cI cJ cB cZ ad ++ WM cI cJ cB cZ bd)) H locs := h
  refine x_cVI (n := 0) (pre := []) (post := WM cI cJ cB cZ bd) (wc := WX cI cJ cB cZ ad) (As := []) (rest := []) B h (k85_X11_squares l D cI cJ cB cZ ad bd) ⟨⟨_, rfl⟩, by decide +kernel, Nat.le_of_ble_eq_true rfl, Nat.le_of_ble_eq_true rfl⟩ gT_X11_squares (show (WX cI cJ cB cZ ad)[0]? = some (ad 0, .inr (11, _)) from rfl) rfl rfl hl.1 rfl (Nat.le_of_ble_eq_true rfl) dL_law_786 ⟨Nat.le_of_ble_eq_true rfl, Nat.le_of_ble_eq_true rfl⟩ (fun r_1 u_1 H locs hp_1 h => ?_)
  refine lv_aload_n hx hb dL_law_789 rfl (lv_at hl 1 rfl) ?_
  have h := hp_nil h
  refine x_cVI (n := 0) (post := []) (wc := WM cI cJ cB cZ bd) (As := []) (rest := [.int r_1]) B h (k86_X12_squares l D cI cJ cB cZ ad bd) ⟨⟨_, rfl⟩, by decide +kernel, Nat.le_of_ble_eq_true rfl, Nat.le_of_ble_eq_true rfl⟩ gT_X12_squares (show (WM cI cJ cB cZ bd)[0]? = some (bd 0, .inr (12, _)) from rfl) rfl rfl hl.1 rfl (Nat.le_of_ble_eq_true rfl) dL_law_790 ⟨Nat.le_of_ble_eq_true rfl, Nat.le_of_ble_eq_true rfl⟩ (fun r_2 u_2 H locs hp_2 h => ?_)
  exact lv_icmp_eq (tgt := 1191) hx hb dL_law_793 (by decide) (fun _ => kk H locs h.2.2.1) (fun c_1 => absurd (eq_squares  r_1 r_2 u_1 u_2 hp_1 hp_2) c_1)
set_option maxHeartbeats 4000000 in
set_option maxRecDepth 100000 in
theorem law_betti {p : Program} {l : Launch} {e : Env} {s : State} {m : MethodId} {below : List Frame} {meth : Method} {c : Code} {Q : State → Prop} {D : va_G} {cI cJ cB cZ : ClassId} {ad bd : Nat → Nat} {b : Nat} {xs : Nat → Int32} {H : Heap} {locs : List Loc} {ls : Array Slot} (B : Bd p s m #[Value.ref b] meth c cL_law 4 lw_tbl RL D (TYS cI cJ cB cZ)) (hX : va_X b 6 xs s s.heap) (hbl : b < s.heap.size) (h : Hp D (fun q => s.heap.size ≤ q) s.heap (WX cI cJ cB cZ ad ++ WM cI cJ cB cZ bd) H locs) (hl : lv_has ls 4 [(3, .int 0), (2, .ref (bd 0)), (1, .ref (ad 0)), (0, .ref b)]) (kk : ∀ (H : Heap) (locs : List Loc), va_S (fun q => s.heap.size ≤ q) s.heap H locs → W p l e room_1 s m #[Value.ref b] below meth c H locs 56 11906 Q (F0 m 1191 ls [])) : W p l e room_1 s m #[Value.ref b] below meth c H locs 56 11906 Q (F0 m 798 ls []) := by
  have hx := B.1.1
  have hb := B.1.2.1
  have hbA : ¬ s.heap.size ≤ b := Nat.not_le.mpr hbl
  refine lv_aload_n hx hb dL_law_798 rfl (lv_at hl 2 rfl) ?_
  refine lv_aload_n hx hb dL_law_799 rfl (lv_at hl 3 rfl) ?_
  refine lv_iload_n hx hb dL_law_800 rfl (lv_at hl 0 rfl) ?_
  refine lv_iconst (v := 1) hx hb dL_law_801 (by decide) ?_
  refine lv_iadd hx hb dL_law_802 ?_
  refine lv_topi (fun v_802 ev_802 => ?_)
  obtain rfl : v_802 = 1 := ev_802.trans (by decide)
  refine va_sld hx hb hX hbl hbA h.2.2.1 (vp_in_iff.mpr (by decide)) dL_law_803 ?_
  refine lv_aload_n hx hb dL_law_804 rfl (lv_at hl 3 rfl) ?_
  refine lv_iload_n hx hb dL_law_805 rfl (lv_at hl 0 rfl) ?_
  refine lv_iconst (v := 2) hx hb dL_law_806 (by decide) ?_
  refine lv_iadd hx hb dL_law_807 ?_
  refine lv_topi (fun v_807 ev_807 => ?_)
  obtain rfl : v_807 = 2 := ev_807.trans (by decide)
  refine va_sld hx hb hX hbl hbA h.2.2.1 (vp_in_iff.mpr (by decide)) dL_law_808 ?_
  have h : Hp D (fun q => s.heap.size ≤ q) s.heap ([] ++ (WX cI cJ cB cZ ad ++ WM cI cJ cB cZ bd)) H locs := h
  refine x_cVI (n := 2) (pre := []) (post := WM cI cJ cB cZ bd) (wc := WX cI cJ cB cZ ad) (As := [.int (xs (Int32.toNatClampNeg 1)), .int (xs (Int32.toNatClampNeg 2))]) (rest := []) B h (k125_X11_betti l D cI cJ cB cZ ad bd (xs (Int32.toNatClampNeg 1)) (xs (Int32.toNatClampNeg 2))) ⟨⟨_, rfl⟩, by decide +kernel, Nat.le_of_ble_eq_true rfl, Nat.le_of_ble_eq_true rfl⟩ gT_X11_betti (show (WX cI cJ cB cZ ad)[0]? = some (ad 0, .inr (11, _)) from rfl) rfl rfl hl.1 rfl (Nat.le_of_ble_eq_true rfl) dL_law_809 ⟨Nat.le_of_ble_eq_true rfl, Nat.le_of_ble_eq_true rfl⟩ (fun r_1 u_1 H locs hp_1 h => ?_)
  refine lv_aload_n hx hb dL_law_812 rfl (lv_at hl 1 rfl) ?_
  refine lv_aload_n hx hb dL_law_813 rfl (lv_at hl 3 rfl) ?_
  refine lv_iload_n hx hb dL_law_814 rfl (lv_at hl 0 rfl) ?_
  refine lv_iconst (v := 1) hx hb dL_law_815 (by decide) ?_
  refine lv_iadd hx hb dL_law_816 ?_
  refine lv_topi (fun v_816 ev_816 => ?_)
  obtain rfl : v_816 = 1 := ev_816.trans (by decide)
  refine va_sld hx hb hX hbl hbA h.2.2.1 (vp_in_iff.mpr (by decide)) dL_law_817 ?_
  refine lv_aload_n hx hb dL_law_818 rfl (lv_at hl 3 rfl) ?_
  refine lv_iload_n hx hb dL_law_819 rfl (lv_at hl 0 rfl) ?_
  refine lv_iconst (v := 2) hx hb dL_law_820 (by decide) ?_
  refine lv_iadd hx hb dL_law_821 ?_
  refine lv_topi (fun v_821 ev_821 => ?_)
  obtain rfl : v_821 = 2 := ev_821.trans (by decide)
  refine va_sld hx hb hX hbl hbA h.2.2.1 (vp_in_iff.mpr (by decide)) dL_law_822 ?_
  have h := hp_nil h
  refine x_cVI (n := 2) (post := []) (wc := WM cI cJ cB cZ bd) (As := [.int (xs (Int32.toNatClampNeg 1)), .int (xs (Int32.toNatClampNeg 2))]) (rest := [.int r_1]) B h (k171_X12_betti l D cI cJ cB cZ ad bd (xs (Int32.toNatClampNeg 1)) (xs (Int32.toNatClampNeg 2))) ⟨⟨_, rfl⟩, by decide +kernel, Nat.le_of_ble_eq_true rfl, Nat.le_of_ble_eq_true rfl⟩ gT_X12_betti (show (WM cI cJ cB cZ bd)[0]? = some (bd 0, .inr (12, _)) from rfl) rfl rfl hl.1 rfl (Nat.le_of_ble_eq_true rfl) dL_law_823 ⟨Nat.le_of_ble_eq_true rfl, Nat.le_of_ble_eq_true rfl⟩ (fun r_2 u_2 H locs hp_2 h => ?_)
  exact lv_icmp_eq (tgt := 1191) hx hb dL_law_826 (by decide) (fun _ => kk H locs h.2.2.1) (fun c_1 => absurd (eq_betti (xs (Int32.toNatClampNeg 1)) (xs (Int32.toNatClampNeg 2)) r_1 r_2 u_1 u_2 hp_1 hp_2) c_1)
set_option maxHeartbeats 4000000 in
set_option maxRecDepth 100000 in
theorem law_torsion {p : Program} {l : Launch} {e : Env} {s : State} {m : MethodId} {below : List Frame} {meth : Method} {c : Code} {Q : State → Prop} {D : va_G} {cI cJ cB cZ : ClassId} {ad bd : Nat → Nat} {b : Nat} {xs : Nat → Int32} {H : Heap} {locs : List Loc} {ls : Array Slot} (B : Bd p s m #[Value.ref b] meth c cL_law 4 lw_tbl RL D (TYS cI cJ cB cZ)) (hX : va_X b 6 xs s s.heap) (hbl : b < s.heap.size) (h : Hp D (fun q => s.heap.size ≤ q) s.heap (WX cI cJ cB cZ ad ++ WM cI cJ cB cZ bd) H locs) (hl : lv_has ls 4 [(3, .int 0), (2, .ref (bd 0)), (1, .ref (ad 0)), (0, .ref b)]) (kk : ∀ (H : Heap) (locs : List Loc), va_S (fun q => s.heap.size ≤ q) s.heap H locs → W p l e room_1 s m #[Value.ref b] below meth c H locs 56 11906 Q (F0 m 1191 ls [])) : W p l e room_1 s m #[Value.ref b] below meth c H locs 56 11906 Q (F0 m 831 ls []) := by
  have hx := B.1.1
  have hb := B.1.2.1
  have hbA : ¬ s.heap.size ≤ b := Nat.not_le.mpr hbl
  refine lv_aload_n hx hb dL_law_831 rfl (lv_at hl 2 rfl) ?_
  refine lv_aload_n hx hb dL_law_832 rfl (lv_at hl 3 rfl) ?_
  refine lv_iload_n hx hb dL_law_833 rfl (lv_at hl 0 rfl) ?_
  refine lv_iconst (v := 1) hx hb dL_law_834 (by decide) ?_
  refine lv_iadd hx hb dL_law_835 ?_
  refine lv_topi (fun v_835 ev_835 => ?_)
  obtain rfl : v_835 = 1 := ev_835.trans (by decide)
  refine va_sld hx hb hX hbl hbA h.2.2.1 (vp_in_iff.mpr (by decide)) dL_law_836 ?_
  refine lv_aload_n hx hb dL_law_837 rfl (lv_at hl 3 rfl) ?_
  refine lv_iload_n hx hb dL_law_838 rfl (lv_at hl 0 rfl) ?_
  refine lv_iconst (v := 2) hx hb dL_law_839 (by decide) ?_
  refine lv_iadd hx hb dL_law_840 ?_
  refine lv_topi (fun v_840 ev_840 => ?_)
  obtain rfl : v_840 = 2 := ev_840.trans (by decide)
  refine va_sld hx hb hX hbl hbA h.2.2.1 (vp_in_iff.mpr (by decide)) dL_law_841 ?_
  refine lv_aload_n hx hb dL_law_842 rfl (lv_at hl 3 rfl) ?_
  refine lv_iload_n hx hb dL_law_843 rfl (lv_at hl 0 rfl) ?_
  refine lv_iconst (v := 3) hx hb dL_law_844 (by decide) ?_
  refine lv_iadd hx hb dL_law_845 ?_
  refine lv_topi (fun v_845 ev_845 => ?_)
  obtain rfl : v_845 = 3 := ev_845.trans (by decide)
  refine va_sld hx hb hX hbl hbA h.2.2.1 (vp_in_iff.mpr (by decide)) dL_law_846 ?_
  have h : Hp D (fun q => s.heap.size ≤ q) s.heap ([] ++ (WX cI cJ cB cZ ad ++ WM cI cJ cB cZ bd)) H locs := h
  refine x_cVL (n := 3) (pre := []) (post := WM cI cJ cB cZ bd) (wc := WX cI cJ cB cZ ad) (As := [.int (xs (Int32.toNatClampNeg 1)), .int (xs (Int32.toNatClampNeg 2)), .int (xs (Int32.toNatClampNeg 3))]) (rest := []) B h (k184_X11_torsion l D cI cJ cB cZ ad bd (xs (Int32.toNatClampNeg 1)) (xs (Int32.toNatClampNeg 2)) (xs (Int32.toNatClampNeg 3))) ⟨⟨_, rfl⟩, by decide +kernel, Nat.le_of_ble_eq_true rfl, Nat.le_of_ble_eq_true rfl⟩ gT_X11_torsion (show (WX cI cJ cB cZ ad)[0]? = some (ad 0, .inr (11, _)) from rfl) rfl rfl hl.1 rfl (Nat.le_of_ble_eq_true rfl) dL_law_847 ⟨Nat.le_of_ble_eq_true rfl, Nat.le_of_ble_eq_true rfl⟩ (fun r_1 u_1 H locs hp_1 h => ?_)
  refine lv_aload_n hx hb dL_law_850 rfl (lv_at hl 1 rfl) ?_
  refine lv_aload_n hx hb dL_law_851 rfl (lv_at hl 3 rfl) ?_
  refine lv_iload_n hx hb dL_law_852 rfl (lv_at hl 0 rfl) ?_
  refine lv_iconst (v := 1) hx hb dL_law_853 (by decide) ?_
  refine lv_iadd hx hb dL_law_854 ?_
  refine lv_topi (fun v_854 ev_854 => ?_)
  obtain rfl : v_854 = 1 := ev_854.trans (by decide)
  refine va_sld hx hb hX hbl hbA h.2.2.1 (vp_in_iff.mpr (by decide)) dL_law_855 ?_
  refine lv_aload_n hx hb dL_law_856 rfl (lv_at hl 3 rfl) ?_
  refine lv_iload_n hx hb dL_law_857 rfl (lv_at hl 0 rfl) ?_
  refine lv_iconst (v := 2) hx hb dL_law_858 (by decide) ?_
  refine lv_iadd hx hb dL_law_859 ?_
  refine lv_topi (fun v_859 ev_859 => ?_)
  obtain rfl : v_859 = 2 := ev_859.trans (by decide)
  refine va_sld hx hb hX hbl hbA h.2.2.1 (vp_in_iff.mpr (by decide)) dL_law_860 ?_
  refine lv_aload_n hx hb dL_law_861 rfl (lv_at hl 3 rfl) ?_
  refine lv_iload_n hx hb dL_law_862 rfl (lv_at hl 0 rfl) ?_
  refine lv_iconst (v := 3) hx hb dL_law_863 (by decide) ?_
  refine lv_iadd hx hb dL_law_864 ?_
  refine lv_topi (fun v_864 ev_864 => ?_)
  obtain rfl : v_864 = 3 := ev_864.trans (by decide)
  refine va_sld hx hb hX hbl hbA h.2.2.1 (vp_in_iff.mpr (by decide)) dL_law_865 ?_
  have h := hp_nil h
  refine x_cVL (n := 3) (post := []) (wc := WM cI cJ cB cZ bd) (As := [.int (xs (Int32.toNatClampNeg 1)), .int (xs (Int32.toNatClampNeg 2)), .int (xs (Int32.toNatClampNeg 3))]) (rest := [.long r_1]) B h (k188_X12_torsion l D cI cJ cB cZ ad bd (xs (Int32.toNatClampNeg 1)) (xs (Int32.toNatClampNeg 2)) (xs (Int32.toNatClampNeg 3))) ⟨⟨_, rfl⟩, by decide +kernel, Nat.le_of_ble_eq_true rfl, Nat.le_of_ble_eq_true rfl⟩ gT_X12_torsion (show (WM cI cJ cB cZ bd)[0]? = some (bd 0, .inr (12, _)) from rfl) rfl rfl hl.1 rfl (Nat.le_of_ble_eq_true rfl) dL_law_866 ⟨Nat.le_of_ble_eq_true rfl, Nat.le_of_ble_eq_true rfl⟩ (fun r_2 u_2 H locs hp_2 h => ?_)
  refine W.lcmp hx hb dL_law_869 ?_
  exact lv_if_eq (tgt := 1191) hx hb dL_law_870 (by decide) (fun _ => kk H locs h.2.2.1) (fun c_1 => absurd ((lg_cmp_eq _ _).mpr (eq_torsion (xs (Int32.toNatClampNeg 1)) (xs (Int32.toNatClampNeg 2)) (xs (Int32.toNatClampNeg 3)) r_1 r_2 u_1 u_2 hp_1 hp_2)) c_1)
set_option maxHeartbeats 4000000 in
set_option maxRecDepth 100000 in
theorem law_slack {p : Program} {l : Launch} {e : Env} {s : State} {m : MethodId} {below : List Frame} {meth : Method} {c : Code} {Q : State → Prop} {D : va_G} {cI cJ cB cZ : ClassId} {ad bd : Nat → Nat} {b : Nat} {xs : Nat → Int32} {H : Heap} {locs : List Loc} {ls : Array Slot} (B : Bd p s m #[Value.ref b] meth c cL_law 4 lw_tbl RL D (TYS cI cJ cB cZ)) (hX : va_X b 6 xs s s.heap) (hbl : b < s.heap.size) (h : Hp D (fun q => s.heap.size ≤ q) s.heap (WX cI cJ cB cZ ad ++ WM cI cJ cB cZ bd) H locs) (hl : lv_has ls 4 [(3, .int 0), (2, .ref (bd 0)), (1, .ref (ad 0)), (0, .ref b)]) (kk : ∀ (H : Heap) (locs : List Loc), va_S (fun q => s.heap.size ≤ q) s.heap H locs → W p l e room_1 s m #[Value.ref b] below meth c H locs 56 11906 Q (F0 m 1191 ls [])) : W p l e room_1 s m #[Value.ref b] below meth c H locs 56 11906 Q (F0 m 875 ls []) := by
  have hx := B.1.1
  have hb := B.1.2.1
  have hbA : ¬ s.heap.size ≤ b := Nat.not_le.mpr hbl
  refine lv_aload_n hx hb dL_law_875 rfl (lv_at hl 2 rfl) ?_
  refine lv_aload_n hx hb dL_law_876 rfl (lv_at hl 3 rfl) ?_
  refine lv_iload_n hx hb dL_law_877 rfl (lv_at hl 0 rfl) ?_
  refine lv_iconst (v := 1) hx hb dL_law_878 (by decide) ?_
  refine lv_iadd hx hb dL_law_879 ?_
  refine lv_topi (fun v_879 ev_879 => ?_)
  obtain rfl : v_879 = 1 := ev_879.trans (by decide)
  refine va_sld hx hb hX hbl hbA h.2.2.1 (vp_in_iff.mpr (by decide)) dL_law_880 ?_
  have h : Hp D (fun q => s.heap.size ≤ q) s.heap ([] ++ (WX cI cJ cB cZ ad ++ WM cI cJ cB cZ bd)) H locs := h
  refine x_cVI (n := 1) (pre := []) (post := WM cI cJ cB cZ bd) (wc := WX cI cJ cB cZ ad) (As := [.int (xs (Int32.toNatClampNeg 1))]) (rest := []) B h (k195_X11_slack l D cI cJ cB cZ ad bd (xs (Int32.toNatClampNeg 1))) ⟨⟨_, rfl⟩, by decide +kernel, Nat.le_of_ble_eq_true rfl, Nat.le_of_ble_eq_true rfl⟩ gT_X11_slack (show (WX cI cJ cB cZ ad)[0]? = some (ad 0, .inr (11, _)) from rfl) rfl rfl hl.1 rfl (Nat.le_of_ble_eq_true rfl) dL_law_881 ⟨Nat.le_of_ble_eq_true rfl, Nat.le_of_ble_eq_true rfl⟩ (fun r_1 u_1 H locs hp_1 h => ?_)
  refine lv_aload_n hx hb dL_law_884 rfl (lv_at hl 1 rfl) ?_
  refine lv_aload_n hx hb dL_law_885 rfl (lv_at hl 3 rfl) ?_
  refine lv_iload_n hx hb dL_law_886 rfl (lv_at hl 0 rfl) ?_
  refine lv_iconst (v := 1) hx hb dL_law_887 (by decide) ?_
  refine lv_iadd hx hb dL_law_888 ?_
  refine lv_topi (fun v_888 ev_888 => ?_)
  obtain rfl : v_888 = 1 := ev_888.trans (by decide)
  refine va_sld hx hb hX hbl hbA h.2.2.1 (vp_in_iff.mpr (by decide)) dL_law_889 ?_
  have h := hp_nil h
  refine x_cVI (n := 1) (post := []) (wc := WM cI cJ cB cZ bd) (As := [.int (xs (Int32.toNatClampNeg 1))]) (rest := [.int r_1]) B h (k212_X12_slack l D cI cJ cB cZ ad bd (xs (Int32.toNatClampNeg 1))) ⟨⟨_, rfl⟩, by decide +kernel, Nat.le_of_ble_eq_true rfl, Nat.le_of_ble_eq_true rfl⟩ gT_X12_slack (show (WM cI cJ cB cZ bd)[0]? = some (bd 0, .inr (12, _)) from rfl) rfl rfl hl.1 rfl (Nat.le_of_ble_eq_true rfl) dL_law_890 ⟨Nat.le_of_ble_eq_true rfl, Nat.le_of_ble_eq_true rfl⟩ (fun r_2 u_2 H locs hp_2 h => ?_)
  exact lv_icmp_eq (tgt := 1191) hx hb dL_law_893 (by decide) (fun _ => kk H locs h.2.2.1) (fun c_1 => absurd (eq_slack (xs (Int32.toNatClampNeg 1)) r_1 r_2 u_1 u_2 hp_1 hp_2) c_1)
set_option maxHeartbeats 4000000 in
set_option maxRecDepth 100000 in
theorem law_free {p : Program} {l : Launch} {e : Env} {s : State} {m : MethodId} {below : List Frame} {meth : Method} {c : Code} {Q : State → Prop} {D : va_G} {cI cJ cB cZ : ClassId} {ad bd : Nat → Nat} {b : Nat} {xs : Nat → Int32} {H : Heap} {locs : List Loc} {ls : Array Slot} (B : Bd p s m #[Value.ref b] meth c cL_law 4 lw_tbl RL D (TYS cI cJ cB cZ)) (hX : va_X b 6 xs s s.heap) (hbl : b < s.heap.size) (h : Hp D (fun q => s.heap.size ≤ q) s.heap (WX cI cJ cB cZ ad ++ WM cI cJ cB cZ bd) H locs) (hl : lv_has ls 4 [(3, .int 0), (2, .ref (bd 0)), (1, .ref (ad 0)), (0, .ref b)]) (kk : ∀ (H : Heap) (locs : List Loc), va_S (fun q => s.heap.size ≤ q) s.heap H locs → W p l e room_1 s m #[Value.ref b] below meth c H locs 56 11906 Q (F0 m 1191 ls [])) : W p l e room_1 s m #[Value.ref b] below meth c H locs 56 11906 Q (F0 m 898 ls []) := by
  have hx := B.1.1
  have hb := B.1.2.1
  have hbA : ¬ s.heap.size ≤ b := Nat.not_le.mpr hbl
  refine lv_aload_n hx hb dL_law_898 rfl (lv_at hl 2 rfl) ?_
  refine lv_aload_n hx hb dL_law_899 rfl (lv_at hl 3 rfl) ?_
  refine lv_iload_n hx hb dL_law_900 rfl (lv_at hl 0 rfl) ?_
  refine lv_iconst (v := 1) hx hb dL_law_901 (by decide) ?_
  refine lv_iadd hx hb dL_law_902 ?_
  refine lv_topi (fun v_902 ev_902 => ?_)
  obtain rfl : v_902 = 1 := ev_902.trans (by decide)
  refine va_sld hx hb hX hbl hbA h.2.2.1 (vp_in_iff.mpr (by decide)) dL_law_903 ?_
  have h : Hp D (fun q => s.heap.size ≤ q) s.heap ([] ++ (WX cI cJ cB cZ ad ++ WM cI cJ cB cZ bd)) H locs := h
  refine x_cVI (n := 1) (pre := []) (post := WM cI cJ cB cZ bd) (wc := WX cI cJ cB cZ ad) (As := [.int (xs (Int32.toNatClampNeg 1))]) (rest := []) B h (k213_X11_free l D cI cJ cB cZ ad bd (xs (Int32.toNatClampNeg 1))) ⟨⟨_, rfl⟩, by decide +kernel, Nat.le_of_ble_eq_true rfl, Nat.le_of_ble_eq_true rfl⟩ gT_X11_free (show (WX cI cJ cB cZ ad)[0]? = some (ad 0, .inr (11, _)) from rfl) rfl rfl hl.1 rfl (Nat.le_of_ble_eq_true rfl) dL_law_904 ⟨Nat.le_of_ble_eq_true rfl, Nat.le_of_ble_eq_true rfl⟩ (fun r_1 u_1 H locs hp_1 h => ?_)
  refine lv_aload_n hx hb dL_law_907 rfl (lv_at hl 1 rfl) ?_
  refine lv_aload_n hx hb dL_law_908 rfl (lv_at hl 3 rfl) ?_
  refine lv_iload_n hx hb dL_law_909 rfl (lv_at hl 0 rfl) ?_
  refine lv_iconst (v := 1) hx hb dL_law_910 (by decide) ?_
  refine lv_iadd hx hb dL_law_911 ?_
  refine lv_topi (fun v_911 ev_911 => ?_)
  obtain rfl : v_911 = 1 := ev_911.trans (by decide)
  refine va_sld hx hb hX hbl hbA h.2.2.1 (vp_in_iff.mpr (by decide)) dL_law_912 ?_
  have h := hp_nil h
  refine x_cVI (n := 1) (post := []) (wc := WM cI cJ cB cZ bd) (As := [.int (xs (Int32.toNatClampNeg 1))]) (rest := [.int r_1]) B h (k214_X12_free l D cI cJ cB cZ ad bd (xs (Int32.toNatClampNeg 1))) ⟨⟨_, rfl⟩, by decide +kernel, Nat.le_of_ble_eq_true rfl, Nat.le_of_ble_eq_true rfl⟩ gT_X12_free (show (WM cI cJ cB cZ bd)[0]? = some (bd 0, .inr (12, _)) from rfl) rfl rfl hl.1 rfl (Nat.le_of_ble_eq_true rfl) dL_law_913 ⟨Nat.le_of_ble_eq_true rfl, Nat.le_of_ble_eq_true rfl⟩ (fun r_2 u_2 H locs hp_2 h => ?_)
  exact lv_icmp_eq (tgt := 1191) hx hb dL_law_916 (by decide) (fun _ => kk H locs h.2.2.1) (fun c_1 => absurd (eq_free (xs (Int32.toNatClampNeg 1)) r_1 r_2 u_1 u_2 hp_1 hp_2) c_1)
set_option maxHeartbeats 4000000 in
set_option maxRecDepth 100000 in
theorem law_facet {p : Program} {l : Launch} {e : Env} {s : State} {m : MethodId} {below : List Frame} {meth : Method} {c : Code} {Q : State → Prop} {D : va_G} {cI cJ cB cZ : ClassId} {ad bd : Nat → Nat} {b : Nat} {xs : Nat → Int32} {H : Heap} {locs : List Loc} {ls : Array Slot} (B : Bd p s m #[Value.ref b] meth c cL_law 4 lw_tbl RL D (TYS cI cJ cB cZ)) (hX : va_X b 6 xs s s.heap) (hbl : b < s.heap.size) (h : Hp D (fun q => s.heap.size ≤ q) s.heap (WX cI cJ cB cZ ad ++ WM cI cJ cB cZ bd) H locs) (hl : lv_has ls 4 [(3, .int 0), (2, .ref (bd 0)), (1, .ref (ad 0)), (0, .ref b)]) (kk : ∀ (H : Heap) (locs : List Loc), va_S (fun q => s.heap.size ≤ q) s.heap H locs → W p l e room_1 s m #[Value.ref b] below meth c H locs 56 11906 Q (F0 m 1191 ls [])) : W p l e room_1 s m #[Value.ref b] below meth c H locs 56 11906 Q (F0 m 921 ls []) := by
  have hx := B.1.1
  have hb := B.1.2.1
  have hbA : ¬ s.heap.size ≤ b := Nat.not_le.mpr hbl
  refine lv_aload_n hx hb dL_law_921 rfl (lv_at hl 2 rfl) ?_
  refine lv_aload_n hx hb dL_law_922 rfl (lv_at hl 3 rfl) ?_
  refine lv_iload_n hx hb dL_law_923 rfl (lv_at hl 0 rfl) ?_
  refine lv_iconst (v := 1) hx hb dL_law_924 (by decide) ?_
  refine lv_iadd hx hb dL_law_925 ?_
  refine lv_topi (fun v_925 ev_925 => ?_)
  obtain rfl : v_925 = 1 := ev_925.trans (by decide)
  refine va_sld hx hb hX hbl hbA h.2.2.1 (vp_in_iff.mpr (by decide)) dL_law_926 ?_
  have h : Hp D (fun q => s.heap.size ≤ q) s.heap ([] ++ (WX cI cJ cB cZ ad ++ WM cI cJ cB cZ bd)) H locs := h
  refine x_cVI (n := 1) (pre := []) (post := WM cI cJ cB cZ bd) (wc := WX cI cJ cB cZ ad) (As := [.int (xs (Int32.toNatClampNeg 1))]) (rest := []) B h (k215_X11_facet l D cI cJ cB cZ ad bd (xs (Int32.toNatClampNeg 1))) ⟨⟨_, rfl⟩, by decide +kernel, Nat.le_of_ble_eq_true rfl, Nat.le_of_ble_eq_true rfl⟩ gT_X11_facet (show (WX cI cJ cB cZ ad)[0]? = some (ad 0, .inr (11, _)) from rfl) rfl rfl hl.1 rfl (Nat.le_of_ble_eq_true rfl) dL_law_927 ⟨Nat.le_of_ble_eq_true rfl, Nat.le_of_ble_eq_true rfl⟩ (fun r_1 u_1 H locs hp_1 h => ?_)
  refine lv_aload_n hx hb dL_law_930 rfl (lv_at hl 1 rfl) ?_
  refine lv_aload_n hx hb dL_law_931 rfl (lv_at hl 3 rfl) ?_
  refine lv_iload_n hx hb dL_law_932 rfl (lv_at hl 0 rfl) ?_
  refine lv_iconst (v := 1) hx hb dL_law_933 (by decide) ?_
  refine lv_iadd hx hb dL_law_934 ?_
  refine lv_topi (fun v_934 ev_934 => ?_)
  obtain rfl : v_934 = 1 := ev_934.trans (by decide)
  refine va_sld hx hb hX hbl hbA h.2.2.1 (vp_in_iff.mpr (by decide)) dL_law_935 ?_
  have h := hp_nil h
  refine x_cVI (n := 1) (post := []) (wc := WM cI cJ cB cZ bd) (As := [.int (xs (Int32.toNatClampNeg 1))]) (rest := [.int r_1]) B h (k216_X12_facet l D cI cJ cB cZ ad bd (xs (Int32.toNatClampNeg 1))) ⟨⟨_, rfl⟩, by decide +kernel, Nat.le_of_ble_eq_true rfl, Nat.le_of_ble_eq_true rfl⟩ gT_X12_facet (show (WM cI cJ cB cZ bd)[0]? = some (bd 0, .inr (12, _)) from rfl) rfl rfl hl.1 rfl (Nat.le_of_ble_eq_true rfl) dL_law_936 ⟨Nat.le_of_ble_eq_true rfl, Nat.le_of_ble_eq_true rfl⟩ (fun r_2 u_2 H locs hp_2 h => ?_)
  exact lv_icmp_eq (tgt := 1191) hx hb dL_law_939 (by decide) (fun _ => kk H locs h.2.2.1) (fun c_1 => absurd (eq_facet (xs (Int32.toNatClampNeg 1)) r_1 r_2 u_1 u_2 hp_1 hp_2) c_1)
set_option maxHeartbeats 4000000 in
set_option maxRecDepth 100000 in
theorem law_link {p : Program} {l : Launch} {e : Env} {s : State} {m : MethodId} {below : List Frame} {meth : Method} {c : Code} {Q : State → Prop} {D : va_G} {cI cJ cB cZ : ClassId} {ad bd : Nat → Nat} {b : Nat} {xs : Nat → Int32} {H : Heap} {locs : List Loc} {ls : Array Slot} (B : Bd p s m #[Value.ref b] meth c cL_law 4 lw_tbl RL D (TYS cI cJ cB cZ)) (hX : va_X b 6 xs s s.heap) (hbl : b < s.heap.size) (h : Hp D (fun q => s.heap.size ≤ q) s.heap (WX cI cJ cB cZ ad ++ WM cI cJ cB cZ bd) H locs) (hl : lv_has ls 4 [(3, .int 0), (2, .ref (bd 0)), (1, .ref (ad 0)), (0, .ref b)]) (kk : ∀ (H : Heap) (locs : List Loc), va_S (fun q => s.heap.size ≤ q) s.heap H locs → W p l e room_1 s m #[Value.ref b] below meth c H locs 56 11906 Q (F0 m 1191 ls [])) : W p l e room_1 s m #[Value.ref b] below meth c H locs 56 11906 Q (F0 m 944 ls []) := by
  have hx := B.1.1
  have hb := B.1.2.1
  have hbA : ¬ s.heap.size ≤ b := Nat.not_le.mpr hbl
  refine lv_aload_n hx hb dL_law_944 rfl (lv_at hl 2 rfl) ?_
  refine lv_aload_n hx hb dL_law_945 rfl (lv_at hl 3 rfl) ?_
  refine lv_iload_n hx hb dL_law_946 rfl (lv_at hl 0 rfl) ?_
  refine lv_iconst (v := 1) hx hb dL_law_947 (by decide) ?_
  refine lv_iadd hx hb dL_law_948 ?_
  refine lv_topi (fun v_948 ev_948 => ?_)
  obtain rfl : v_948 = 1 := ev_948.trans (by decide)
  refine va_sld hx hb hX hbl hbA h.2.2.1 (vp_in_iff.mpr (by decide)) dL_law_949 ?_
  refine lv_aload_n hx hb dL_law_950 rfl (lv_at hl 3 rfl) ?_
  refine lv_iload_n hx hb dL_law_951 rfl (lv_at hl 0 rfl) ?_
  refine lv_iconst (v := 2) hx hb dL_law_952 (by decide) ?_
  refine lv_iadd hx hb dL_law_953 ?_
  refine lv_topi (fun v_953 ev_953 => ?_)
  obtain rfl : v_953 = 2 := ev_953.trans (by decide)
  refine va_sld hx hb hX hbl hbA h.2.2.1 (vp_in_iff.mpr (by decide)) dL_law_954 ?_
  have h : Hp D (fun q => s.heap.size ≤ q) s.heap ([] ++ (WX cI cJ cB cZ ad ++ WM cI cJ cB cZ bd)) H locs := h
  refine x_cVI (n := 2) (pre := []) (post := WM cI cJ cB cZ bd) (wc := WX cI cJ cB cZ ad) (As := [.int (xs (Int32.toNatClampNeg 1)), .int (xs (Int32.toNatClampNeg 2))]) (rest := []) B h (k217_X11_link l D cI cJ cB cZ ad bd (xs (Int32.toNatClampNeg 1)) (xs (Int32.toNatClampNeg 2))) ⟨⟨_, rfl⟩, by decide +kernel, Nat.le_of_ble_eq_true rfl, Nat.le_of_ble_eq_true rfl⟩ gT_X11_link (show (WX cI cJ cB cZ ad)[0]? = some (ad 0, .inr (11, _)) from rfl) rfl rfl hl.1 rfl (Nat.le_of_ble_eq_true rfl) dL_law_955 ⟨Nat.le_of_ble_eq_true rfl, Nat.le_of_ble_eq_true rfl⟩ (fun r_1 u_1 H locs hp_1 h => ?_)
  refine lv_aload_n hx hb dL_law_958 rfl (lv_at hl 1 rfl) ?_
  refine lv_aload_n hx hb dL_law_959 rfl (lv_at hl 3 rfl) ?_
  refine lv_iload_n hx hb dL_law_960 rfl (lv_at hl 0 rfl) ?_
  refine lv_iconst (v := 1) hx hb dL_law_961 (by decide) ?_
  refine lv_iadd hx hb dL_law_962 ?_
  refine lv_topi (fun v_962 ev_962 => ?_)
  obtain rfl : v_962 = 1 := ev_962.trans (by decide)
  refine va_sld hx hb hX hbl hbA h.2.2.1 (vp_in_iff.mpr (by decide)) dL_law_963 ?_
  refine lv_aload_n hx hb dL_law_964 rfl (lv_at hl 3 rfl) ?_
  refine lv_iload_n hx hb dL_law_965 rfl (lv_at hl 0 rfl) ?_
  refine lv_iconst (v := 2) hx hb dL_law_966 (by decide) ?_
  refine lv_iadd hx hb dL_law_967 ?_
  refine lv_topi (fun v_967 ev_967 => ?_)
  obtain rfl : v_967 = 2 := ev_967.trans (by decide)
  refine va_sld hx hb hX hbl hbA h.2.2.1 (vp_in_iff.mpr (by decide)) dL_law_968 ?_
  have h := hp_nil h
  refine x_cVI (n := 2) (post := []) (wc := WM cI cJ cB cZ bd) (As := [.int (xs (Int32.toNatClampNeg 1)), .int (xs (Int32.toNatClampNeg 2))]) (rest := [.int r_1]) B h (k218_X12_link l D cI cJ cB cZ ad bd (xs (Int32.toNatClampNeg 1)) (xs (Int32.toNatClampNeg 2))) ⟨⟨_, rfl⟩, by decide +kernel, Nat.le_of_ble_eq_true rfl, Nat.le_of_ble_eq_true rfl⟩ gT_X12_link (show (WM cI cJ cB cZ bd)[0]? = some (bd 0, .inr (12, _)) from rfl) rfl rfl hl.1 rfl (Nat.le_of_ble_eq_true rfl) dL_law_969 ⟨Nat.le_of_ble_eq_true rfl, Nat.le_of_ble_eq_true rfl⟩ (fun r_2 u_2 H locs hp_2 h => ?_)
  exact lv_icmp_eq (tgt := 1191) hx hb dL_law_972 (by decide) (fun _ => kk H locs h.2.2.1) (fun c_1 => absurd (eq_link (xs (Int32.toNatClampNeg 1)) (xs (Int32.toNatClampNeg 2)) r_1 r_2 u_1 u_2 hp_1 hp_2) c_1)
set_option maxHeartbeats 4000000 in
set_option maxRecDepth 100000 in
theorem law_room {p : Program} {l : Launch} {e : Env} {s : State} {m : MethodId} {below : List Frame} {meth : Method} {c : Code} {Q : State → Prop} {D : va_G} {cI cJ cB cZ : ClassId} {ad bd : Nat → Nat} {b : Nat} {xs : Nat → Int32} {H : Heap} {locs : List Loc} {ls : Array Slot} (B : Bd p s m #[Value.ref b] meth c cL_law 4 lw_tbl RL D (TYS cI cJ cB cZ)) (hX : va_X b 6 xs s s.heap) (hbl : b < s.heap.size) (h : Hp D (fun q => s.heap.size ≤ q) s.heap (WX cI cJ cB cZ ad ++ WM cI cJ cB cZ bd) H locs) (hl : lv_has ls 4 [(3, .int 0), (2, .ref (bd 0)), (1, .ref (ad 0)), (0, .ref b)]) (kk : ∀ (H : Heap) (locs : List Loc), va_S (fun q => s.heap.size ≤ q) s.heap H locs → W p l e room_1 s m #[Value.ref b] below meth c H locs 56 11906 Q (F0 m 1191 ls [])) : W p l e room_1 s m #[Value.ref b] below meth c H locs 56 11906 Q (F0 m 977 ls []) := by
  have hx := B.1.1
  have hb := B.1.2.1
  have hbA : ¬ s.heap.size ≤ b := Nat.not_le.mpr hbl
  refine lv_aload_n hx hb dL_law_977 rfl (lv_at hl 2 rfl) ?_
  refine lv_aload_n hx hb dL_law_978 rfl (lv_at hl 3 rfl) ?_
  refine lv_iload_n hx hb dL_law_979 rfl (lv_at hl 0 rfl) ?_
  refine lv_iconst (v := 1) hx hb dL_law_980 (by decide) ?_
  refine lv_iadd hx hb dL_law_981 ?_
  refine lv_topi (fun v_981 ev_981 => ?_)
  obtain rfl : v_981 = 1 := ev_981.trans (by decide)
  refine va_sld hx hb hX hbl hbA h.2.2.1 (vp_in_iff.mpr (by decide)) dL_law_982 ?_
  have h : Hp D (fun q => s.heap.size ≤ q) s.heap ([] ++ (WX cI cJ cB cZ ad ++ WM cI cJ cB cZ bd)) H locs := h
  refine x_cVI (n := 1) (pre := []) (post := WM cI cJ cB cZ bd) (wc := WX cI cJ cB cZ ad) (As := [.int (xs (Int32.toNatClampNeg 1))]) (rest := []) B h (k219_X11_room l D cI cJ cB cZ ad bd (xs (Int32.toNatClampNeg 1))) ⟨⟨_, rfl⟩, by decide +kernel, Nat.le_of_ble_eq_true rfl, Nat.le_of_ble_eq_true rfl⟩ gT_X11_room (show (WX cI cJ cB cZ ad)[0]? = some (ad 0, .inr (11, _)) from rfl) rfl rfl hl.1 rfl (Nat.le_of_ble_eq_true rfl) dL_law_983 ⟨Nat.le_of_ble_eq_true rfl, Nat.le_of_ble_eq_true rfl⟩ (fun r_1 u_1 H locs hp_1 h => ?_)
  refine lv_aload_n hx hb dL_law_986 rfl (lv_at hl 1 rfl) ?_
  refine lv_aload_n hx hb dL_law_987 rfl (lv_at hl 3 rfl) ?_
  refine lv_iload_n hx hb dL_law_988 rfl (lv_at hl 0 rfl) ?_
  refine lv_iconst (v := 1) hx hb dL_law_989 (by decide) ?_
  refine lv_iadd hx hb dL_law_990 ?_
  refine lv_topi (fun v_990 ev_990 => ?_)
  obtain rfl : v_990 = 1 := ev_990.trans (by decide)
  refine va_sld hx hb hX hbl hbA h.2.2.1 (vp_in_iff.mpr (by decide)) dL_law_991 ?_
  have h := hp_nil h
  refine x_cVI (n := 1) (post := []) (wc := WM cI cJ cB cZ bd) (As := [.int (xs (Int32.toNatClampNeg 1))]) (rest := [.int r_1]) B h (k220_X12_room l D cI cJ cB cZ ad bd (xs (Int32.toNatClampNeg 1))) ⟨⟨_, rfl⟩, by decide +kernel, Nat.le_of_ble_eq_true rfl, Nat.le_of_ble_eq_true rfl⟩ gT_X12_room (show (WM cI cJ cB cZ bd)[0]? = some (bd 0, .inr (12, _)) from rfl) rfl rfl hl.1 rfl (Nat.le_of_ble_eq_true rfl) dL_law_992 ⟨Nat.le_of_ble_eq_true rfl, Nat.le_of_ble_eq_true rfl⟩ (fun r_2 u_2 H locs hp_2 h => ?_)
  exact lv_icmp_eq (tgt := 1191) hx hb dL_law_995 (by decide) (fun _ => kk H locs h.2.2.1) (fun c_1 => absurd (eq_room (xs (Int32.toNatClampNeg 1)) r_1 r_2 u_1 u_2 hp_1 hp_2) c_1)
set_option maxHeartbeats 4000000 in
set_option maxRecDepth 100000 in
theorem law_draws {p : Program} {l : Launch} {e : Env} {s : State} {m : MethodId} {below : List Frame} {meth : Method} {c : Code} {Q : State → Prop} {D : va_G} {cI cJ cB cZ : ClassId} {ad bd : Nat → Nat} {b : Nat} {xs : Nat → Int32} {H : Heap} {locs : List Loc} {ls : Array Slot} (B : Bd p s m #[Value.ref b] meth c cL_law 4 lw_tbl RL D (TYS cI cJ cB cZ)) (hX : va_X b 6 xs s s.heap) (hbl : b < s.heap.size) (h : Hp D (fun q => s.heap.size ≤ q) s.heap (WX cI cJ cB cZ ad ++ WM cI cJ cB cZ bd) H locs) (hl : lv_has ls 4 [(3, .int 0), (2, .ref (bd 0)), (1, .ref (ad 0)), (0, .ref b)]) (kk : ∀ (H : Heap) (locs : List Loc), va_S (fun q => s.heap.size ≤ q) s.heap H locs → W p l e room_1 s m #[Value.ref b] below meth c H locs 56 11906 Q (F0 m 1191 ls [])) : W p l e room_1 s m #[Value.ref b] below meth c H locs 56 11906 Q (F0 m 1000 ls []) := by
  have hx := B.1.1
  have hb := B.1.2.1
  have hbA : ¬ s.heap.size ≤ b := Nat.not_le.mpr hbl
  refine lv_aload_n hx hb dL_law_1000 rfl (lv_at hl 2 rfl) ?_
  refine lv_aload_n hx hb dL_law_1001 rfl (lv_at hl 3 rfl) ?_
  refine lv_iload_n hx hb dL_law_1002 rfl (lv_at hl 0 rfl) ?_
  refine lv_iconst (v := 1) hx hb dL_law_1003 (by decide) ?_
  refine lv_iadd hx hb dL_law_1004 ?_
  refine lv_topi (fun v_1004 ev_1004 => ?_)
  obtain rfl : v_1004 = 1 := ev_1004.trans (by decide)
  refine va_sld hx hb hX hbl hbA h.2.2.1 (vp_in_iff.mpr (by decide)) dL_law_1005 ?_
  have h : Hp D (fun q => s.heap.size ≤ q) s.heap ([] ++ (WX cI cJ cB cZ ad ++ WM cI cJ cB cZ bd)) H locs := h
  refine x_cVI (n := 1) (pre := []) (post := WM cI cJ cB cZ bd) (wc := WX cI cJ cB cZ ad) (As := [.int (xs (Int32.toNatClampNeg 1))]) (rest := []) B h (k221_X11_draws l D cI cJ cB cZ ad bd (xs (Int32.toNatClampNeg 1))) ⟨⟨_, rfl⟩, by decide +kernel, Nat.le_of_ble_eq_true rfl, Nat.le_of_ble_eq_true rfl⟩ gT_X11_draws (show (WX cI cJ cB cZ ad)[0]? = some (ad 0, .inr (11, _)) from rfl) rfl rfl hl.1 rfl (Nat.le_of_ble_eq_true rfl) dL_law_1006 ⟨Nat.le_of_ble_eq_true rfl, Nat.le_of_ble_eq_true rfl⟩ (fun r_1 u_1 H locs hp_1 h => ?_)
  refine lv_aload_n hx hb dL_law_1009 rfl (lv_at hl 1 rfl) ?_
  refine lv_aload_n hx hb dL_law_1010 rfl (lv_at hl 3 rfl) ?_
  refine lv_iload_n hx hb dL_law_1011 rfl (lv_at hl 0 rfl) ?_
  refine lv_iconst (v := 1) hx hb dL_law_1012 (by decide) ?_
  refine lv_iadd hx hb dL_law_1013 ?_
  refine lv_topi (fun v_1013 ev_1013 => ?_)
  obtain rfl : v_1013 = 1 := ev_1013.trans (by decide)
  refine va_sld hx hb hX hbl hbA h.2.2.1 (vp_in_iff.mpr (by decide)) dL_law_1014 ?_
  have h := hp_nil h
  refine x_cVI (n := 1) (post := []) (wc := WM cI cJ cB cZ bd) (As := [.int (xs (Int32.toNatClampNeg 1))]) (rest := [.int r_1]) B h (k222_X12_draws l D cI cJ cB cZ ad bd (xs (Int32.toNatClampNeg 1))) ⟨⟨_, rfl⟩, by decide +kernel, Nat.le_of_ble_eq_true rfl, Nat.le_of_ble_eq_true rfl⟩ gT_X12_draws (show (WM cI cJ cB cZ bd)[0]? = some (bd 0, .inr (12, _)) from rfl) rfl rfl hl.1 rfl (Nat.le_of_ble_eq_true rfl) dL_law_1015 ⟨Nat.le_of_ble_eq_true rfl, Nat.le_of_ble_eq_true rfl⟩ (fun r_2 u_2 H locs hp_2 h => ?_)
  exact lv_icmp_eq (tgt := 1191) hx hb dL_law_1018 (by decide) (fun _ => kk H locs h.2.2.1) (fun c_1 => absurd (eq_draws (xs (Int32.toNatClampNeg 1)) r_1 r_2 u_1 u_2 hp_1 hp_2) c_1)
set_option maxHeartbeats 4000000 in
set_option maxRecDepth 100000 in
theorem law_drawn {p : Program} {l : Launch} {e : Env} {s : State} {m : MethodId} {below : List Frame} {meth : Method} {c : Code} {Q : State → Prop} {D : va_G} {cI cJ cB cZ : ClassId} {ad bd : Nat → Nat} {b : Nat} {xs : Nat → Int32} {H : Heap} {locs : List Loc} {ls : Array Slot} (B : Bd p s m #[Value.ref b] meth c cL_law 4 lw_tbl RL D (TYS cI cJ cB cZ)) (hX : va_X b 6 xs s s.heap) (hbl : b < s.heap.size) (h : Hp D (fun q => s.heap.size ≤ q) s.heap (WX cI cJ cB cZ ad ++ WM cI cJ cB cZ bd) H locs) (hl : lv_has ls 4 [(3, .int 0), (2, .ref (bd 0)), (1, .ref (ad 0)), (0, .ref b)]) (kk : ∀ (H : Heap) (locs : List Loc), va_S (fun q => s.heap.size ≤ q) s.heap H locs → W p l e room_1 s m #[Value.ref b] below meth c H locs 56 11906 Q (F0 m 1191 ls [])) : W p l e room_1 s m #[Value.ref b] below meth c H locs 56 11906 Q (F0 m 1023 ls []) := by
  have hx := B.1.1
  have hb := B.1.2.1
  have hbA : ¬ s.heap.size ≤ b := Nat.not_le.mpr hbl
  refine lv_aload_n hx hb dL_law_1023 rfl (lv_at hl 2 rfl) ?_
  refine lv_aload_n hx hb dL_law_1024 rfl (lv_at hl 3 rfl) ?_
  refine lv_iload_n hx hb dL_law_1025 rfl (lv_at hl 0 rfl) ?_
  refine lv_iconst (v := 1) hx hb dL_law_1026 (by decide) ?_
  refine lv_iadd hx hb dL_law_1027 ?_
  refine lv_topi (fun v_1027 ev_1027 => ?_)
  obtain rfl : v_1027 = 1 := ev_1027.trans (by decide)
  refine va_sld hx hb hX hbl hbA h.2.2.1 (vp_in_iff.mpr (by decide)) dL_law_1028 ?_
  refine lv_aload_n hx hb dL_law_1029 rfl (lv_at hl 3 rfl) ?_
  refine lv_iload_n hx hb dL_law_1030 rfl (lv_at hl 0 rfl) ?_
  refine lv_iconst (v := 2) hx hb dL_law_1031 (by decide) ?_
  refine lv_iadd hx hb dL_law_1032 ?_
  refine lv_topi (fun v_1032 ev_1032 => ?_)
  obtain rfl : v_1032 = 2 := ev_1032.trans (by decide)
  refine va_sld hx hb hX hbl hbA h.2.2.1 (vp_in_iff.mpr (by decide)) dL_law_1033 ?_
  have h : Hp D (fun q => s.heap.size ≤ q) s.heap ([] ++ (WX cI cJ cB cZ ad ++ WM cI cJ cB cZ bd)) H locs := h
  refine x_cVI (n := 2) (pre := []) (post := WM cI cJ cB cZ bd) (wc := WX cI cJ cB cZ ad) (As := [.int (xs (Int32.toNatClampNeg 1)), .int (xs (Int32.toNatClampNeg 2))]) (rest := []) B h (k223_X11_drawn l D cI cJ cB cZ ad bd (xs (Int32.toNatClampNeg 1)) (xs (Int32.toNatClampNeg 2))) ⟨⟨_, rfl⟩, by decide +kernel, Nat.le_of_ble_eq_true rfl, Nat.le_of_ble_eq_true rfl⟩ gT_X11_drawn (show (WX cI cJ cB cZ ad)[0]? = some (ad 0, .inr (11, _)) from rfl) rfl rfl hl.1 rfl (Nat.le_of_ble_eq_true rfl) dL_law_1034 ⟨Nat.le_of_ble_eq_true rfl, Nat.le_of_ble_eq_true rfl⟩ (fun r_1 u_1 H locs hp_1 h => ?_)
  refine lv_aload_n hx hb dL_law_1037 rfl (lv_at hl 1 rfl) ?_
  refine lv_aload_n hx hb dL_law_1038 rfl (lv_at hl 3 rfl) ?_
  refine lv_iload_n hx hb dL_law_1039 rfl (lv_at hl 0 rfl) ?_
  refine lv_iconst (v := 1) hx hb dL_law_1040 (by decide) ?_
  refine lv_iadd hx hb dL_law_1041 ?_
  refine lv_topi (fun v_1041 ev_1041 => ?_)
  obtain rfl : v_1041 = 1 := ev_1041.trans (by decide)
  refine va_sld hx hb hX hbl hbA h.2.2.1 (vp_in_iff.mpr (by decide)) dL_law_1042 ?_
  refine lv_aload_n hx hb dL_law_1043 rfl (lv_at hl 3 rfl) ?_
  refine lv_iload_n hx hb dL_law_1044 rfl (lv_at hl 0 rfl) ?_
  refine lv_iconst (v := 2) hx hb dL_law_1045 (by decide) ?_
  refine lv_iadd hx hb dL_law_1046 ?_
  refine lv_topi (fun v_1046 ev_1046 => ?_)
  obtain rfl : v_1046 = 2 := ev_1046.trans (by decide)
  refine va_sld hx hb hX hbl hbA h.2.2.1 (vp_in_iff.mpr (by decide)) dL_law_1047 ?_
  have h := hp_nil h
  refine x_cVI (n := 2) (post := []) (wc := WM cI cJ cB cZ bd) (As := [.int (xs (Int32.toNatClampNeg 1)), .int (xs (Int32.toNatClampNeg 2))]) (rest := [.int r_1]) B h (k224_X12_drawn l D cI cJ cB cZ ad bd (xs (Int32.toNatClampNeg 1)) (xs (Int32.toNatClampNeg 2))) ⟨⟨_, rfl⟩, by decide +kernel, Nat.le_of_ble_eq_true rfl, Nat.le_of_ble_eq_true rfl⟩ gT_X12_drawn (show (WM cI cJ cB cZ bd)[0]? = some (bd 0, .inr (12, _)) from rfl) rfl rfl hl.1 rfl (Nat.le_of_ble_eq_true rfl) dL_law_1048 ⟨Nat.le_of_ble_eq_true rfl, Nat.le_of_ble_eq_true rfl⟩ (fun r_2 u_2 H locs hp_2 h => ?_)
  exact lv_icmp_eq (tgt := 1191) hx hb dL_law_1051 (by decide) (fun _ => kk H locs h.2.2.1) (fun c_1 => absurd (eq_drawn (xs (Int32.toNatClampNeg 1)) (xs (Int32.toNatClampNeg 2)) r_1 r_2 u_1 u_2 hp_1 hp_2) c_1)
set_option maxHeartbeats 4000000 in
set_option maxRecDepth 100000 in
theorem law_level {p : Program} {l : Launch} {e : Env} {s : State} {m : MethodId} {below : List Frame} {meth : Method} {c : Code} {Q : State → Prop} {D : va_G} {cI cJ cB cZ : ClassId} {ad bd : Nat → Nat} {b : Nat} {xs : Nat → Int32} {H : Heap} {locs : List Loc} {ls : Array Slot} (B : Bd p s m #[Value.ref b] meth c cL_law 4 lw_tbl RL D (TYS cI cJ cB cZ)) (hX : va_X b 6 xs s s.heap) (hbl : b < s.heap.size) (h : Hp D (fun q => s.heap.size ≤ q) s.heap (WX cI cJ cB cZ ad ++ WM cI cJ cB cZ bd) H locs) (hl : lv_has ls 4 [(3, .int 0), (2, .ref (bd 0)), (1, .ref (ad 0)), (0, .ref b)]) (kk : ∀ (H : Heap) (locs : List Loc), va_S (fun q => s.heap.size ≤ q) s.heap H locs → W p l e room_1 s m #[Value.ref b] below meth c H locs 56 11906 Q (F0 m 1191 ls [])) : W p l e room_1 s m #[Value.ref b] below meth c H locs 56 11906 Q (F0 m 1056 ls []) := by
  have hx := B.1.1
  have hb := B.1.2.1
  have hbA : ¬ s.heap.size ≤ b := Nat.not_le.mpr hbl
  refine lv_aload_n hx hb dL_law_1056 rfl (lv_at hl 2 rfl) ?_
  refine lv_aload_n hx hb dL_law_1057 rfl (lv_at hl 3 rfl) ?_
  refine lv_iload_n hx hb dL_law_1058 rfl (lv_at hl 0 rfl) ?_
  refine lv_iconst (v := 1) hx hb dL_law_1059 (by decide) ?_
  refine lv_iadd hx hb dL_law_1060 ?_
  refine lv_topi (fun v_1060 ev_1060 => ?_)
  obtain rfl : v_1060 = 1 := ev_1060.trans (by decide)
  refine va_sld hx hb hX hbl hbA h.2.2.1 (vp_in_iff.mpr (by decide)) dL_law_1061 ?_
  refine lv_aload_n hx hb dL_law_1062 rfl (lv_at hl 3 rfl) ?_
  refine lv_iload_n hx hb dL_law_1063 rfl (lv_at hl 0 rfl) ?_
  refine lv_iconst (v := 2) hx hb dL_law_1064 (by decide) ?_
  refine lv_iadd hx hb dL_law_1065 ?_
  refine lv_topi (fun v_1065 ev_1065 => ?_)
  obtain rfl : v_1065 = 2 := ev_1065.trans (by decide)
  refine va_sld hx hb hX hbl hbA h.2.2.1 (vp_in_iff.mpr (by decide)) dL_law_1066 ?_
  have h : Hp D (fun q => s.heap.size ≤ q) s.heap ([] ++ (WX cI cJ cB cZ ad ++ WM cI cJ cB cZ bd)) H locs := h
  refine x_cVI (n := 2) (pre := []) (post := WM cI cJ cB cZ bd) (wc := WX cI cJ cB cZ ad) (As := [.int (xs (Int32.toNatClampNeg 1)), .int (xs (Int32.toNatClampNeg 2))]) (rest := []) B h (k228_X11_level l D cI cJ cB cZ ad bd (xs (Int32.toNatClampNeg 1)) (xs (Int32.toNatClampNeg 2))) ⟨⟨_, rfl⟩, by decide +kernel, Nat.le_of_ble_eq_true rfl, Nat.le_of_ble_eq_true rfl⟩ gT_X11_level (show (WX cI cJ cB cZ ad)[0]? = some (ad 0, .inr (11, _)) from rfl) rfl rfl hl.1 rfl (Nat.le_of_ble_eq_true rfl) dL_law_1067 ⟨Nat.le_of_ble_eq_true rfl, Nat.le_of_ble_eq_true rfl⟩ (fun r_1 u_1 H locs hp_1 h => ?_)
  refine lv_aload_n hx hb dL_law_1070 rfl (lv_at hl 1 rfl) ?_
  refine lv_aload_n hx hb dL_law_1071 rfl (lv_at hl 3 rfl) ?_
  refine lv_iload_n hx hb dL_law_1072 rfl (lv_at hl 0 rfl) ?_
  refine lv_iconst (v := 1) hx hb dL_law_1073 (by decide) ?_
  refine lv_iadd hx hb dL_law_1074 ?_
  refine lv_topi (fun v_1074 ev_1074 => ?_)
  obtain rfl : v_1074 = 1 := ev_1074.trans (by decide)
  refine va_sld hx hb hX hbl hbA h.2.2.1 (vp_in_iff.mpr (by decide)) dL_law_1075 ?_
  refine lv_aload_n hx hb dL_law_1076 rfl (lv_at hl 3 rfl) ?_
  refine lv_iload_n hx hb dL_law_1077 rfl (lv_at hl 0 rfl) ?_
  refine lv_iconst (v := 2) hx hb dL_law_1078 (by decide) ?_
  refine lv_iadd hx hb dL_law_1079 ?_
  refine lv_topi (fun v_1079 ev_1079 => ?_)
  obtain rfl : v_1079 = 2 := ev_1079.trans (by decide)
  refine va_sld hx hb hX hbl hbA h.2.2.1 (vp_in_iff.mpr (by decide)) dL_law_1080 ?_
  have h := hp_nil h
  refine x_cVI (n := 2) (post := []) (wc := WM cI cJ cB cZ bd) (As := [.int (xs (Int32.toNatClampNeg 1)), .int (xs (Int32.toNatClampNeg 2))]) (rest := [.int r_1]) B h (k230_X12_level l D cI cJ cB cZ ad bd (xs (Int32.toNatClampNeg 1)) (xs (Int32.toNatClampNeg 2))) ⟨⟨_, rfl⟩, by decide +kernel, Nat.le_of_ble_eq_true rfl, Nat.le_of_ble_eq_true rfl⟩ gT_X12_level (show (WM cI cJ cB cZ bd)[0]? = some (bd 0, .inr (12, _)) from rfl) rfl rfl hl.1 rfl (Nat.le_of_ble_eq_true rfl) dL_law_1081 ⟨Nat.le_of_ble_eq_true rfl, Nat.le_of_ble_eq_true rfl⟩ (fun r_2 u_2 H locs hp_2 h => ?_)
  exact lv_icmp_eq (tgt := 1191) hx hb dL_law_1084 (by decide) (fun _ => kk H locs h.2.2.1) (fun c_1 => absurd (eq_level (xs (Int32.toNatClampNeg 1)) (xs (Int32.toNatClampNeg 2)) r_1 r_2 u_1 u_2 hp_1 hp_2) c_1)
set_option maxHeartbeats 4000000 in
set_option maxRecDepth 100000 in
theorem law_levelBetti {p : Program} {l : Launch} {e : Env} {s : State} {m : MethodId} {below : List Frame} {meth : Method} {c : Code} {Q : State → Prop} {D : va_G} {cI cJ cB cZ : ClassId} {ad bd : Nat → Nat} {b : Nat} {xs : Nat → Int32} {H : Heap} {locs : List Loc} {ls : Array Slot} (B : Bd p s m #[Value.ref b] meth c cL_law 4 lw_tbl RL D (TYS cI cJ cB cZ)) (hX : va_X b 6 xs s s.heap) (hbl : b < s.heap.size) (h : Hp D (fun q => s.heap.size ≤ q) s.heap (WX cI cJ cB cZ ad ++ WM cI cJ cB cZ bd) H locs) (hl : lv_has ls 4 [(3, .int 0), (2, .ref (bd 0)), (1, .ref (ad 0)), (0, .ref b)]) (kk : ∀ (H : Heap) (locs : List Loc), va_S (fun q => s.heap.size ≤ q) s.heap H locs → W p l e room_1 s m #[Value.ref b] below meth c H locs 56 11906 Q (F0 m 1191 ls [])) : W p l e room_1 s m #[Value.ref b] below meth c H locs 56 11906 Q (F0 m 1089 ls []) := by
  have hx := B.1.1
  have hb := B.1.2.1
  have hbA : ¬ s.heap.size ≤ b := Nat.not_le.mpr hbl
  refine lv_aload_n hx hb dL_law_1089 rfl (lv_at hl 2 rfl) ?_
  refine lv_aload_n hx hb dL_law_1090 rfl (lv_at hl 3 rfl) ?_
  refine lv_iload_n hx hb dL_law_1091 rfl (lv_at hl 0 rfl) ?_
  refine lv_iconst (v := 1) hx hb dL_law_1092 (by decide) ?_
  refine lv_iadd hx hb dL_law_1093 ?_
  refine lv_topi (fun v_1093 ev_1093 => ?_)
  obtain rfl : v_1093 = 1 := ev_1093.trans (by decide)
  refine va_sld hx hb hX hbl hbA h.2.2.1 (vp_in_iff.mpr (by decide)) dL_law_1094 ?_
  refine lv_aload_n hx hb dL_law_1095 rfl (lv_at hl 3 rfl) ?_
  refine lv_iload_n hx hb dL_law_1096 rfl (lv_at hl 0 rfl) ?_
  refine lv_iconst (v := 2) hx hb dL_law_1097 (by decide) ?_
  refine lv_iadd hx hb dL_law_1098 ?_
  refine lv_topi (fun v_1098 ev_1098 => ?_)
  obtain rfl : v_1098 = 2 := ev_1098.trans (by decide)
  refine va_sld hx hb hX hbl hbA h.2.2.1 (vp_in_iff.mpr (by decide)) dL_law_1099 ?_
  have h : Hp D (fun q => s.heap.size ≤ q) s.heap ([] ++ (WX cI cJ cB cZ ad ++ WM cI cJ cB cZ bd)) H locs := h
  refine x_cVI (n := 2) (pre := []) (post := WM cI cJ cB cZ bd) (wc := WX cI cJ cB cZ ad) (As := [.int (xs (Int32.toNatClampNeg 1)), .int (xs (Int32.toNatClampNeg 2))]) (rest := []) B h (k252_X11_levelBetti l D cI cJ cB cZ ad bd (xs (Int32.toNatClampNeg 1)) (xs (Int32.toNatClampNeg 2))) ⟨⟨_, rfl⟩, by decide +kernel, Nat.le_of_ble_eq_true rfl, Nat.le_of_ble_eq_true rfl⟩ gT_X11_levelBetti (show (WX cI cJ cB cZ ad)[0]? = some (ad 0, .inr (11, _)) from rfl) rfl rfl hl.1 rfl (Nat.le_of_ble_eq_true rfl) dL_law_1100 ⟨Nat.le_of_ble_eq_true rfl, Nat.le_of_ble_eq_true rfl⟩ (fun r_1 u_1 H locs hp_1 h => ?_)
  refine lv_aload_n hx hb dL_law_1103 rfl (lv_at hl 1 rfl) ?_
  refine lv_aload_n hx hb dL_law_1104 rfl (lv_at hl 3 rfl) ?_
  refine lv_iload_n hx hb dL_law_1105 rfl (lv_at hl 0 rfl) ?_
  refine lv_iconst (v := 1) hx hb dL_law_1106 (by decide) ?_
  refine lv_iadd hx hb dL_law_1107 ?_
  refine lv_topi (fun v_1107 ev_1107 => ?_)
  obtain rfl : v_1107 = 1 := ev_1107.trans (by decide)
  refine va_sld hx hb hX hbl hbA h.2.2.1 (vp_in_iff.mpr (by decide)) dL_law_1108 ?_
  refine lv_aload_n hx hb dL_law_1109 rfl (lv_at hl 3 rfl) ?_
  refine lv_iload_n hx hb dL_law_1110 rfl (lv_at hl 0 rfl) ?_
  refine lv_iconst (v := 2) hx hb dL_law_1111 (by decide) ?_
  refine lv_iadd hx hb dL_law_1112 ?_
  refine lv_topi (fun v_1112 ev_1112 => ?_)
  obtain rfl : v_1112 = 2 := ev_1112.trans (by decide)
  refine va_sld hx hb hX hbl hbA h.2.2.1 (vp_in_iff.mpr (by decide)) dL_law_1113 ?_
  have h := hp_nil h
  refine x_cVI (n := 2) (post := []) (wc := WM cI cJ cB cZ bd) (As := [.int (xs (Int32.toNatClampNeg 1)), .int (xs (Int32.toNatClampNeg 2))]) (rest := [.int r_1]) B h (k253_X12_levelBetti l D cI cJ cB cZ ad bd (xs (Int32.toNatClampNeg 1)) (xs (Int32.toNatClampNeg 2))) ⟨⟨_, rfl⟩, by decide +kernel, Nat.le_of_ble_eq_true rfl, Nat.le_of_ble_eq_true rfl⟩ gT_X12_levelBetti (show (WM cI cJ cB cZ bd)[0]? = some (bd 0, .inr (12, _)) from rfl) rfl rfl hl.1 rfl (Nat.le_of_ble_eq_true rfl) dL_law_1114 ⟨Nat.le_of_ble_eq_true rfl, Nat.le_of_ble_eq_true rfl⟩ (fun r_2 u_2 H locs hp_2 h => ?_)
  exact lv_icmp_eq (tgt := 1191) hx hb dL_law_1117 (by decide) (fun _ => kk H locs h.2.2.1) (fun c_1 => absurd (eq_levelBetti (xs (Int32.toNatClampNeg 1)) (xs (Int32.toNatClampNeg 2)) r_1 r_2 u_1 u_2 hp_1 hp_2) c_1)
set_option maxHeartbeats 4000000 in
set_option maxRecDepth 100000 in
theorem law_keep {p : Program} {l : Launch} {e : Env} {s : State} {m : MethodId} {below : List Frame} {meth : Method} {c : Code} {Q : State → Prop} {D : va_G} {cI cJ cB cZ : ClassId} {ad bd : Nat → Nat} {b : Nat} {xs : Nat → Int32} {H : Heap} {locs : List Loc} {ls : Array Slot} (B : Bd p s m #[Value.ref b] meth c cL_law 4 lw_tbl RL D (TYS cI cJ cB cZ)) (hX : va_X b 6 xs s s.heap) (hbl : b < s.heap.size) (h : Hp D (fun q => s.heap.size ≤ q) s.heap (WX cI cJ cB cZ ad ++ WM cI cJ cB cZ bd) H locs) (hl : lv_has ls 4 [(3, .int 0), (2, .ref (bd 0)), (1, .ref (ad 0)), (0, .ref b)]) (kk : ∀ (H : Heap) (locs : List Loc), va_S (fun q => s.heap.size ≤ q) s.heap H locs → W p l e room_1 s m #[Value.ref b] below meth c H locs 56 11906 Q (F0 m 1191 ls [])) : W p l e room_1 s m #[Value.ref b] below meth c H locs 56 11906 Q (F0 m 1122 ls []) := by
  have hx := B.1.1
  have hb := B.1.2.1
  have hbA : ¬ s.heap.size ≤ b := Nat.not_le.mpr hbl
  refine lv_aload_n hx hb dL_law_1122 rfl (lv_at hl 2 rfl) ?_
  refine lv_aload_n hx hb dL_law_1123 rfl (lv_at hl 3 rfl) ?_
  refine lv_iload_n hx hb dL_law_1124 rfl (lv_at hl 0 rfl) ?_
  refine lv_iconst (v := 1) hx hb dL_law_1125 (by decide) ?_
  refine lv_iadd hx hb dL_law_1126 ?_
  refine lv_topi (fun v_1126 ev_1126 => ?_)
  obtain rfl : v_1126 = 1 := ev_1126.trans (by decide)
  refine va_sld hx hb hX hbl hbA h.2.2.1 (vp_in_iff.mpr (by decide)) dL_law_1127 ?_
  have h : Hp D (fun q => s.heap.size ≤ q) s.heap ([] ++ (WX cI cJ cB cZ ad ++ WM cI cJ cB cZ bd)) H locs := h
  refine x_cVI (n := 1) (pre := []) (post := WM cI cJ cB cZ bd) (wc := WX cI cJ cB cZ ad) (As := [.int (xs (Int32.toNatClampNeg 1))]) (rest := []) B h (k254_X11_keep l D cI cJ cB cZ ad bd (xs (Int32.toNatClampNeg 1))) ⟨⟨_, rfl⟩, by decide +kernel, Nat.le_of_ble_eq_true rfl, Nat.le_of_ble_eq_true rfl⟩ gT_X11_keep (show (WX cI cJ cB cZ ad)[0]? = some (ad 0, .inr (11, _)) from rfl) rfl rfl hl.1 rfl (Nat.le_of_ble_eq_true rfl) dL_law_1128 ⟨Nat.le_of_ble_eq_true rfl, Nat.le_of_ble_eq_true rfl⟩ (fun r_1 u_1 H locs hp_1 h => ?_)
  refine lv_aload_n hx hb dL_law_1131 rfl (lv_at hl 1 rfl) ?_
  refine lv_aload_n hx hb dL_law_1132 rfl (lv_at hl 3 rfl) ?_
  refine lv_iload_n hx hb dL_law_1133 rfl (lv_at hl 0 rfl) ?_
  refine lv_iconst (v := 1) hx hb dL_law_1134 (by decide) ?_
  refine lv_iadd hx hb dL_law_1135 ?_
  refine lv_topi (fun v_1135 ev_1135 => ?_)
  obtain rfl : v_1135 = 1 := ev_1135.trans (by decide)
  refine va_sld hx hb hX hbl hbA h.2.2.1 (vp_in_iff.mpr (by decide)) dL_law_1136 ?_
  have h := hp_nil h
  refine x_cVI (n := 1) (post := []) (wc := WM cI cJ cB cZ bd) (As := [.int (xs (Int32.toNatClampNeg 1))]) (rest := [.int r_1]) B h (k255_X12_keep l D cI cJ cB cZ ad bd (xs (Int32.toNatClampNeg 1))) ⟨⟨_, rfl⟩, by decide +kernel, Nat.le_of_ble_eq_true rfl, Nat.le_of_ble_eq_true rfl⟩ gT_X12_keep (show (WM cI cJ cB cZ bd)[0]? = some (bd 0, .inr (12, _)) from rfl) rfl rfl hl.1 rfl (Nat.le_of_ble_eq_true rfl) dL_law_1137 ⟨Nat.le_of_ble_eq_true rfl, Nat.le_of_ble_eq_true rfl⟩ (fun r_2 u_2 H locs hp_2 h => ?_)
  exact lv_icmp_eq (tgt := 1191) hx hb dL_law_1140 (by decide) (fun _ => kk H locs h.2.2.1) (fun c_1 => absurd (eq_keep (xs (Int32.toNatClampNeg 1)) r_1 r_2 u_1 u_2 hp_1 hp_2) c_1)
set_option maxHeartbeats 4000000 in
set_option maxRecDepth 100000 in
theorem law_same {p : Program} {l : Launch} {e : Env} {s : State} {m : MethodId} {below : List Frame} {meth : Method} {c : Code} {Q : State → Prop} {D : va_G} {cI cJ cB cZ : ClassId} {ad bd : Nat → Nat} {b : Nat} {xs : Nat → Int32} {H : Heap} {locs : List Loc} {ls : Array Slot} (B : Bd p s m #[Value.ref b] meth c cL_law 4 lw_tbl RL D (TYS cI cJ cB cZ)) (hX : va_X b 6 xs s s.heap) (hbl : b < s.heap.size) (h : Hp D (fun q => s.heap.size ≤ q) s.heap (WX cI cJ cB cZ ad ++ WM cI cJ cB cZ bd) H locs) (hl : lv_has ls 4 [(3, .int 0), (2, .ref (bd 0)), (1, .ref (ad 0)), (0, .ref b)]) (kk : ∀ (H : Heap) (locs : List Loc), va_S (fun q => s.heap.size ≤ q) s.heap H locs → W p l e room_1 s m #[Value.ref b] below meth c H locs 56 11906 Q (F0 m 1191 ls [])) : W p l e room_1 s m #[Value.ref b] below meth c H locs 56 11906 Q (F0 m 1145 ls []) := by
  have hx := B.1.1
  have hb := B.1.2.1
  have hbA : ¬ s.heap.size ≤ b := Nat.not_le.mpr hbl
  refine lv_aload_n hx hb dL_law_1145 rfl (lv_at hl 2 rfl) ?_
  refine lv_aload_n hx hb dL_law_1146 rfl (lv_at hl 3 rfl) ?_
  refine lv_iload_n hx hb dL_law_1147 rfl (lv_at hl 0 rfl) ?_
  refine lv_iconst (v := 1) hx hb dL_law_1148 (by decide) ?_
  refine lv_iadd hx hb dL_law_1149 ?_
  refine lv_topi (fun v_1149 ev_1149 => ?_)
  obtain rfl : v_1149 = 1 := ev_1149.trans (by decide)
  refine va_sld hx hb hX hbl hbA h.2.2.1 (vp_in_iff.mpr (by decide)) dL_law_1150 ?_
  have h : Hp D (fun q => s.heap.size ≤ q) s.heap ([] ++ (WX cI cJ cB cZ ad ++ WM cI cJ cB cZ bd)) H locs := h
  refine x_cVI (n := 1) (pre := []) (post := WM cI cJ cB cZ bd) (wc := WX cI cJ cB cZ ad) (As := [.int (xs (Int32.toNatClampNeg 1))]) (rest := []) B h (k259_X11_same l D cI cJ cB cZ ad bd (xs (Int32.toNatClampNeg 1))) ⟨⟨_, rfl⟩, by decide +kernel, Nat.le_of_ble_eq_true rfl, Nat.le_of_ble_eq_true rfl⟩ gT_X11_same (show (WX cI cJ cB cZ ad)[0]? = some (ad 0, .inr (11, _)) from rfl) rfl rfl hl.1 rfl (Nat.le_of_ble_eq_true rfl) dL_law_1151 ⟨Nat.le_of_ble_eq_true rfl, Nat.le_of_ble_eq_true rfl⟩ (fun r_1 u_1 H locs hp_1 h => ?_)
  refine lv_aload_n hx hb dL_law_1154 rfl (lv_at hl 1 rfl) ?_
  refine lv_aload_n hx hb dL_law_1155 rfl (lv_at hl 3 rfl) ?_
  refine lv_iload_n hx hb dL_law_1156 rfl (lv_at hl 0 rfl) ?_
  refine lv_iconst (v := 1) hx hb dL_law_1157 (by decide) ?_
  refine lv_iadd hx hb dL_law_1158 ?_
  refine lv_topi (fun v_1158 ev_1158 => ?_)
  obtain rfl : v_1158 = 1 := ev_1158.trans (by decide)
  refine va_sld hx hb hX hbl hbA h.2.2.1 (vp_in_iff.mpr (by decide)) dL_law_1159 ?_
  have h := hp_nil h
  refine x_cVI (n := 1) (post := []) (wc := WM cI cJ cB cZ bd) (As := [.int (xs (Int32.toNatClampNeg 1))]) (rest := [.int r_1]) B h (k261_X12_same l D cI cJ cB cZ ad bd (xs (Int32.toNatClampNeg 1))) ⟨⟨_, rfl⟩, by decide +kernel, Nat.le_of_ble_eq_true rfl, Nat.le_of_ble_eq_true rfl⟩ gT_X12_same (show (WM cI cJ cB cZ bd)[0]? = some (bd 0, .inr (12, _)) from rfl) rfl rfl hl.1 rfl (Nat.le_of_ble_eq_true rfl) dL_law_1160 ⟨Nat.le_of_ble_eq_true rfl, Nat.le_of_ble_eq_true rfl⟩ (fun r_2 u_2 H locs hp_2 h => ?_)
  exact lv_icmp_eq (tgt := 1191) hx hb dL_law_1163 (by decide) (fun _ => kk H locs h.2.2.1) (fun c_1 => absurd (eq_same (xs (Int32.toNatClampNeg 1)) r_1 r_2 u_1 u_2 hp_1 hp_2) c_1)
set_option maxHeartbeats 4000000 in
set_option maxRecDepth 100000 in
theorem law_count {p : Program} {l : Launch} {e : Env} {s : State} {m : MethodId} {below : List Frame} {meth : Method} {c : Code} {Q : State → Prop} {D : va_G} {cI cJ cB cZ : ClassId} {ad bd : Nat → Nat} {b : Nat} {xs : Nat → Int32} {H : Heap} {locs : List Loc} {ls : Array Slot} (B : Bd p s m #[Value.ref b] meth c cL_law 4 lw_tbl RL D (TYS cI cJ cB cZ)) (hX : va_X b 6 xs s s.heap) (hbl : b < s.heap.size) (h : Hp D (fun q => s.heap.size ≤ q) s.heap (WX cI cJ cB cZ ad ++ WM cI cJ cB cZ bd) H locs) (hl : lv_has ls 4 [(3, .int 0), (2, .ref (bd 0)), (1, .ref (ad 0)), (0, .ref b)]) (kk : ∀ (H : Heap) (locs : List Loc), va_S (fun q => s.heap.size ≤ q) s.heap H locs → W p l e room_1 s m #[Value.ref b] below meth c H locs 56 11906 Q (F0 m 1191 ls [])) : W p l e room_1 s m #[Value.ref b] below meth c H locs 56 11906 Q (F0 m 1168 ls []) := by
  have hx := B.1.1
  have hb := B.1.2.1
  have hbA : ¬ s.heap.size ≤ b := Nat.not_le.mpr hbl
  refine lv_aload_n hx hb dL_law_1168 rfl (lv_at hl 2 rfl) ?_
  refine lv_aload_n hx hb dL_law_1169 rfl (lv_at hl 3 rfl) ?_
  refine lv_iload_n hx hb dL_law_1170 rfl (lv_at hl 0 rfl) ?_
  refine lv_iconst (v := 1) hx hb dL_law_1171 (by decide) ?_
  refine lv_iadd hx hb dL_law_1172 ?_
  refine lv_topi (fun v_1172 ev_1172 => ?_)
  obtain rfl : v_1172 = 1 := ev_1172.trans (by decide)
  refine va_sld hx hb hX hbl hbA h.2.2.1 (vp_in_iff.mpr (by decide)) dL_law_1173 ?_
  have h : Hp D (fun q => s.heap.size ≤ q) s.heap ([] ++ (WX cI cJ cB cZ ad ++ WM cI cJ cB cZ bd)) H locs := h
  refine x_cVI (n := 1) (pre := []) (post := WM cI cJ cB cZ bd) (wc := WX cI cJ cB cZ ad) (As := [.int (xs (Int32.toNatClampNeg 1))]) (rest := []) B h (k267_X11_count l D cI cJ cB cZ ad bd (xs (Int32.toNatClampNeg 1))) ⟨⟨_, rfl⟩, by decide +kernel, Nat.le_of_ble_eq_true rfl, Nat.le_of_ble_eq_true rfl⟩ gT_X11_count (show (WX cI cJ cB cZ ad)[0]? = some (ad 0, .inr (11, _)) from rfl) rfl rfl hl.1 rfl (Nat.le_of_ble_eq_true rfl) dL_law_1174 ⟨Nat.le_of_ble_eq_true rfl, Nat.le_of_ble_eq_true rfl⟩ (fun r_1 u_1 H locs hp_1 h => ?_)
  refine lv_aload_n hx hb dL_law_1177 rfl (lv_at hl 1 rfl) ?_
  refine lv_aload_n hx hb dL_law_1178 rfl (lv_at hl 3 rfl) ?_
  refine lv_iload_n hx hb dL_law_1179 rfl (lv_at hl 0 rfl) ?_
  refine lv_iconst (v := 1) hx hb dL_law_1180 (by decide) ?_
  refine lv_iadd hx hb dL_law_1181 ?_
  refine lv_topi (fun v_1181 ev_1181 => ?_)
  obtain rfl : v_1181 = 1 := ev_1181.trans (by decide)
  refine va_sld hx hb hX hbl hbA h.2.2.1 (vp_in_iff.mpr (by decide)) dL_law_1182 ?_
  have h := hp_nil h
  refine x_cVI (n := 1) (post := []) (wc := WM cI cJ cB cZ bd) (As := [.int (xs (Int32.toNatClampNeg 1))]) (rest := [.int r_1]) B h (k274_X12_count l D cI cJ cB cZ ad bd (xs (Int32.toNatClampNeg 1))) ⟨⟨_, rfl⟩, by decide +kernel, Nat.le_of_ble_eq_true rfl, Nat.le_of_ble_eq_true rfl⟩ gT_X12_count (show (WM cI cJ cB cZ bd)[0]? = some (bd 0, .inr (12, _)) from rfl) rfl rfl hl.1 rfl (Nat.le_of_ble_eq_true rfl) dL_law_1183 ⟨Nat.le_of_ble_eq_true rfl, Nat.le_of_ble_eq_true rfl⟩ (fun r_2 u_2 H locs hp_2 h => ?_)
  exact lv_icmp_eq (tgt := 1191) hx hb dL_law_1186 (by decide) (fun _ => kk H locs h.2.2.1) (fun c_1 => absurd (eq_count (xs (Int32.toNatClampNeg 1)) r_1 r_2 u_1 u_2 hp_1 hp_2) c_1)
