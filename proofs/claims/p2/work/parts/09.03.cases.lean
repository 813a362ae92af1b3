theorem lc_gt {i L : Nat} (hi : i < 2147483640) (hL : L ≤ 3072) : (Int32.ofNat L - 6 < nI i) ↔ L < i + 6 := by
  rw [Int32.lt_iff_toInt_lt, nI_toInt (show i < 2 ^ 31 by omega)]
  have h1 : (Int32.ofNat L - 6).toInt = (L : Int) - 6 := by
    rw [Int32.toInt_sub, show (Int32.ofNat L).toInt = (L : Int) from nI_toInt (show L < 2 ^ 31 by omega), show ((6 : Int32)).toInt = 6 from by decide]
    rw [Int.bmod_def]
    omega
  rw [h1]
  omega
theorem hp_nil {D : va_G} {A : Nat → Prop} {H0 H : Heap} {w w2 : va_W} {locs : List Loc} (h : Hp D A H0 ([] ++ (w ++ w2)) H locs) : Hp D A H0 (w ++ (w2 ++ [])) H locs := by
  rw [List.append_nil]
  exact h
set_option maxHeartbeats 4000000 in
set_option maxRecDepth 100000 in
theorem lc_feed {p : Program} {l : Launch} {e : Env} {s : State} {m : MethodId} {below : List Frame} {meth : Method} {c : Code} {Q : State → Prop} {D : va_G} {cI cJ cB cZ : ClassId} {ad bd : Nat → Nat} {b L : Nat} {xs : Nat → Int32} {H : Heap} {locs : List Loc} {ls : Array Slot} {tx tm : XT} {i : Nat} (Inv : XT → XT → Prop) (B : Bd p s m #[Value.ref b] meth c cL_law 4 lw_tbl RL D (TYS cI cJ cB cZ)) (hX : va_X b L xs s s.heap) (hbl : b < s.heap.size) (hL : L ≤ 3072) (hi : i + 6 ≤ L) (h : Hp D (fun q => s.heap.size ≤ q) s.heap (wX cI cJ cB cZ ad tx ++ wM cI cJ cB cZ bd tm) H locs) (hl : lv_has ls 4 [(3, .int (nI i)), (2, .ref (bd 0)), (1, .ref (ad 0)), (0, .ref b)]) (hp : ∃ k, wqX11_feed k tx (xs (i + 1)) (xs (i + 2)) (xs (i + 3)) (xs (i + 4)) (xs (i + 5)) (fun r1 tx' => ∃ k', wqX12_feed k' tm (xs (i + 1)) (xs (i + 2)) (xs (i + 3)) (xs (i + 4)) (xs (i + 5)) (fun r2 tm' => r1 = r2 ∧ Inv tx' tm'))) (kk : ∀ (tx tm : XT) (H : Heap) (locs : List Loc), Inv tx tm → Hp D (fun q => s.heap.size ≤ q) s.heap (wX cI cJ cB cZ ad tx ++ wM cI cJ cB cZ bd tm) H locs → W p l e room_1 s m #[Value.ref b] below meth c H locs 56 11906 Q (F0 m 1186 ls [])) : W p l e room_1 s m #[Value.ref b] below meth c H locs 56 11906 Q (F0 m 184 ls []) := by
  have hx := B.1.1
  have hb := B.1.2.1
  have hbA : ¬ s.heap.size ≤ b := Nat.not_le.mpr hbl
  refine lv_aload_n hx hb dL_law_184 rfl (lv_at hl 2 rfl) ?_
  refine lv_aload_n hx hb dL_law_185 rfl (lv_at hl 3 rfl) ?_
  refine lv_iload_n hx hb dL_law_186 rfl (lv_at hl 0 rfl) ?_
  refine lv_iconst (v := 1) hx hb dL_law_187 (by decide) ?_
  refine lv_iadd hx hb dL_law_188 ?_
  refine lv_topi (fun v_188 ev_188 => ?_)
  obtain rfl : v_188 = nI (i + 1) := ev_188.trans (nI_add i 1)
  refine va_sld hx hb hX hbl hbA h.2.2.1 (vp_in_nI (show i + 1 < L by omega) (by omega)) dL_law_189 ?_
  refine lv_topi (fun v_189 ev_189 => ?_)
  obtain rfl : v_189 = xs (i + 1) := ev_189.trans (by rw [nI_clamp (show i + 1 < 2 ^ 31 by omega)])
  refine lv_aload_n hx hb dL_law_190 rfl (lv_at hl 3 rfl) ?_
  refine lv_iload_n hx hb dL_law_191 rfl (lv_at hl 0 rfl) ?_
  refine lv_iconst (v := 2) hx hb dL_law_192 (by decide) ?_
  refine lv_iadd hx hb dL_law_193 ?_
  refine lv_topi (fun v_193 ev_193 => ?_)
  obtain rfl : v_193 = nI (i + 2) := ev_193.trans (nI_add i 2)
  refine va_sld hx hb hX hbl hbA h.2.2.1 (vp_in_nI (show i + 2 < L by omega) (by omega)) dL_law_194 ?_
  refine lv_topi (fun v_194 ev_194 => ?_)
  obtain rfl : v_194 = xs (i + 2) := ev_194.trans (by rw [nI_clamp (show i + 2 < 2 ^ 31 by omega)])
  refine lv_aload_n hx hb dL_law_195 rfl (lv_at hl 3 rfl) ?_
  refine lv_iload_n hx hb dL_law_196 rfl (lv_at hl 0 rfl) ?_
  refine lv_iconst (v := 3) hx hb dL_law_197 (by decide) ?_
  refine lv_iadd hx hb dL_law_198 ?_
  refine lv_topi (fun v_198 ev_198 => ?_)
  obtain rfl : v_198 = nI (i + 3) := ev_198.trans (nI_add i 3)
  refine va_sld hx hb hX hbl hbA h.2.2.1 (vp_in_nI (show i + 3 < L by omega) (by omega)) dL_law_199 ?_
  refine lv_topi (fun v_199 ev_199 => ?_)
  obtain rfl : v_199 = xs (i + 3) := ev_199.trans (by rw [nI_clamp (show i + 3 < 2 ^ 31 by omega)])
  refine lv_aload_n hx hb dL_law_200 rfl (lv_at hl 3 rfl) ?_
  refine lv_iload_n hx hb dL_law_201 rfl (lv_at hl 0 rfl) ?_
  refine lv_iconst (v := 4) hx hb dL_law_202 (by decide) ?_
  refine lv_iadd hx hb dL_law_203 ?_
  refine lv_topi (fun v_203 ev_203 => ?_)
  obtain rfl : v_203 = nI (i + 4) := ev_203.trans (nI_add i 4)
  refine va_sld hx hb hX hbl hbA h.2.2.1 (vp_in_nI (show i + 4 < L by omega) (by omega)) dL_law_204 ?_
  refine lv_topi (fun v_204 ev_204 => ?_)
  obtain rfl : v_204 = xs (i + 4) := ev_204.trans (by rw [nI_clamp (show i + 4 < 2 ^ 31 by omega)])
  refine lv_aload_n hx hb dL_law_205 rfl (lv_at hl 3 rfl) ?_
  refine lv_iload_n hx hb dL_law_206 rfl (lv_at hl 0 rfl) ?_
  refine lv_iconst (v := 5) hx hb dL_law_207 (by decide) ?_
  refine lv_iadd hx hb dL_law_208 ?_
  refine lv_topi (fun v_208 ev_208 => ?_)
  obtain rfl : v_208 = nI (i + 5) := ev_208.trans (nI_add i 5)
  refine va_sld hx hb hX hbl hbA h.2.2.1 (vp_in_nI (show i + 5 < L by omega) (by omega)) dL_law_209 ?_
  refine lv_topi (fun v_209 ev_209 => ?_)
  obtain rfl : v_209 = xs (i + 5) := ev_209.trans (by rw [nI_clamp (show i + 5 < 2 ^ 31 by omega)])
  obtain ⟨k_1, hp⟩ := hp
  have h : Hp D (fun q => s.heap.size ≤ q) s.heap ([] ++ (wX cI cJ cB cZ ad tx ++ wM cI cJ cB cZ bd tm)) H locs := h
  refine x_cVI (n := 5) (pre := []) (post := wM cI cJ cB cZ bd tm) (wc := wX cI cJ cB cZ ad tx) (As := [.int (xs (i + 1)), .int (xs (i + 2)), .int (xs (i + 3)), .int (xs (i + 4)), .int (xs (i + 5))]) (rest := []) B h (wkX11_feed l D cI cJ cB cZ ad k_1 tx (xs (i + 1)) (xs (i + 2)) (xs (i + 3)) (xs (i + 4)) (xs (i + 5)) _ hp) ⟨⟨_, rfl⟩, by decide +kernel, Nat.le_of_ble_eq_true rfl, Nat.le_of_ble_eq_true rfl⟩ gT_X11_feed (show (wX cI cJ cB cZ ad tx : va_W)[0]? = some (ad 0, .inr (11, _)) from rfl) rfl rfl hl.1 rfl (Nat.le_of_ble_eq_true rfl) dL_law_210 ⟨Nat.le_of_ble_eq_true rfl, Nat.le_of_ble_eq_true rfl⟩ (fun r_1 tx H locs hp h => ?_)
  refine lv_aload_n hx hb dL_law_213 rfl (lv_at hl 1 rfl) ?_
  refine lv_aload_n hx hb dL_law_214 rfl (lv_at hl 3 rfl) ?_
  refine lv_iload_n hx hb dL_law_215 rfl (lv_at hl 0 rfl) ?_
  refine lv_iconst (v := 1) hx hb dL_law_216 (by decide) ?_
  refine lv_iadd hx hb dL_law_217 ?_
  refine lv_topi (fun v_217 ev_217 => ?_)
  obtain rfl : v_217 = nI (i + 1) := ev_217.trans (nI_add i 1)
  refine va_sld hx hb hX hbl hbA h.2.2.1 (vp_in_nI (show i + 1 < L by omega) (by omega)) dL_law_218 ?_
  refine lv_topi (fun v_218 ev_218 => ?_)
  obtain rfl : v_218 = xs (i + 1) := ev_218.trans (by rw [nI_clamp (show i + 1 < 2 ^ 31 by omega)])
  refine lv_aload_n hx hb dL_law_219 rfl (lv_at hl 3 rfl) ?_
  refine lv_iload_n hx hb dL_law_220 rfl (lv_at hl 0 rfl) ?_
  refine lv_iconst (v := 2) hx hb dL_law_221 (by decide) ?_
  refine lv_iadd hx hb dL_law_222 ?_
  refine lv_topi (fun v_222 ev_222 => ?_)
  obtain rfl : v_222 = nI (i + 2) := ev_222.trans (nI_add i 2)
  refine va_sld hx hb hX hbl hbA h.2.2.1 (vp_in_nI (show i + 2 < L by omega) (by omega)) dL_law_223 ?_
  refine lv_topi (fun v_223 ev_223 => ?_)
  obtain rfl : v_223 = xs (i + 2) := ev_223.trans (by rw [nI_clamp (show i + 2 < 2 ^ 31 by omega)])
  refine lv_aload_n hx hb dL_law_224 rfl (lv_at hl 3 rfl) ?_
  refine lv_iload_n hx hb dL_law_225 rfl (lv_at hl 0 rfl) ?_
  refine lv_iconst (v := 3) hx hb dL_law_226 (by decide) ?_
  refine lv_iadd hx hb dL_law_227 ?_
  refine lv_topi (fun v_227 ev_227 => ?_)
  obtain rfl : v_227 = nI (i + 3) := ev_227.trans (nI_add i 3)
  refine va_sld hx hb hX hbl hbA h.2.2.1 (vp_in_nI (show i + 3 < L by omega) (by omega)) dL_law_228 ?_
  refine lv_topi (fun v_228 ev_228 => ?_)
  obtain rfl : v_228 = xs (i + 3) := ev_228.trans (by rw [nI_clamp (show i + 3 < 2 ^ 31 by omega)])
  refine lv_aload_n hx hb dL_law_229 rfl (lv_at hl 3 rfl) ?_
  refine lv_iload_n hx hb dL_law_230 rfl (lv_at hl 0 rfl) ?_
  refine lv_iconst (v := 4) hx hb dL_law_231 (by decide) ?_
  refine lv_iadd hx hb dL_law_232 ?_
  refine lv_topi (fun v_232 ev_232 => ?_)
  obtain rfl : v_232 = nI (i + 4) := ev_232.trans (nI_add i 4)
  refine va_sld hx hb hX hbl hbA h.2.2.1 (vp_in_nI (show i + 4 < L by omega) (by omega)) dL_law_233 ?_
  refine lv_topi (fun v_233 ev_233 => ?_)
  obtain rfl : v_233 = xs (i + 4) := ev_233.trans (by rw [nI_clamp (show i + 4 < 2 ^ 31 by omega)])
  refine lv_aload_n hx hb dL_law_234 rfl (lv_at hl 3 rfl) ?_
  refine lv_iload_n hx hb dL_law_235 rfl (lv_at hl 0 rfl) ?_
  refine lv_iconst (v := 5) hx hb dL_law_236 (by decide) ?_
  refine lv_iadd hx hb dL_law_237 ?_
  refine lv_topi (fun v_237 ev_237 => ?_)
  obtain rfl : v_237 = nI (i + 5) := ev_237.trans (nI_add i 5)
  refine va_sld hx hb hX hbl hbA h.2.2.1 (vp_in_nI (show i + 5 < L by omega) (by omega)) dL_law_238 ?_
  refine lv_topi (fun v_238 ev_238 => ?_)
  obtain rfl : v_238 = xs (i + 5) := ev_238.trans (by rw [nI_clamp (show i + 5 < 2 ^ 31 by omega)])
  obtain ⟨k_2, hp⟩ := hp
  have h := hp_nil h
  refine x_cVI (n := 5) (post := []) (wc := wM cI cJ cB cZ bd tm) (As := [.int (xs (i + 1)), .int (xs (i + 2)), .int (xs (i + 3)), .int (xs (i + 4)), .int (xs (i + 5))]) (rest := [.int r_1]) B h (wkX12_feed l D cI cJ cB cZ bd k_2 tm (xs (i + 1)) (xs (i + 2)) (xs (i + 3)) (xs (i + 4)) (xs (i + 5)) _ hp) ⟨⟨_, rfl⟩, by decide +kernel, Nat.le_of_ble_eq_true rfl, Nat.le_of_ble_eq_true rfl⟩ gT_X12_feed (show (wM cI cJ cB cZ bd tm : va_W)[0]? = some (bd 0, .inr (12, _)) from rfl) rfl rfl hl.1 rfl (Nat.le_of_ble_eq_true rfl) dL_law_239 ⟨Nat.le_of_ble_eq_true rfl, Nat.le_of_ble_eq_true rfl⟩ (fun r_2 tm H locs hp h => ?_)
  have h : Hp D (fun q => s.heap.size ≤ q) s.heap (wX cI cJ cB cZ ad tx ++ wM cI cJ cB cZ bd tm) H locs := by rw [List.append_nil] at h; exact h
  exact lv_icmp_eq (tgt := 1186) hx hb dL_law_242 (by decide) (fun _ => kk _ _ H locs hp.2 h) (fun c_1 => absurd hp.1 c_1)
set_option maxHeartbeats 4000000 in
set_option maxRecDepth 100000 in
theorem lc_end {p : Program} {l : Launch} {e : Env} {s : State} {m : MethodId} {below : List Frame} {meth : Method} {c : Code} {Q : State → Prop} {D : va_G} {cI cJ cB cZ : ClassId} {ad bd : Nat → Nat} {b L : Nat} {xs : Nat → Int32} {H : Heap} {locs : List Loc} {ls : Array Slot} {tx tm : XT} {i : Nat} (Inv : XT → XT → Prop) (B : Bd p s m #[Value.ref b] meth c cL_law 4 lw_tbl RL D (TYS cI cJ cB cZ)) (hX : va_X b L xs s s.heap) (hbl : b < s.heap.size) (hL : L ≤ 3072) (hi : i + 6 ≤ L) (h : Hp D (fun q => s.heap.size ≤ q) s.heap (wX cI cJ cB cZ ad tx ++ wM cI cJ cB cZ bd tm) H locs) (hl : lv_has ls 4 [(3, .int (nI i)), (2, .ref (bd 0)), (1, .ref (ad 0)), (0, .ref b)]) (hp : ∃ k, wqX11_end k tx (xs (i + 1)) (fun r1 tx' => ∃ k', wqX12_end k' tm (xs (i + 1)) (fun r2 tm' => Inv tx' tm'))) (kk : ∀ (tx tm : XT) (H : Heap) (locs : List Loc), Inv tx tm → Hp D (fun q => s.heap.size ≤ q) s.heap (wX cI cJ cB cZ ad tx ++ wM cI cJ cB cZ bd tm) H locs → W p l e room_1 s m #[Value.ref b] below meth c H locs 56 11906 Q (F0 m 1186 ls [])) : W p l e room_1 s m #[Value.ref b] below meth c H locs 56 11906 Q (F0 m 247 ls []) := by
  have hx := B.1.1
  have hb := B.1.2.1
  have hbA : ¬ s.heap.size ≤ b := Nat.not_le.mpr hbl
  refine lv_aload_n hx hb dL_law_247 rfl (lv_at hl 2 rfl) ?_
  refine lv_aload_n hx hb dL_law_248 rfl (lv_at hl 3 rfl) ?_
  refine lv_iload_n hx hb dL_law_249 rfl (lv_at hl 0 rfl) ?_
  refine lv_iconst (v := 1) hx hb dL_law_250 (by decide) ?_
  refine lv_iadd hx hb dL_law_251 ?_
  refine lv_topi (fun v_251 ev_251 => ?_)
  obtain rfl : v_251 = nI (i + 1) := ev_251.trans (nI_add i 1)
  refine va_sld hx hb hX hbl hbA h.2.2.1 (vp_in_nI (show i + 1 < L by omega) (by omega)) dL_law_252 ?_
  refine lv_topi (fun v_252 ev_252 => ?_)
  obtain rfl : v_252 = xs (i + 1) := ev_252.trans (by rw [nI_clamp (show i + 1 < 2 ^ 31 by omega)])
  obtain ⟨k_1, hp⟩ := hp
  have h : Hp D (fun q => s.heap.size ≤ q) s.heap ([] ++ (wX cI cJ cB cZ ad tx ++ wM cI cJ cB cZ bd tm)) H locs := h
  refine x_cVI (n := 1) (pre := []) (post := wM cI cJ cB cZ bd tm) (wc := wX cI cJ cB cZ ad tx) (As := [.int (xs (i + 1))]) (rest := []) B h (wkX11_end l D cI cJ cB cZ ad k_1 tx (xs (i + 1)) _ hp) ⟨⟨_, rfl⟩, by decide +kernel, Nat.le_of_ble_eq_true rfl, Nat.le_of_ble_eq_true rfl⟩ gT_X11_end (show (wX cI cJ cB cZ ad tx : va_W)[0]? = some (ad 0, .inr (11, _)) from rfl) rfl rfl hl.1 rfl (Nat.le_of_ble_eq_true rfl) dL_law_253 ⟨Nat.le_of_ble_eq_true rfl, Nat.le_of_ble_eq_true rfl⟩ (fun r_1 tx H locs hp h => ?_)
  refine lv_pop hx hb dL_law_256 rfl ?_
  refine lv_aload_n hx hb dL_law_257 rfl (lv_at hl 1 rfl) ?_
  refine lv_aload_n hx hb dL_law_258 rfl (lv_at hl 3 rfl) ?_
  refine lv_iload_n hx hb dL_law_259 rfl (lv_at hl 0 rfl) ?_
  refine lv_iconst (v := 1) hx hb dL_law_260 (by decide) ?_
  refine lv_iadd hx hb dL_law_261 ?_
  refine lv_topi (fun v_261 ev_261 => ?_)
  obtain rfl : v_261 = nI (i + 1) := ev_261.trans (nI_add i 1)
  refine va_sld hx hb hX hbl hbA h.2.2.1 (vp_in_nI (show i + 1 < L by omega) (by omega)) dL_law_262 ?_
  refine lv_topi (fun v_262 ev_262 => ?_)
  obtain rfl : v_262 = xs (i + 1) := ev_262.trans (by rw [nI_clamp (show i + 1 < 2 ^ 31 by omega)])
  obtain ⟨k_2, hp⟩ := hp
  have h := hp_nil h
  refine x_cVI (n := 1) (post := []) (wc := wM cI cJ cB cZ bd tm) (As := [.int (xs (i + 1))]) (rest := []) B h (wkX12_end l D cI cJ cB cZ bd k_2 tm (xs (i + 1)) _ hp) ⟨⟨_, rfl⟩, by decide +kernel, Nat.le_of_ble_eq_true rfl, Nat.le_of_ble_eq_true rfl⟩ gT_X12_end (show (wM cI cJ cB cZ bd tm : va_W)[0]? = some (bd 0, .inr (12, _)) from rfl) rfl rfl hl.1 rfl (Nat.le_of_ble_eq_true rfl) dL_law_263 ⟨Nat.le_of_ble_eq_true rfl, Nat.le_of_ble_eq_true rfl⟩ (fun r_2 tm H locs hp h => ?_)
  have h : Hp D (fun q => s.heap.size ≤ q) s.heap (wX cI cJ cB cZ ad tx ++ wM cI cJ cB cZ bd tm) H locs := by rw [List.append_nil] at h; exact h
  refine lv_pop hx hb dL_law_266 rfl ?_
  refine lv_goto (tgt := 1186) hx hb dL_law_267 (by decide) ?_
  exact kk _ _ H locs hp h
set_option maxHeartbeats 4000000 in
set_option maxRecDepth 100000 in
theorem lc_complex {p : Program} {l : Launch} {e : Env} {s : State} {m : MethodId} {below : List Frame} {meth : Method} {c : Code} {Q : State → Prop} {D : va_G} {cI cJ cB cZ : ClassId} {ad bd : Nat → Nat} {b L : Nat} {xs : Nat → Int32} {H : Heap} {locs : List Loc} {ls : Array Slot} {tx tm : XT} {i : Nat} (Inv : XT → XT → Prop) (B : Bd p s m #[Value.ref b] meth c cL_law 4 lw_tbl RL D (TYS cI cJ cB cZ)) (hX : va_X b L xs s s.heap) (hbl : b < s.heap.size) (hL : L ≤ 3072) (hi : i + 6 ≤ L) (h : Hp D (fun q => s.heap.size ≤ q) s.heap (wX cI cJ cB cZ ad tx ++ wM cI cJ cB cZ bd tm) H locs) (hl : lv_has ls 4 [(3, .int (nI i)), (2, .ref (bd 0)), (1, .ref (ad 0)), (0, .ref b)]) (hp : ∃ k, wqX11_complex k tx  (fun r1 tx' => ∃ k', wqX12_complex k' tm  (fun r2 tm' => Inv tx' tm'))) (kk : ∀ (tx tm : XT) (H : Heap) (locs : List Loc), Inv tx tm → Hp D (fun q => s.heap.size ≤ q) s.heap (wX cI cJ cB cZ ad tx ++ wM cI cJ cB cZ bd tm) H locs → W p l e room_1 s m #[Value.ref b] below meth c H locs 56 11906 Q (F0 m 1186 ls [])) : W p l e room_1 s m #[Value.ref b] below meth c H locs 56 11906 Q (F0 m 270 ls []) := by
  have hx := B.1.1
  have hb := B.1.2.1
  have hbA : ¬ s.heap.size ≤ b := Nat.not_le.mpr hbl
  refine lv_aload_n hx hb dL_law_270 rfl (lv_at hl 2 rfl) ?_
  obtain ⟨k_1, hp⟩ := hp
  have h : Hp D (fun q => s.heap.size ≤ q) s.heap ([] ++ (wX cI cJ cB cZ ad tx ++ wM cI cJ cB cZ bd tm)) H locs := h
  refine x_cVI (n := 0) (pre := []) (post := wM cI cJ cB cZ bd tm) (wc := wX cI cJ cB cZ ad tx) (As := []) (rest := []) B h (wkX11_complex l D cI cJ cB cZ ad k_1 tx  _ hp) ⟨⟨_, rfl⟩, by decide +kernel, Nat.le_of_ble_eq_true rfl, Nat.le_of_ble_eq_true rfl⟩ gT_X11_complex (show (wX cI cJ cB cZ ad tx : va_W)[0]? = some (ad 0, .inr (11, _)) from rfl) rfl rfl hl.1 rfl (Nat.le_of_ble_eq_true rfl) dL_law_271 ⟨Nat.le_of_ble_eq_true rfl, Nat.le_of_ble_eq_true rfl⟩ (fun r_1 tx H locs hp h => ?_)
  refine lv_pop hx hb dL_law_274 rfl ?_
  refine lv_aload_n hx hb dL_law_275 rfl (lv_at hl 1 rfl) ?_
  obtain ⟨k_2, hp⟩ := hp
  have h := hp_nil h
  refine x_cVI (n := 0) (post := []) (wc := wM cI cJ cB cZ bd tm) (As := []) (rest := []) B h (wkX12_complex l D cI cJ cB cZ bd k_2 tm  _ hp) ⟨⟨_, rfl⟩, by decide +kernel, Nat.le_of_ble_eq_true rfl, Nat.le_of_ble_eq_true rfl⟩ gT_X12_complex (show (wM cI cJ cB cZ bd tm : va_W)[0]? = some (bd 0, .inr (12, _)) from rfl) rfl rfl hl.1 rfl (Nat.le_of_ble_eq_true rfl) dL_law_276 ⟨Nat.le_of_ble_eq_true rfl, Nat.le_of_ble_eq_true rfl⟩ (fun r_2 tm H locs hp h => ?_)
  have h : Hp D (fun q => s.heap.size ≤ q) s.heap (wX cI cJ cB cZ ad tx ++ wM cI cJ cB cZ bd tm) H locs := by rw [List.append_nil] at h; exact h
  refine lv_pop hx hb dL_law_279 rfl ?_
  refine lv_goto (tgt := 1186) hx hb dL_law_280 (by decide) ?_
  exact kk _ _ H locs hp h
set_option maxHeartbeats 4000000 in
set_option maxRecDepth 100000 in
theorem lc_simplex {p : Program} {l : Launch} {e : Env} {s : State} {m : MethodId} {below : List Frame} {meth : Method} {c : Code} {Q : State → Prop} {D : va_G} {cI cJ cB cZ : ClassId} {ad bd : Nat → Nat} {b L : Nat} {xs : Nat → Int32} {H : Heap} {locs : List Loc} {ls : Array Slot} {tx tm : XT} {i : Nat} (Inv : XT → XT → Prop) (B : Bd p s m #[Value.ref b] meth c cL_law 4 lw_tbl RL D (TYS cI cJ cB cZ)) (hX : va_X b L xs s s.heap) (hbl : b < s.heap.size) (hL : L ≤ 3072) (hi : i + 6 ≤ L) (h : Hp D (fun q => s.heap.size ≤ q) s.heap (wX cI cJ cB cZ ad tx ++ wM cI cJ cB cZ bd tm) H locs) (hl : lv_has ls 4 [(3, .int (nI i)), (2, .ref (bd 0)), (1, .ref (ad 0)), (0, .ref b)]) (hp : ∃ k, wqX11_simplex k tx (xs (i + 1)) (xs (i + 2)) (fun r1 tx' => ∃ k', wqX12_simplex k' tm (xs (i + 1)) (xs (i + 2)) (fun r2 tm' => Inv tx' tm'))) (kk : ∀ (tx tm : XT) (H : Heap) (locs : List Loc), Inv tx tm → Hp D (fun q => s.heap.size ≤ q) s.heap (wX cI cJ cB cZ ad tx ++ wM cI cJ cB cZ bd tm) H locs → W p l e room_1 s m #[Value.ref b] below meth c H locs 56 11906 Q (F0 m 1186 ls [])) : W p l e room_1 s m #[Value.ref b] below meth c H locs 56 11906 Q (F0 m 283 ls []) := by
  have hx := B.1.1
  have hb := B.1.2.1
  have hbA : ¬ s.heap.size ≤ b := Nat.not_le.mpr hbl
  refine lv_aload_n hx hb dL_law_283 rfl (lv_at hl 2 rfl) ?_
  refine lv_aload_n hx hb dL_law_284 rfl (lv_at hl 3 rfl) ?_
  refine lv_iload_n hx hb dL_law_285 rfl (lv_at hl 0 rfl) ?_
  refine lv_iconst (v := 1) hx hb dL_law_286 (by decide) ?_
  refine lv_iadd hx hb dL_law_287 ?_
  refine lv_topi (fun v_287 ev_287 => ?_)
  obtain rfl : v_287 = nI (i + 1) := ev_287.trans (nI_add i 1)
  refine va_sld hx hb hX hbl hbA h.2.2.1 (vp_in_nI (show i + 1 < L by omega) (by omega)) dL_law_288 ?_
  refine lv_topi (fun v_288 ev_288 => ?_)
  obtain rfl : v_288 = xs (i + 1) := ev_288.trans (by rw [nI_clamp (show i + 1 < 2 ^ 31 by omega)])
  refine lv_aload_n hx hb dL_law_289 rfl (lv_at hl 3 rfl) ?_
  refine lv_iload_n hx hb dL_law_290 rfl (lv_at hl 0 rfl) ?_
  refine lv_iconst (v := 2) hx hb dL_law_291 (by decide) ?_
  refine lv_iadd hx hb dL_law_292 ?_
  refine lv_topi (fun v_292 ev_292 => ?_)
  obtain rfl : v_292 = nI (i + 2) := ev_292.trans (nI_add i 2)
  refine va_sld hx hb hX hbl hbA h.2.2.1 (vp_in_nI (show i + 2 < L by omega) (by omega)) dL_law_293 ?_
  refine lv_topi (fun v_293 ev_293 => ?_)
  obtain rfl : v_293 = xs (i + 2) := ev_293.trans (by rw [nI_clamp (show i + 2 < 2 ^ 31 by omega)])
  obtain ⟨k_1, hp⟩ := hp
  have h : Hp D (fun q => s.heap.size ≤ q) s.heap ([] ++ (wX cI cJ cB cZ ad tx ++ wM cI cJ cB cZ bd tm)) H locs := h
  refine x_cVI (n := 2) (pre := []) (post := wM cI cJ cB cZ bd tm) (wc := wX cI cJ cB cZ ad tx) (As := [.int (xs (i + 1)), .int (xs (i + 2))]) (rest := []) B h (wkX11_simplex l D cI cJ cB cZ ad k_1 tx (xs (i + 1)) (xs (i + 2)) _ hp) ⟨⟨_, rfl⟩, by decide +kernel, Nat.le_of_ble_eq_true rfl, Nat.le_of_ble_eq_true rfl⟩ gT_X11_simplex (show (wX cI cJ cB cZ ad tx : va_W)[0]? = some (ad 0, .inr (11, _)) from rfl) rfl rfl hl.1 rfl (Nat.le_of_ble_eq_true rfl) dL_law_294 ⟨Nat.le_of_ble_eq_true rfl, Nat.le_of_ble_eq_true rfl⟩ (fun r_1 tx H locs hp h => ?_)
  refine lv_pop hx hb dL_law_297 rfl ?_
  refine lv_aload_n hx hb dL_law_298 rfl (lv_at hl 1 rfl) ?_
  refine lv_aload_n hx hb dL_law_299 rfl (lv_at hl 3 rfl) ?_
  refine lv_iload_n hx hb dL_law_300 rfl (lv_at hl 0 rfl) ?_
  refine lv_iconst (v := 1) hx hb dL_law_301 (by decide) ?_
  refine lv_iadd hx hb dL_law_302 ?_
  refine lv_topi (fun v_302 ev_302 => ?_)
  obtain rfl : v_302 = nI (i + 1) := ev_302.trans (nI_add i 1)
  refine va_sld hx hb hX hbl hbA h.2.2.1 (vp_in_nI (show i + 1 < L by omega) (by omega)) dL_law_303 ?_
  refine lv_topi (fun v_303 ev_303 => ?_)
  obtain rfl : v_303 = xs (i + 1) := ev_303.trans (by rw [nI_clamp (show i + 1 < 2 ^ 31 by omega)])
  refine lv_aload_n hx hb dL_law_304 rfl (lv_at hl 3 rfl) ?_
  refine lv_iload_n hx hb dL_law_305 rfl (lv_at hl 0 rfl) ?_
  refine lv_iconst (v := 2) hx hb dL_law_306 (by decide) ?_
  refine lv_iadd hx hb dL_law_307 ?_
  refine lv_topi (fun v_307 ev_307 => ?_)
  obtain rfl : v_307 = nI (i + 2) := ev_307.trans (nI_add i 2)
  refine va_sld hx hb hX hbl hbA h.2.2.1 (vp_in_nI (show i + 2 < L by omega) (by omega)) dL_law_308 ?_
  refine lv_topi (fun v_308 ev_308 => ?_)
  obtain rfl : v_308 = xs (i + 2) := ev_308.trans (by rw [nI_clamp (show i + 2 < 2 ^ 31 by omega)])
  obtain ⟨k_2, hp⟩ := hp
  have h := hp_nil h
  refine x_cVI (n := 2) (post := []) (wc := wM cI cJ cB cZ bd tm) (As := [.int (xs (i + 1)), .int (xs (i + 2))]) (rest := []) B h (wkX12_simplex l D cI cJ cB cZ bd k_2 tm (xs (i + 1)) (xs (i + 2)) _ hp) ⟨⟨_, rfl⟩, by decide +kernel, Nat.le_of_ble_eq_true rfl, Nat.le_of_ble_eq_true rfl⟩ gT_X12_simplex (show (wM cI cJ cB cZ bd tm : va_W)[0]? = some (bd 0, .inr (12, _)) from rfl) rfl rfl hl.1 rfl (Nat.le_of_ble_eq_true rfl) dL_law_309 ⟨Nat.le_of_ble_eq_true rfl, Nat.le_of_ble_eq_true rfl⟩ (fun r_2 tm H locs hp h => ?_)
  have h : Hp D (fun q => s.heap.size ≤ q) s.heap (wX cI cJ cB cZ ad tx ++ wM cI cJ cB cZ bd tm) H locs := by rw [List.append_nil] at h; exact h
  refine lv_pop hx hb dL_law_312 rfl ?_
  refine lv_goto (tgt := 1186) hx hb dL_law_313 (by decide) ?_
  exact kk _ _ H locs hp h
set_option maxHeartbeats 4000000 in
set_option maxRecDepth 100000 in
theorem lc_number {p : Program} {l : Launch} {e : Env} {s : State} {m : MethodId} {below : List Frame} {meth : Method} {c : Code} {Q : State → Prop} {D : va_G} {cI cJ cB cZ : ClassId} {ad bd : Nat → Nat} {b L : Nat} {xs : Nat → Int32} {H : Heap} {locs : List Loc} {ls : Array Slot} {tx tm : XT} {i : Nat} (Inv : XT → XT → Prop) (B : Bd p s m #[Value.ref b] meth c cL_law 4 lw_tbl RL D (TYS cI cJ cB cZ)) (hX : va_X b L xs s s.heap) (hbl : b < s.heap.size) (hL : L ≤ 3072) (hi : i + 6 ≤ L) (h : Hp D (fun q => s.heap.size ≤ q) s.heap (wX cI cJ cB cZ ad tx ++ wM cI cJ cB cZ bd tm) H locs) (hl : lv_has ls 4 [(3, .int (nI i)), (2, .ref (bd 0)), (1, .ref (ad 0)), (0, .ref b)]) (hp : ∃ k, wqX11_number k tx (xs (i + 1)) (fun r1 tx' => ∃ k', wqX12_number k' tm (xs (i + 1)) (fun r2 tm' => Inv tx' tm'))) (kk : ∀ (tx tm : XT) (H : Heap) (locs : List Loc), Inv tx tm → Hp D (fun q => s.heap.size ≤ q) s.heap (wX cI cJ cB cZ ad tx ++ wM cI cJ cB cZ bd tm) H locs → W p l e room_1 s m #[Value.ref b] below meth c H locs 56 11906 Q (F0 m 1186 ls [])) : W p l e room_1 s m #[Value.ref b] below meth c H locs 56 11906 Q (F0 m 316 ls []) := by
  have hx := B.1.1
  have hb := B.1.2.1
  have hbA : ¬ s.heap.size ≤ b := Nat.not_le.mpr hbl
  refine lv_aload_n hx hb dL_law_316 rfl (lv_at hl 2 rfl) ?_
  refine lv_aload_n hx hb dL_law_317 rfl (lv_at hl 3 rfl) ?_
  refine lv_iload_n hx hb dL_law_318 rfl (lv_at hl 0 rfl) ?_
  refine lv_iconst (v := 1) hx hb dL_law_319 (by decide) ?_
  refine lv_iadd hx hb dL_law_320 ?_
  refine lv_topi (fun v_320 ev_320 => ?_)
  obtain rfl : v_320 = nI (i + 1) := ev_320.trans (nI_add i 1)
  refine va_sld hx hb hX hbl hbA h.2.2.1 (vp_in_nI (show i + 1 < L by omega) (by omega)) dL_law_321 ?_
  refine lv_topi (fun v_321 ev_321 => ?_)
  obtain rfl : v_321 = xs (i + 1) := ev_321.trans (by rw [nI_clamp (show i + 1 < 2 ^ 31 by omega)])
  obtain ⟨k_1, hp⟩ := hp
  have h : Hp D (fun q => s.heap.size ≤ q) s.heap ([] ++ (wX cI cJ cB cZ ad tx ++ wM cI cJ cB cZ bd tm)) H locs := h
  refine x_cVI (n := 1) (pre := []) (post := wM cI cJ cB cZ bd tm) (wc := wX cI cJ cB cZ ad tx) (As := [.int (xs (i + 1))]) (rest := []) B h (wkX11_number l D cI cJ cB cZ ad k_1 tx (xs (i + 1)) _ hp) ⟨⟨_, rfl⟩, by decide +kernel, Nat.le_of_ble_eq_true rfl, Nat.le_of_ble_eq_true rfl⟩ gT_X11_number (show (wX cI cJ cB cZ ad tx : va_W)[0]? = some (ad 0, .inr (11, _)) from rfl) rfl rfl hl.1 rfl (Nat.le_of_ble_eq_true rfl) dL_law_322 ⟨Nat.le_of_ble_eq_true rfl, Nat.le_of_ble_eq_true rfl⟩ (fun r_1 tx H locs hp h => ?_)
  refine lv_pop hx hb dL_law_325 rfl ?_
  refine lv_aload_n hx hb dL_law_326 rfl (lv_at hl 1 rfl) ?_
  refine lv_aload_n hx hb dL_law_327 rfl (lv_at hl 3 rfl) ?_
  refine lv_iload_n hx hb dL_law_328 rfl (lv_at hl 0 rfl) ?_
  refine lv_iconst (v := 1) hx hb dL_law_329 (by decide) ?_
  refine lv_iadd hx hb dL_law_330 ?_
  refine lv_topi (fun v_330 ev_330 => ?_)
  obtain rfl : v_330 = nI (i + 1) := ev_330.trans (nI_add i 1)
  refine va_sld hx hb hX hbl hbA h.2.2.1 (vp_in_nI (show i + 1 < L by omega) (by omega)) dL_law_331 ?_
  refine lv_topi (fun v_331 ev_331 => ?_)
  obtain rfl : v_331 = xs (i + 1) := ev_331.trans (by rw [nI_clamp (show i + 1 < 2 ^ 31 by omega)])
  obtain ⟨k_2, hp⟩ := hp
  have h := hp_nil h
  refine x_cVI (n := 1) (post := []) (wc := wM cI cJ cB cZ bd tm) (As := [.int (xs (i + 1))]) (rest := []) B h (wkX12_number l D cI cJ cB cZ bd k_2 tm (xs (i + 1)) _ hp) ⟨⟨_, rfl⟩, by decide +kernel, Nat.le_of_ble_eq_true rfl, Nat.le_of_ble_eq_true rfl⟩ gT_X12_number (show (wM cI cJ cB cZ bd tm : va_W)[0]? = some (bd 0, .inr (12, _)) from rfl) rfl rfl hl.1 rfl (Nat.le_of_ble_eq_true rfl) dL_law_332 ⟨Nat.le_of_ble_eq_true rfl, Nat.le_of_ble_eq_true rfl⟩ (fun r_2 tm H locs hp h => ?_)
  have h : Hp D (fun q => s.heap.size ≤ q) s.heap (wX cI cJ cB cZ ad tx ++ wM cI cJ cB cZ bd tm) H locs := by rw [List.append_nil] at h; exact h
  refine lv_pop hx hb dL_law_335 rfl ?_
  refine lv_goto (tgt := 1186) hx hb dL_law_336 (by decide) ?_
  exact kk _ _ H locs hp h
set_option maxHeartbeats 4000000 in
set_option maxRecDepth 100000 in
theorem lc_sign {p : Program} {l : Launch} {e : Env} {s : State} {m : MethodId} {below : List Frame} {meth : Method} {c : Code} {Q : State → Prop} {D : va_G} {cI cJ cB cZ : ClassId} {ad bd : Nat → Nat} {b L : Nat} {xs : Nat → Int32} {H : Heap} {locs : List Loc} {ls : Array Slot} {tx tm : XT} {i : Nat} (Inv : XT → XT → Prop) (B : Bd p s m #[Value.ref b] meth c cL_law 4 lw_tbl RL D (TYS cI cJ cB cZ)) (hX : va_X b L xs s s.heap) (hbl : b < s.heap.size) (hL : L ≤ 3072) (hi : i + 6 ≤ L) (h : Hp D (fun q => s.heap.size ≤ q) s.heap (wX cI cJ cB cZ ad tx ++ wM cI cJ cB cZ bd tm) H locs) (hl : lv_has ls 4 [(3, .int (nI i)), (2, .ref (bd 0)), (1, .ref (ad 0)), (0, .ref b)]) (hp : ∃ k, wqX11_sign k tx (xs (i + 1)) (xs (i + 2)) (fun r1 tx' => ∃ k', wqX12_sign k' tm (xs (i + 1)) (xs (i + 2)) (fun r2 tm' => Inv tx' tm'))) (kk : ∀ (tx tm : XT) (H : Heap) (locs : List Loc), Inv tx tm → Hp D (fun q => s.heap.size ≤ q) s.heap (wX cI cJ cB cZ ad tx ++ wM cI cJ cB cZ bd tm) H locs → W p l e room_1 s m #[Value.ref b] below meth c H locs 56 11906 Q (F0 m 1186 ls [])) : W p l e room_1 s m #[Value.ref b] below meth c H locs 56 11906 Q (F0 m 339 ls []) := by
  have hx := B.1.1
  have hb := B.1.2.1
  have hbA : ¬ s.heap.size ≤ b := Nat.not_le.mpr hbl
  refine lv_aload_n hx hb dL_law_339 rfl (lv_at hl 2 rfl) ?_
  refine lv_aload_n hx hb dL_law_340 rfl (lv_at hl 3 rfl) ?_
  refine lv_iload_n hx hb dL_law_341 rfl (lv_at hl 0 rfl) ?_
  refine lv_iconst (v := 1) hx hb dL_law_342 (by decide) ?_
  refine lv_iadd hx hb dL_law_343 ?_
  refine lv_topi (fun v_343 ev_343 => ?_)
  obtain rfl : v_343 = nI (i + 1) := ev_343.trans (nI_add i 1)
  refine va_sld hx hb hX hbl hbA h.2.2.1 (vp_in_nI (show i + 1 < L by omega) (by omega)) dL_law_344 ?_
  refine lv_topi (fun v_344 ev_344 => ?_)
  obtain rfl : v_344 = xs (i + 1) := ev_344.trans (by rw [nI_clamp (show i + 1 < 2 ^ 31 by omega)])
  refine lv_aload_n hx hb dL_law_345 rfl (lv_at hl 3 rfl) ?_
  refine lv_iload_n hx hb dL_law_346 rfl (lv_at hl 0 rfl) ?_
  refine lv_iconst (v := 2) hx hb dL_law_347 (by decide) ?_
  refine lv_iadd hx hb dL_law_348 ?_
  refine lv_topi (fun v_348 ev_348 => ?_)
  obtain rfl : v_348 = nI (i + 2) := ev_348.trans (nI_add i 2)
  refine va_sld hx hb hX hbl hbA h.2.2.1 (vp_in_nI (show i + 2 < L by omega) (by omega)) dL_law_349 ?_
  refine lv_topi (fun v_349 ev_349 => ?_)
  obtain rfl : v_349 = xs (i + 2) := ev_349.trans (by rw [nI_clamp (show i + 2 < 2 ^ 31 by omega)])
  obtain ⟨k_1, hp⟩ := hp
  have h : Hp D (fun q => s.heap.size ≤ q) s.heap ([] ++ (wX cI cJ cB cZ ad tx ++ wM cI cJ cB cZ bd tm)) H locs := h
  refine x_cVI (n := 2) (pre := []) (post := wM cI cJ cB cZ bd tm) (wc := wX cI cJ cB cZ ad tx) (As := [.int (xs (i + 1)), .int (xs (i + 2))]) (rest := []) B h (wkX11_sign l D cI cJ cB cZ ad k_1 tx (xs (i + 1)) (xs (i + 2)) _ hp) ⟨⟨_, rfl⟩, by decide +kernel, Nat.le_of_ble_eq_true rfl, Nat.le_of_ble_eq_true rfl⟩ gT_X11_sign (show (wX cI cJ cB cZ ad tx : va_W)[0]? = some (ad 0, .inr (11, _)) from rfl) rfl rfl hl.1 rfl (Nat.le_of_ble_eq_true rfl) dL_law_350 ⟨Nat.le_of_ble_eq_true rfl, Nat.le_of_ble_eq_true rfl⟩ (fun r_1 tx H locs hp h => ?_)
  refine lv_pop hx hb dL_law_353 rfl ?_
  refine lv_aload_n hx hb dL_law_354 rfl (lv_at hl 1 rfl) ?_
  refine lv_aload_n hx hb dL_law_355 rfl (lv_at hl 3 rfl) ?_
  refine lv_iload_n hx hb dL_law_356 rfl (lv_at hl 0 rfl) ?_
  refine lv_iconst (v := 1) hx hb dL_law_357 (by decide) ?_
  refine lv_iadd hx hb dL_law_358 ?_
  refine lv_topi (fun v_358 ev_358 => ?_)
  obtain rfl : v_358 = nI (i + 1) := ev_358.trans (nI_add i 1)
  refine va_sld hx hb hX hbl hbA h.2.2.1 (vp_in_nI (show i + 1 < L by omega) (by omega)) dL_law_359 ?_
  refine lv_topi (fun v_359 ev_359 => ?_)
  obtain rfl : v_359 = xs (i + 1) := ev_359.trans (by rw [nI_clamp (show i + 1 < 2 ^ 31 by omega)])
  refine lv_aload_n hx hb dL_law_360 rfl (lv_at hl 3 rfl) ?_
  refine lv_iload_n hx hb dL_law_361 rfl (lv_at hl 0 rfl) ?_
  refine lv_iconst (v := 2) hx hb dL_law_362 (by decide) ?_
  refine lv_iadd hx hb dL_law_363 ?_
  refine lv_topi (fun v_363 ev_363 => ?_)
  obtain rfl : v_363 = nI (i + 2) := ev_363.trans (nI_add i 2)
  refine va_sld hx hb hX hbl hbA h.2.2.1 (vp_in_nI (show i + 2 < L by omega) (by omega)) dL_law_364 ?_
  refine lv_topi (fun v_364 ev_364 => ?_)
  obtain rfl : v_364 = xs (i + 2) := ev_364.trans (by rw [nI_clamp (show i + 2 < 2 ^ 31 by omega)])
  obtain ⟨k_2, hp⟩ := hp
  have h := hp_nil h
  refine x_cVI (n := 2) (post := []) (wc := wM cI cJ cB cZ bd tm) (As := [.int (xs (i + 1)), .int (xs (i + 2))]) (rest := []) B h (wkX12_sign l D cI cJ cB cZ bd k_2 tm (xs (i + 1)) (xs (i + 2)) _ hp) ⟨⟨_, rfl⟩, by decide +kernel, Nat.le_of_ble_eq_true rfl, Nat.le_of_ble_eq_true rfl⟩ gT_X12_sign (show (wM cI cJ cB cZ bd tm : va_W)[0]? = some (bd 0, .inr (12, _)) from rfl) rfl rfl hl.1 rfl (Nat.le_of_ble_eq_true rfl) dL_law_365 ⟨Nat.le_of_ble_eq_true rfl, Nat.le_of_ble_eq_true rfl⟩ (fun r_2 tm H locs hp h => ?_)
  have h : Hp D (fun q => s.heap.size ≤ q) s.heap (wX cI cJ cB cZ ad tx ++ wM cI cJ cB cZ bd tm) H locs := by rw [List.append_nil] at h; exact h
  refine lv_pop hx hb dL_law_368 rfl ?_
  refine lv_goto (tgt := 1186) hx hb dL_law_369 (by decide) ?_
  exact kk _ _ H locs hp h
set_option maxHeartbeats 4000000 in
set_option maxRecDepth 100000 in
theorem lc_pair {p : Program} {l : Launch} {e : Env} {s : State} {m : MethodId} {below : List Frame} {meth : Method} {c : Code} {Q : State → Prop} {D : va_G} {cI cJ cB cZ : ClassId} {ad bd : Nat → Nat} {b L : Nat} {xs : Nat → Int32} {H : Heap} {locs : List Loc} {ls : Array Slot} {tx tm : XT} {i : Nat} (Inv : XT → XT → Prop) (B : Bd p s m #[Value.ref b] meth c cL_law 4 lw_tbl RL D (TYS cI cJ cB cZ)) (hX : va_X b L xs s s.heap) (hbl : b < s.heap.size) (hL : L ≤ 3072) (hi : i + 6 ≤ L) (h : Hp D (fun q => s.heap.size ≤ q) s.heap (wX cI cJ cB cZ ad tx ++ wM cI cJ cB cZ bd tm) H locs) (hl : lv_has ls 4 [(3, .int (nI i)), (2, .ref (bd 0)), (1, .ref (ad 0)), (0, .ref b)]) (hp : ∃ k, wqX11_pair k tx (xs (i + 1)) (xs (i + 2)) (fun r1 tx' => ∃ k', wqX12_pair k' tm (xs (i + 1)) (xs (i + 2)) (fun r2 tm' => Inv tx' tm'))) (kk : ∀ (tx tm : XT) (H : Heap) (locs : List Loc), Inv tx tm → Hp D (fun q => s.heap.size ≤ q) s.heap (wX cI cJ cB cZ ad tx ++ wM cI cJ cB cZ bd tm) H locs → W p l e room_1 s m #[Value.ref b] below meth c H locs 56 11906 Q (F0 m 1186 ls [])) : W p l e room_1 s m #[Value.ref b] below meth c H locs 56 11906 Q (F0 m 372 ls []) := by
  have hx := B.1.1
  have hb := B.1.2.1
  have hbA : ¬ s.heap.size ≤ b := Nat.not_le.mpr hbl
  refine lv_aload_n hx hb dL_law_372 rfl (lv_at hl 2 rfl) ?_
  refine lv_aload_n hx hb dL_law_373 rfl (lv_at hl 3 rfl) ?_
  refine lv_iload_n hx hb dL_law_374 rfl (lv_at hl 0 rfl) ?_
  refine lv_iconst (v := 1) hx hb dL_law_375 (by decide) ?_
  refine lv_iadd hx hb dL_law_376 ?_
  refine lv_topi (fun v_376 ev_376 => ?_)
  obtain rfl : v_376 = nI (i + 1) := ev_376.trans (nI_add i 1)
  refine va_sld hx hb hX hbl hbA h.2.2.1 (vp_in_nI (show i + 1 < L by omega) (by omega)) dL_law_377 ?_
  refine lv_topi (fun v_377 ev_377 => ?_)
  obtain rfl : v_377 = xs (i + 1) := ev_377.trans (by rw [nI_clamp (show i + 1 < 2 ^ 31 by omega)])
  refine lv_aload_n hx hb dL_law_378 rfl (lv_at hl 3 rfl) ?_
  refine lv_iload_n hx hb dL_law_379 rfl (lv_at hl 0 rfl) ?_
  refine lv_iconst (v := 2) hx hb dL_law_380 (by decide) ?_
  refine lv_iadd hx hb dL_law_381 ?_
  refine lv_topi (fun v_381 ev_381 => ?_)
  obtain rfl : v_381 = nI (i + 2) := ev_381.trans (nI_add i 2)
  refine va_sld hx hb hX hbl hbA h.2.2.1 (vp_in_nI (show i + 2 < L by omega) (by omega)) dL_law_382 ?_
  refine lv_topi (fun v_382 ev_382 => ?_)
  obtain rfl : v_382 = xs (i + 2) := ev_382.trans (by rw [nI_clamp (show i + 2 < 2 ^ 31 by omega)])
  obtain ⟨k_1, hp⟩ := hp
  have h : Hp D (fun q => s.heap.size ≤ q) s.heap ([] ++ (wX cI cJ cB cZ ad tx ++ wM cI cJ cB cZ bd tm)) H locs := h
  refine x_cVI (n := 2) (pre := []) (post := wM cI cJ cB cZ bd tm) (wc := wX cI cJ cB cZ ad tx) (As := [.int (xs (i + 1)), .int (xs (i + 2))]) (rest := []) B h (wkX11_pair l D cI cJ cB cZ ad k_1 tx (xs (i + 1)) (xs (i + 2)) _ hp) ⟨⟨_, rfl⟩, by decide +kernel, Nat.le_of_ble_eq_true rfl, Nat.le_of_ble_eq_true rfl⟩ gT_X11_pair (show (wX cI cJ cB cZ ad tx : va_W)[0]? = some (ad 0, .inr (11, _)) from rfl) rfl rfl hl.1 rfl (Nat.le_of_ble_eq_true rfl) dL_law_383 ⟨Nat.le_of_ble_eq_true rfl, Nat.le_of_ble_eq_true rfl⟩ (fun r_1 tx H locs hp h => ?_)
  refine lv_pop hx hb dL_law_386 rfl ?_
  refine lv_aload_n hx hb dL_law_387 rfl (lv_at hl 1 rfl) ?_
  refine lv_aload_n hx hb dL_law_388 rfl (lv_at hl 3 rfl) ?_
  refine lv_iload_n hx hb dL_law_389 rfl (lv_at hl 0 rfl) ?_
  refine lv_iconst (v := 1) hx hb dL_law_390 (by decide) ?_
  refine lv_iadd hx hb dL_law_391 ?_
  refine lv_topi (fun v_391 ev_391 => ?_)
  obtain rfl : v_391 = nI (i + 1) := ev_391.trans (nI_add i 1)
  refine va_sld hx hb hX hbl hbA h.2.2.1 (vp_in_nI (show i + 1 < L by omega) (by omega)) dL_law_392 ?_
  refine lv_topi (fun v_392 ev_392 => ?_)
  obtain rfl : v_392 = xs (i + 1) := ev_392.trans (by rw [nI_clamp (show i + 1 < 2 ^ 31 by omega)])
  refine lv_aload_n hx hb dL_law_393 rfl (lv_at hl 3 rfl) ?_
  refine lv_iload_n hx hb dL_law_394 rfl (lv_at hl 0 rfl) ?_
  refine lv_iconst (v := 2) hx hb dL_law_395 (by decide) ?_
  refine lv_iadd hx hb dL_law_396 ?_
  refine lv_topi (fun v_396 ev_396 => ?_)
  obtain rfl : v_396 = nI (i + 2) := ev_396.trans (nI_add i 2)
  refine va_sld hx hb hX hbl hbA h.2.2.1 (vp_in_nI (show i + 2 < L by omega) (by omega)) dL_law_397 ?_
  refine lv_topi (fun v_397 ev_397 => ?_)
  obtain rfl : v_397 = xs (i + 2) := ev_397.trans (by rw [nI_clamp (show i + 2 < 2 ^ 31 by omega)])
  obtain ⟨k_2, hp⟩ := hp
  have h := hp_nil h
  refine x_cVI (n := 2) (post := []) (wc := wM cI cJ cB cZ bd tm) (As := [.int (xs (i + 1)), .int (xs (i + 2))]) (rest := []) B h (wkX12_pair l D cI cJ cB cZ bd k_2 tm (xs (i + 1)) (xs (i + 2)) _ hp) ⟨⟨_, rfl⟩, by decide +kernel, Nat.le_of_ble_eq_true rfl, Nat.le_of_ble_eq_true rfl⟩ gT_X12_pair (show (wM cI cJ cB cZ bd tm : va_W)[0]? = some (bd 0, .inr (12, _)) from rfl) rfl rfl hl.1 rfl (Nat.le_of_ble_eq_true rfl) dL_law_398 ⟨Nat.le_of_ble_eq_true rfl, Nat.le_of_ble_eq_true rfl⟩ (fun r_2 tm H locs hp h => ?_)
  have h : Hp D (fun q => s.heap.size ≤ q) s.heap (wX cI cJ cB cZ ad tx ++ wM cI cJ cB cZ bd tm) H locs := by rw [List.append_nil] at h; exact h
  refine lv_pop hx hb dL_law_401 rfl ?_
  refine lv_goto (tgt := 1186) hx hb dL_law_402 (by decide) ?_
  exact kk _ _ H locs hp h
set_option maxHeartbeats 4000000 in
set_option maxRecDepth 100000 in
theorem lc_part {p : Program} {l : Launch} {e : Env} {s : State} {m : MethodId} {below : List Frame} {meth : Method} {c : Code} {Q : State → Prop} {D : va_G} {cI cJ cB cZ : ClassId} {ad bd : Nat → Nat} {b L : Nat} {xs : Nat → Int32} {H : Heap} {locs : List Loc} {ls : Array Slot} {tx tm : XT} {i : Nat} (Inv : XT → XT → Prop) (B : Bd p s m #[Value.ref b] meth c cL_law 4 lw_tbl RL D (TYS cI cJ cB cZ)) (hX : va_X b L xs s s.heap) (hbl : b < s.heap.size) (hL : L ≤ 3072) (hi : i + 6 ≤ L) (h : Hp D (fun q => s.heap.size ≤ q) s.heap (wX cI cJ cB cZ ad tx ++ wM cI cJ cB cZ bd tm) H locs) (hl : lv_has ls 4 [(3, .int (nI i)), (2, .ref (bd 0)), (1, .ref (ad 0)), (0, .ref b)]) (hp : ∃ k, wqX11_part k tx (xs (i + 1)) (fun r1 tx' => ∃ k', wqX12_part k' tm (xs (i + 1)) (fun r2 tm' => Inv tx' tm'))) (kk : ∀ (tx tm : XT) (H : Heap) (locs : List Loc), Inv tx tm → Hp D (fun q => s.heap.size ≤ q) s.heap (wX cI cJ cB cZ ad tx ++ wM cI cJ cB cZ bd tm) H locs → W p l e room_1 s m #[Value.ref b] below meth c H locs 56 11906 Q (F0 m 1186 ls [])) : W p l e room_1 s m #[Value.ref b] below meth c H locs 56 11906 Q (F0 m 405 ls []) := by
  have hx := B.1.1
  have hb := B.1.2.1
  have hbA : ¬ s.heap.size ≤ b := Nat.not_le.mpr hbl
  refine lv_aload_n hx hb dL_law_405 rfl (lv_at hl 2 rfl) ?_
  refine lv_aload_n hx hb dL_law_406 rfl (lv_at hl 3 rfl) ?_
  refine lv_iload_n hx hb dL_law_407 rfl (lv_at hl 0 rfl) ?_
  refine lv_iconst (v := 1) hx hb dL_law_408 (by decide) ?_
  refine lv_iadd hx hb dL_law_409 ?_
  refine lv_topi (fun v_409 ev_409 => ?_)
  obtain rfl : v_409 = nI (i + 1) := ev_409.trans (nI_add i 1)
  refine va_sld hx hb hX hbl hbA h.2.2.1 (vp_in_nI (show i + 1 < L by omega) (by omega)) dL_law_410 ?_
  refine lv_topi (fun v_410 ev_410 => ?_)
  obtain rfl : v_410 = xs (i + 1) := ev_410.trans (by rw [nI_clamp (show i + 1 < 2 ^ 31 by omega)])
  obtain ⟨k_1, hp⟩ := hp
  have h : Hp D (fun q => s.heap.size ≤ q) s.heap ([] ++ (wX cI cJ cB cZ ad tx ++ wM cI cJ cB cZ bd tm)) H locs := h
  refine x_cVI (n := 1) (pre := []) (post := wM cI cJ cB cZ bd tm) (wc := wX cI cJ cB cZ ad tx) (As := [.int (xs (i + 1))]) (rest := []) B h (wkX11_part l D cI cJ cB cZ ad k_1 tx (xs (i + 1)) _ hp) ⟨⟨_, rfl⟩, by decide +kernel, Nat.le_of_ble_eq_true rfl, Nat.le_of_ble_eq_true rfl⟩ gT_X11_part (show (wX cI cJ cB cZ ad tx : va_W)[0]? = some (ad 0, .inr (11, _)) from rfl) rfl rfl hl.1 rfl (Nat.le_of_ble_eq_true rfl) dL_law_411 ⟨Nat.le_of_ble_eq_true rfl, Nat.le_of_ble_eq_true rfl⟩ (fun r_1 tx H locs hp h => ?_)
  refine lv_pop hx hb dL_law_414 rfl ?_
  refine lv_aload_n hx hb dL_law_415 rfl (lv_at hl 1 rfl) ?_
  refine lv_aload_n hx hb dL_law_416 rfl (lv_at hl 3 rfl) ?_
  refine lv_iload_n hx hb dL_law_417 rfl (lv_at hl 0 rfl) ?_
  refine lv_iconst (v := 1) hx hb dL_law_418 (by decide) ?_
  refine lv_iadd hx hb dL_law_419 ?_
  refine lv_topi (fun v_419 ev_419 => ?_)
  obtain rfl : v_419 = nI (i + 1) := ev_419.trans (nI_add i 1)
  refine va_sld hx hb hX hbl hbA h.2.2.1 (vp_in_nI (show i + 1 < L by omega) (by omega)) dL_law_420 ?_
  refine lv_topi (fun v_420 ev_420 => ?_)
  obtain rfl : v_420 = xs (i + 1) := ev_420.trans (by rw [nI_clamp (show i + 1 < 2 ^ 31 by omega)])
  obtain ⟨k_2, hp⟩ := hp
  have h := hp_nil h
  refine x_cVI (n := 1) (post := []) (wc := wM cI cJ cB cZ bd tm) (As := [.int (xs (i + 1))]) (rest := []) B h (wkX12_part l D cI cJ cB cZ bd k_2 tm (xs (i + 1)) _ hp) ⟨⟨_, rfl⟩, by decide +kernel, Nat.le_of_ble_eq_true rfl, Nat.le_of_ble_eq_true rfl⟩ gT_X12_part (show (wM cI cJ cB cZ bd tm : va_W)[0]? = some (bd 0, .inr (12, _)) from rfl) rfl rfl hl.1 rfl (Nat.le_of_ble_eq_true rfl) dL_law_421 ⟨Nat.le_of_ble_eq_true rfl, Nat.le_of_ble_eq_true rfl⟩ (fun r_2 tm H locs hp h => ?_)
  have h : Hp D (fun q => s.heap.size ≤ q) s.heap (wX cI cJ cB cZ ad tx ++ wM cI cJ cB cZ bd tm) H locs := by rw [List.append_nil] at h; exact h
  refine lv_pop hx hb dL_law_424 rfl ?_
  refine lv_goto (tgt := 1186) hx hb dL_law_425 (by decide) ?_
  exact kk _ _ H locs hp h
set_option maxHeartbeats 4000000 in
set_option maxRecDepth 100000 in
theorem lc_auto {p : Program} {l : Launch} {e : Env} {s : State} {m : MethodId} {below : List Frame} {meth : Method} {c : Code} {Q : State → Prop} {D : va_G} {cI cJ cB cZ : ClassId} {ad bd : Nat → Nat} {b L : Nat} {xs : Nat → Int32} {H : Heap} {locs : List Loc} {ls : Array Slot} {tx tm : XT} {i : Nat} (Inv : XT → XT → Prop) (B : Bd p s m #[Value.ref b] meth c cL_law 4 lw_tbl RL D (TYS cI cJ cB cZ)) (hX : va_X b L xs s s.heap) (hbl : b < s.heap.size) (hL : L ≤ 3072) (hi : i + 6 ≤ L) (h : Hp D (fun q => s.heap.size ≤ q) s.heap (wX cI cJ cB cZ ad tx ++ wM cI cJ cB cZ bd tm) H locs) (hl : lv_has ls 4 [(3, .int (nI i)), (2, .ref (bd 0)), (1, .ref (ad 0)), (0, .ref b)]) (hp : ∃ k, wqX11_auto k tx (xs (i + 1)) (fun r1 tx' => ∃ k', wqX12_auto k' tm (xs (i + 1)) (fun r2 tm' => Inv tx' tm'))) (kk : ∀ (tx tm : XT) (H : Heap) (locs : List Loc), Inv tx tm → Hp D (fun q => s.heap.size ≤ q) s.heap (wX cI cJ cB cZ ad tx ++ wM cI cJ cB cZ bd tm) H locs → W p l e room_1 s m #[Value.ref b] below meth c H locs 56 11906 Q (F0 m 1186 ls [])) : W p l e room_1 s m #[Value.ref b] below meth c H locs 56 11906 Q (F0 m 428 ls []) := by
  have hx := B.1.1
  have hb := B.1.2.1
  have hbA : ¬ s.heap.size ≤ b := Nat.not_le.mpr hbl
  refine lv_aload_n hx hb dL_law_428 rfl (lv_at hl 2 rfl) ?_
  refine lv_aload_n hx hb dL_law_429 rfl (lv_at hl 3 rfl) ?_
  refine lv_iload_n hx hb dL_law_430 rfl (lv_at hl 0 rfl) ?_
  refine lv_iconst (v := 1) hx hb dL_law_431 (by decide) ?_
  refine lv_iadd hx hb dL_law_432 ?_
  refine lv_topi (fun v_432 ev_432 => ?_)
  obtain rfl : v_432 = nI (i + 1) := ev_432.trans (nI_add i 1)
  refine va_sld hx hb hX hbl hbA h.2.2.1 (vp_in_nI (show i + 1 < L by omega) (by omega)) dL_law_433 ?_
  refine lv_topi (fun v_433 ev_433 => ?_)
  obtain rfl : v_433 = xs (i + 1) := ev_433.trans (by rw [nI_clamp (show i + 1 < 2 ^ 31 by omega)])
  obtain ⟨k_1, hp⟩ := hp
  have h : Hp D (fun q => s.heap.size ≤ q) s.heap ([] ++ (wX cI cJ cB cZ ad tx ++ wM cI cJ cB cZ bd tm)) H locs := h
  refine x_cVI (n := 1) (pre := []) (post := wM cI cJ cB cZ bd tm) (wc := wX cI cJ cB cZ ad tx) (As := [.int (xs (i + 1))]) (rest := []) B h (wkX11_auto l D cI cJ cB cZ ad k_1 tx (xs (i + 1)) _ hp) ⟨⟨_, rfl⟩, by decide +kernel, Nat.le_of_ble_eq_true rfl, Nat.le_of_ble_eq_true rfl⟩ gT_X11_auto (show (wX cI cJ cB cZ ad tx : va_W)[0]? = some (ad 0, .inr (11, _)) from rfl) rfl rfl hl.1 rfl (Nat.le_of_ble_eq_true rfl) dL_law_434 ⟨Nat.le_of_ble_eq_true rfl, Nat.le_of_ble_eq_true rfl⟩ (fun r_1 tx H locs hp h => ?_)
  refine lv_pop hx hb dL_law_437 rfl ?_
  refine lv_aload_n hx hb dL_law_438 rfl (lv_at hl 1 rfl) ?_
  refine lv_aload_n hx hb dL_law_439 rfl (lv_at hl 3 rfl) ?_
  refine lv_iload_n hx hb dL_law_440 rfl (lv_at hl 0 rfl) ?_
  refine lv_iconst (v := 1) hx hb dL_law_441 (by decide) ?_
  refine lv_iadd hx hb dL_law_442 ?_
  refine lv_topi (fun v_442 ev_442 => ?_)
  obtain rfl : v_442 = nI (i + 1) := ev_442.trans (nI_add i 1)
  refine va_sld hx hb hX hbl hbA h.2.2.1 (vp_in_nI (show i + 1 < L by omega) (by omega)) dL_law_443 ?_
  refine lv_topi (fun v_443 ev_443 => ?_)
  obtain rfl : v_443 = xs (i + 1) := ev_443.trans (by rw [nI_clamp (show i + 1 < 2 ^ 31 by omega)])
  obtain ⟨k_2, hp⟩ := hp
  have h := hp_nil h
  refine x_cVI (n := 1) (post := []) (wc := wM cI cJ cB cZ bd tm) (As := [.int (xs (i + 1))]) (rest := []) B h (wkX12_auto l D cI cJ cB cZ bd k_2 tm (xs (i + 1)) _ hp) ⟨⟨_, rfl⟩, by decide +kernel, Nat.le_of_ble_eq_true rfl, Nat.le_of_ble_eq_true rfl⟩ gT_X12_auto (show (wM cI cJ cB cZ bd tm : va_W)[0]? = some (bd 0, .inr (12, _)) from rfl) rfl rfl hl.1 rfl (Nat.le_of_ble_eq_true rfl) dL_law_444 ⟨Nat.le_of_ble_eq_true rfl, Nat.le_of_ble_eq_true rfl⟩ (fun r_2 tm H locs hp h => ?_)
  have h : Hp D (fun q => s.heap.size ≤ q) s.heap (wX cI cJ cB cZ ad tx ++ wM cI cJ cB cZ bd tm) H locs := by rw [List.append_nil] at h; exact h
  refine lv_pop hx hb dL_law_447 rfl ?_
  refine lv_goto (tgt := 1186) hx hb dL_law_448 (by decide) ?_
  exact kk _ _ H locs hp h
set_option maxHeartbeats 4000000 in
set_option maxRecDepth 100000 in
theorem lc_cancel {p : Program} {l : Launch} {e : Env} {s : State} {m : MethodId} {below : List Frame} {meth : Method} {c : Code} {Q : State → Prop} {D : va_G} {cI cJ cB cZ : ClassId} {ad bd : Nat → Nat} {b L : Nat} {xs : Nat → Int32} {H : Heap} {locs : List Loc} {ls : Array Slot} {tx tm : XT} {i : Nat} (Inv : XT → XT → Prop) (B : Bd p s m #[Value.ref b] meth c cL_law 4 lw_tbl RL D (TYS cI cJ cB cZ)) (hX : va_X b L xs s s.heap) (hbl : b < s.heap.size) (hL : L ≤ 3072) (hi : i + 6 ≤ L) (h : Hp D (fun q => s.heap.size ≤ q) s.heap (wX cI cJ cB cZ ad tx ++ wM cI cJ cB cZ bd tm) H locs) (hl : lv_has ls 4 [(3, .int (nI i)), (2, .ref (bd 0)), (1, .ref (ad 0)), (0, .ref b)]) (hp : ∃ k, wqX11_cancel k tx (xs (i + 1)) (xs (i + 2)) (fun r1 tx' => ∃ k', wqX12_cancel k' tm (xs (i + 1)) (xs (i + 2)) (fun r2 tm' => Inv tx' tm'))) (kk : ∀ (tx tm : XT) (H : Heap) (locs : List Loc), Inv tx tm → Hp D (fun q => s.heap.size ≤ q) s.heap (wX cI cJ cB cZ ad tx ++ wM cI cJ cB cZ bd tm) H locs → W p l e room_1 s m #[Value.ref b] below meth c H locs 56 11906 Q (F0 m 1186 ls [])) : W p l e room_1 s m #[Value.ref b] below meth c H locs 56 11906 Q (F0 m 451 ls []) := by
  have hx := B.1.1
  have hb := B.1.2.1
  have hbA : ¬ s.heap.size ≤ b := Nat.not_le.mpr hbl
  refine lv_aload_n hx hb dL_law_451 rfl (lv_at hl 2 rfl) ?_
  refine lv_aload_n hx hb dL_law_452 rfl (lv_at hl 3 rfl) ?_
  refine lv_iload_n hx hb dL_law_453 rfl (lv_at hl 0 rfl) ?_
  refine lv_iconst (v := 1) hx hb dL_law_454 (by decide) ?_
  refine lv_iadd hx hb dL_law_455 ?_
  refine lv_topi (fun v_455 ev_455 => ?_)
  obtain rfl : v_455 = nI (i + 1) := ev_455.trans (nI_add i 1)
  refine va_sld hx hb hX hbl hbA h.2.2.1 (vp_in_nI (show i + 1 < L by omega) (by omega)) dL_law_456 ?_
  refine lv_topi (fun v_456 ev_456 => ?_)
  obtain rfl : v_456 = xs (i + 1) := ev_456.trans (by rw [nI_clamp (show i + 1 < 2 ^ 31 by omega)])
  refine lv_aload_n hx hb dL_law_457 rfl (lv_at hl 3 rfl) ?_
  refine lv_iload_n hx hb dL_law_458 rfl (lv_at hl 0 rfl) ?_
  refine lv_iconst (v := 2) hx hb dL_law_459 (by decide) ?_
  refine lv_iadd hx hb dL_law_460 ?_
  refine lv_topi (fun v_460 ev_460 => ?_)
  obtain rfl : v_460 = nI (i + 2) := ev_460.trans (nI_add i 2)
  refine va_sld hx hb hX hbl hbA h.2.2.1 (vp_in_nI (show i + 2 < L by omega) (by omega)) dL_law_461 ?_
  refine lv_topi (fun v_461 ev_461 => ?_)
  obtain rfl : v_461 = xs (i + 2) := ev_461.trans (by rw [nI_clamp (show i + 2 < 2 ^ 31 by omega)])
  obtain ⟨k_1, hp⟩ := hp
  have h : Hp D (fun q => s.heap.size ≤ q) s.heap ([] ++ (wX cI cJ cB cZ ad tx ++ wM cI cJ cB cZ bd tm)) H locs := h
  refine x_cVI (n := 2) (pre := []) (post := wM cI cJ cB cZ bd tm) (wc := wX cI cJ cB cZ ad tx) (As := [.int (xs (i + 1)), .int (xs (i + 2))]) (rest := []) B h (wkX11_cancel l D cI cJ cB cZ ad k_1 tx (xs (i + 1)) (xs (i + 2)) _ hp) ⟨⟨_, rfl⟩, by decide +kernel, Nat.le_of_ble_eq_true rfl, Nat.le_of_ble_eq_true rfl⟩ gT_X11_cancel (show (wX cI cJ cB cZ ad tx : va_W)[0]? = some (ad 0, .inr (11, _)) from rfl) rfl rfl hl.1 rfl (Nat.le_of_ble_eq_true rfl) dL_law_462 ⟨Nat.le_of_ble_eq_true rfl, Nat.le_of_ble_eq_true rfl⟩ (fun r_1 tx H locs hp h => ?_)
  refine lv_pop hx hb dL_law_465 rfl ?_
  refine lv_aload_n hx hb dL_law_466 rfl (lv_at hl 1 rfl) ?_
  refine lv_aload_n hx hb dL_law_467 rfl (lv_at hl 3 rfl) ?_
  refine lv_iload_n hx hb dL_law_468 rfl (lv_at hl 0 rfl) ?_
  refine lv_iconst (v := 1) hx hb dL_law_469 (by decide) ?_
  refine lv_iadd hx hb dL_law_470 ?_
  refine lv_topi (fun v_470 ev_470 => ?_)
  obtain rfl : v_470 = nI (i + 1) := ev_470.trans (nI_add i 1)
  refine va_sld hx hb hX hbl hbA h.2.2.1 (vp_in_nI (show i + 1 < L by omega) (by omega)) dL_law_471 ?_
  refine lv_topi (fun v_471 ev_471 => ?_)
  obtain rfl : v_471 = xs (i + 1) := ev_471.trans (by rw [nI_clamp (show i + 1 < 2 ^ 31 by omega)])
  refine lv_aload_n hx hb dL_law_472 rfl (lv_at hl 3 rfl) ?_
  refine lv_iload_n hx hb dL_law_473 rfl (lv_at hl 0 rfl) ?_
  refine lv_iconst (v := 2) hx hb dL_law_474 (by decide) ?_
  refine lv_iadd hx hb dL_law_475 ?_
  refine lv_topi (fun v_475 ev_475 => ?_)
  obtain rfl : v_475 = nI (i + 2) := ev_475.trans (nI_add i 2)
  refine va_sld hx hb hX hbl hbA h.2.2.1 (vp_in_nI (show i + 2 < L by omega) (by omega)) dL_law_476 ?_
  refine lv_topi (fun v_476 ev_476 => ?_)
  obtain rfl : v_476 = xs (i + 2) := ev_476.trans (by rw [nI_clamp (show i + 2 < 2 ^ 31 by omega)])
  obtain ⟨k_2, hp⟩ := hp
  have h := hp_nil h
  refine x_cVI (n := 2) (post := []) (wc := wM cI cJ cB cZ bd tm) (As := [.int (xs (i + 1)), .int (xs (i + 2))]) (rest := []) B h (wkX12_cancel l D cI cJ cB cZ bd k_2 tm (xs (i + 1)) (xs (i + 2)) _ hp) ⟨⟨_, rfl⟩, by decide +kernel, Nat.le_of_ble_eq_true rfl, Nat.le_of_ble_eq_true rfl⟩ gT_X12_cancel (show (wM cI cJ cB cZ bd tm : va_W)[0]? = some (bd 0, .inr (12, _)) from rfl) rfl rfl hl.1 rfl (Nat.le_of_ble_eq_true rfl) dL_law_477 ⟨Nat.le_of_ble_eq_true rfl, Nat.le_of_ble_eq_true rfl⟩ (fun r_2 tm H locs hp h => ?_)
  have h : Hp D (fun q => s.heap.size ≤ q) s.heap (wX cI cJ cB cZ ad tx ++ wM cI cJ cB cZ bd tm) H locs := by rw [List.append_nil] at h; exact h
  refine lv_pop hx hb dL_law_480 rfl ?_
  refine lv_goto (tgt := 1186) hx hb dL_law_481 (by decide) ?_
  exact kk _ _ H locs hp h
set_option maxHeartbeats 4000000 in
set_option maxRecDepth 100000 in
theorem lc_collapse {p : Program} {l : Launch} {e : Env} {s : State} {m : MethodId} {below : List Frame} {meth : Method} {c : Code} {Q : State → Prop} {D : va_G} {cI cJ cB cZ : ClassId} {ad bd : Nat → Nat} {b L : Nat} {xs : Nat → Int32} {H : Heap} {locs : List Loc} {ls : Array Slot} {tx tm : XT} {i : Nat} (Inv : XT → XT → Prop) (B : Bd p s m #[Value.ref b] meth c cL_law 4 lw_tbl RL D (TYS cI cJ cB cZ)) (hX : va_X b L xs s s.heap) (hbl : b < s.heap.size) (hL : L ≤ 3072) (hi : i + 6 ≤ L) (h : Hp D (fun q => s.heap.size ≤ q) s.heap (wX cI cJ cB cZ ad tx ++ wM cI cJ cB cZ bd tm) H locs) (hl : lv_has ls 4 [(3, .int (nI i)), (2, .ref (bd 0)), (1, .ref (ad 0)), (0, .ref b)]) (hp : ∃ k, wqX11_collapse k tx (xs (i + 1)) (fun r1 tx' => ∃ k', wqX12_collapse k' tm (xs (i + 1)) (fun r2 tm' => Inv tx' tm'))) (kk : ∀ (tx tm : XT) (H : Heap) (locs : List Loc), Inv tx tm → Hp D (fun q => s.heap.size ≤ q) s.heap (wX cI cJ cB cZ ad tx ++ wM cI cJ cB cZ bd tm) H locs → W p l e room_1 s m #[Value.ref b] below meth c H locs 56 11906 Q (F0 m 1186 ls [])) : W p l e room_1 s m #[Value.ref b] below meth c H locs 56 11906 Q (F0 m 484 ls []) := by
  have hx := B.1.1
  have hb := B.1.2.1
  have hbA : ¬ s.heap.size ≤ b := Nat.not_le.mpr hbl
  refine lv_aload_n hx hb dL_law_484 rfl (lv_at hl 2 rfl) ?_
  refine lv_aload_n hx hb dL_law_485 rfl (lv_at hl 3 rfl) ?_
  refine lv_iload_n hx hb dL_law_486 rfl (lv_at hl 0 rfl) ?_
  refine lv_iconst (v := 1) hx hb dL_law_487 (by decide) ?_
  refine lv_iadd hx hb dL_law_488 ?_
  refine lv_topi (fun v_488 ev_488 => ?_)
  obtain rfl : v_488 = nI (i + 1) := ev_488.trans (nI_add i 1)
  refine va_sld hx hb hX hbl hbA h.2.2.1 (vp_in_nI (show i + 1 < L by omega) (by omega)) dL_law_489 ?_
  refine lv_topi (fun v_489 ev_489 => ?_)
  obtain rfl : v_489 = xs (i + 1) := ev_489.trans (by rw [nI_clamp (show i + 1 < 2 ^ 31 by omega)])
  obtain ⟨k_1, hp⟩ := hp
  have h : Hp D (fun q => s.heap.size ≤ q) s.heap ([] ++ (wX cI cJ cB cZ ad tx ++ wM cI cJ cB cZ bd tm)) H locs := h
  refine x_cVI (n := 1) (pre := []) (post := wM cI cJ cB cZ bd tm) (wc := wX cI cJ cB cZ ad tx) (As := [.int (xs (i + 1))]) (rest := []) B h (wkX11_collapse l D cI cJ cB cZ ad k_1 tx (xs (i + 1)) _ hp) ⟨⟨_, rfl⟩, by decide +kernel, Nat.le_of_ble_eq_true rfl, Nat.le_of_ble_eq_true rfl⟩ gT_X11_collapse (show (wX cI cJ cB cZ ad tx : va_W)[0]? = some (ad 0, .inr (11, _)) from rfl) rfl rfl hl.1 rfl (Nat.le_of_ble_eq_true rfl) dL_law_490 ⟨Nat.le_of_ble_eq_true rfl, Nat.le_of_ble_eq_true rfl⟩ (fun r_1 tx H locs hp h => ?_)
  refine lv_pop hx hb dL_law_493 rfl ?_
  refine lv_aload_n hx hb dL_law_494 rfl (lv_at hl 1 rfl) ?_
  refine lv_aload_n hx hb dL_law_495 rfl (lv_at hl 3 rfl) ?_
  refine lv_iload_n hx hb dL_law_496 rfl (lv_at hl 0 rfl) ?_
  refine lv_iconst (v := 1) hx hb dL_law_497 (by decide) ?_
  refine lv_iadd hx hb dL_law_498 ?_
  refine lv_topi (fun v_498 ev_498 => ?_)
  obtain rfl : v_498 = nI (i + 1) := ev_498.trans (nI_add i 1)
  refine va_sld hx hb hX hbl hbA h.2.2.1 (vp_in_nI (show i + 1 < L by omega) (by omega)) dL_law_499 ?_
  refine lv_topi (fun v_499 ev_499 => ?_)
  obtain rfl : v_499 = xs (i + 1) := ev_499.trans (by rw [nI_clamp (show i + 1 < 2 ^ 31 by omega)])
  obtain ⟨k_2, hp⟩ := hp
  have h := hp_nil h
  refine x_cVI (n := 1) (post := []) (wc := wM cI cJ cB cZ bd tm) (As := [.int (xs (i + 1))]) (rest := []) B h (wkX12_collapse l D cI cJ cB cZ bd k_2 tm (xs (i + 1)) _ hp) ⟨⟨_, rfl⟩, by decide +kernel, Nat.le_of_ble_eq_true rfl, Nat.le_of_ble_eq_true rfl⟩ gT_X12_collapse (show (wM cI cJ cB cZ bd tm : va_W)[0]? = some (bd 0, .inr (12, _)) from rfl) rfl rfl hl.1 rfl (Nat.le_of_ble_eq_true rfl) dL_law_500 ⟨Nat.le_of_ble_eq_true rfl, Nat.le_of_ble_eq_true rfl⟩ (fun r_2 tm H locs hp h => ?_)
  have h : Hp D (fun q => s.heap.size ≤ q) s.heap (wX cI cJ cB cZ ad tx ++ wM cI cJ cB cZ bd tm) H locs := by rw [List.append_nil] at h; exact h
  refine lv_pop hx hb dL_law_503 rfl ?_
  refine lv_goto (tgt := 1186) hx hb dL_law_504 (by decide) ?_
  exact kk _ _ H locs hp h
set_option maxHeartbeats 4000000 in
set_option maxRecDepth 100000 in
theorem lc_undo {p : Program} {l : Launch} {e : Env} {s : State} {m : MethodId} {below : List Frame} {meth : Method} {c : Code} {Q : State → Prop} {D : va_G} {cI cJ cB cZ : ClassId} {ad bd : Nat → Nat} {b L : Nat} {xs : Nat → Int32} {H : Heap} {locs : List Loc} {ls : Array Slot} {tx tm : XT} {i : Nat} (Inv : XT → XT → Prop) (B : Bd p s m #[Value.ref b] meth c cL_law 4 lw_tbl RL D (TYS cI cJ cB cZ)) (hX : va_X b L xs s s.heap) (hbl : b < s.heap.size) (hL : L ≤ 3072) (hi : i + 6 ≤ L) (h : Hp D (fun q => s.heap.size ≤ q) s.heap (wX cI cJ cB cZ ad tx ++ wM cI cJ cB cZ bd tm) H locs) (hl : lv_has ls 4 [(3, .int (nI i)), (2, .ref (bd 0)), (1, .ref (ad 0)), (0, .ref b)]) (hp : ∃ k, wqX11_undo k tx  (fun r1 tx' => ∃ k', wqX12_undo k' tm  (fun r2 tm' => Inv tx' tm'))) (kk : ∀ (tx tm : XT) (H : Heap) (locs : List Loc), Inv tx tm → Hp D (fun q => s.heap.size ≤ q) s.heap (wX cI cJ cB cZ ad tx ++ wM cI cJ cB cZ bd tm) H locs → W p l e room_1 s m #[Value.ref b] below meth c H locs 56 11906 Q (F0 m 1186 ls [])) : W p l e room_1 s m #[Value.ref b] below meth c H locs 56 11906 Q (F0 m 507 ls []) := by
  have hx := B.1.1
  have hb := B.1.2.1
  have hbA : ¬ s.heap.size ≤ b := Nat.not_le.mpr hbl
  refine lv_aload_n hx hb dL_law_507 rfl (lv_at hl 2 rfl) ?_
  obtain ⟨k_1, hp⟩ := hp
  have h : Hp D (fun q => s.heap.size ≤ q) s.heap ([] ++ (wX cI cJ cB cZ ad tx ++ wM cI cJ cB cZ bd tm)) H locs := h
  refine x_cVI (n := 0) (pre := []) (post := wM cI cJ cB cZ bd tm) (wc := wX cI cJ cB cZ ad tx) (As := []) (rest := []) B h (wkX11_undo l D cI cJ cB cZ ad k_1 tx  _ hp) ⟨⟨_, rfl⟩, by decide +kernel, Nat.le_of_ble_eq_true rfl, Nat.le_of_ble_eq_true rfl⟩ gT_X11_undo (show (wX cI cJ cB cZ ad tx : va_W)[0]? = some (ad 0, .inr (11, _)) from rfl) rfl rfl hl.1 rfl (Nat.le_of_ble_eq_true rfl) dL_law_508 ⟨Nat.le_of_ble_eq_true rfl, Nat.le_of_ble_eq_true rfl⟩ (fun r_1 tx H locs hp h => ?_)
  refine lv_pop hx hb dL_law_511 rfl ?_
  refine lv_aload_n hx hb dL_law_512 rfl (lv_at hl 1 rfl) ?_
  obtain ⟨k_2, hp⟩ := hp
  have h := hp_nil h
  refine x_cVI (n := 0) (post := []) (wc := wM cI cJ cB cZ bd tm) (As := []) (rest := []) B h (wkX12_undo l D cI cJ cB cZ bd k_2 tm  _ hp) ⟨⟨_, rfl⟩, by decide +kernel, Nat.le_of_ble_eq_true rfl, Nat.le_of_ble_eq_true rfl⟩ gT_X12_undo (show (wM cI cJ cB cZ bd tm : va_W)[0]? = some (bd 0, .inr (12, _)) from rfl) rfl rfl hl.1 rfl (Nat.le_of_ble_eq_true rfl) dL_law_513 ⟨Nat.le_of_ble_eq_true rfl, Nat.le_of_ble_eq_true rfl⟩ (fun r_2 tm H locs hp h => ?_)
  have h : Hp D (fun q => s.heap.size ≤ q) s.heap (wX cI cJ cB cZ ad tx ++ wM cI cJ cB cZ bd tm) H locs := by rw [List.append_nil] at h; exact h
  refine lv_pop hx hb dL_law_516 rfl ?_
  refine lv_goto (tgt := 1186) hx hb dL_law_517 (by decide) ?_
  exact kk _ _ H locs hp h
set_option maxHeartbeats 4000000 in
set_option maxRecDepth 100000 in
theorem lc_critical {p : Program} {l : Launch} {e : Env} {s : State} {m : MethodId} {below : List Frame} {meth : Method} {c : Code} {Q : State → Prop} {D : va_G} {cI cJ cB cZ : ClassId} {ad bd : Nat → Nat} {b L : Nat} {xs : Nat → Int32} {H : Heap} {locs : List Loc} {ls : Array Slot} {tx tm : XT} {i : Nat} (Inv : XT → XT → Prop) (B : Bd p s m #[Value.ref b] meth c cL_law 4 lw_tbl RL D (TYS cI cJ cB cZ)) (hX : va_X b L xs s s.heap) (hbl : b < s.heap.size) (hL : L ≤ 3072) (hi : i + 6 ≤ L) (h : Hp D (fun q => s.heap.size ≤ q) s.heap (wX cI cJ cB cZ ad tx ++ wM cI cJ cB cZ bd tm) H locs) (hl : lv_has ls 4 [(3, .int (nI i)), (2, .ref (bd 0)), (1, .ref (ad 0)), (0, .ref b)]) (hp : ∃ k, wqX11_critical k tx (xs (i + 1)) (xs (i + 2)) (fun r1 tx' => ∃ k', wqX12_critical k' tm (xs (i + 1)) (xs (i + 2)) (fun r2 tm' => Inv tx' tm'))) (kk : ∀ (tx tm : XT) (H : Heap) (locs : List Loc), Inv tx tm → Hp D (fun q => s.heap.size ≤ q) s.heap (wX cI cJ cB cZ ad tx ++ wM cI cJ cB cZ bd tm) H locs → W p l e room_1 s m #[Value.ref b] below meth c H locs 56 11906 Q (F0 m 1186 ls [])) : W p l e room_1 s m #[Value.ref b] below meth c H locs 56 11906 Q (F0 m 520 ls []) := by
  have hx := B.1.1
  have hb := B.1.2.1
  have hbA : ¬ s.heap.size ≤ b := Nat.not_le.mpr hbl
  refine lv_aload_n hx hb dL_law_520 rfl (lv_at hl 2 rfl) ?_
  refine lv_aload_n hx hb dL_law_521 rfl (lv_at hl 3 rfl) ?_
  refine lv_iload_n hx hb dL_law_522 rfl (lv_at hl 0 rfl) ?_
  refine lv_iconst (v := 1) hx hb dL_law_523 (by decide) ?_
  refine lv_iadd hx hb dL_law_524 ?_
  refine lv_topi (fun v_524 ev_524 => ?_)
  obtain rfl : v_524 = nI (i + 1) := ev_524.trans (nI_add i 1)
  refine va_sld hx hb hX hbl hbA h.2.2.1 (vp_in_nI (show i + 1 < L by omega) (by omega)) dL_law_525 ?_
  refine lv_topi (fun v_525 ev_525 => ?_)
  obtain rfl : v_525 = xs (i + 1) := ev_525.trans (by rw [nI_clamp (show i + 1 < 2 ^ 31 by omega)])
  refine lv_aload_n hx hb dL_law_526 rfl (lv_at hl 3 rfl) ?_
  refine lv_iload_n hx hb dL_law_527 rfl (lv_at hl 0 rfl) ?_
  refine lv_iconst (v := 2) hx hb dL_law_528 (by decide) ?_
  refine lv_iadd hx hb dL_law_529 ?_
  refine lv_topi (fun v_529 ev_529 => ?_)
  obtain rfl : v_529 = nI (i + 2) := ev_529.trans (nI_add i 2)
  refine va_sld hx hb hX hbl hbA h.2.2.1 (vp_in_nI (show i + 2 < L by omega) (by omega)) dL_law_530 ?_
  refine lv_topi (fun v_530 ev_530 => ?_)
  obtain rfl : v_530 = xs (i + 2) := ev_530.trans (by rw [nI_clamp (show i + 2 < 2 ^ 31 by omega)])
  obtain ⟨k_1, hp⟩ := hp
  have h : Hp D (fun q => s.heap.size ≤ q) s.heap ([] ++ (wX cI cJ cB cZ ad tx ++ wM cI cJ cB cZ bd tm)) H locs := h
  refine x_cVI (n := 2) (pre := []) (post := wM cI cJ cB cZ bd tm) (wc := wX cI cJ cB cZ ad tx) (As := [.int (xs (i + 1)), .int (xs (i + 2))]) (rest := []) B h (wkX11_critical l D cI cJ cB cZ ad k_1 tx (xs (i + 1)) (xs (i + 2)) _ hp) ⟨⟨_, rfl⟩, by decide +kernel, Nat.le_of_ble_eq_true rfl, Nat.le_of_ble_eq_true rfl⟩ gT_X11_critical (show (wX cI cJ cB cZ ad tx : va_W)[0]? = some (ad 0, .inr (11, _)) from rfl) rfl rfl hl.1 rfl (Nat.le_of_ble_eq_true rfl) dL_law_531 ⟨Nat.le_of_ble_eq_true rfl, Nat.le_of_ble_eq_true rfl⟩ (fun r_1 tx H locs hp h => ?_)
  refine lv_pop hx hb dL_law_534 rfl ?_
  refine lv_aload_n hx hb dL_law_535 rfl (lv_at hl 1 rfl) ?_
  refine lv_aload_n hx hb dL_law_536 rfl (lv_at hl 3 rfl) ?_
  refine lv_iload_n hx hb dL_law_537 rfl (lv_at hl 0 rfl) ?_
  refine lv_iconst (v := 1) hx hb dL_law_538 (by decide) ?_
  refine lv_iadd hx hb dL_law_539 ?_
  refine lv_topi (fun v_539 ev_539 => ?_)
  obtain rfl : v_539 = nI (i + 1) := ev_539.trans (nI_add i 1)
  refine va_sld hx hb hX hbl hbA h.2.2.1 (vp_in_nI (show i + 1 < L by omega) (by omega)) dL_law_540 ?_
  refine lv_topi (fun v_540 ev_540 => ?_)
  obtain rfl : v_540 = xs (i + 1) := ev_540.trans (by rw [nI_clamp (show i + 1 < 2 ^ 31 by omega)])
  refine lv_aload_n hx hb dL_law_541 rfl (lv_at hl 3 rfl) ?_
  refine lv_iload_n hx hb dL_law_542 rfl (lv_at hl 0 rfl) ?_
  refine lv_iconst (v := 2) hx hb dL_law_543 (by decide) ?_
  refine lv_iadd hx hb dL_law_544 ?_
  refine lv_topi (fun v_544 ev_544 => ?_)
  obtain rfl : v_544 = nI (i + 2) := ev_544.trans (nI_add i 2)
  refine va_sld hx hb hX hbl hbA h.2.2.1 (vp_in_nI (show i + 2 < L by omega) (by omega)) dL_law_545 ?_
  refine lv_topi (fun v_545 ev_545 => ?_)
  obtain rfl : v_545 = xs (i + 2) := ev_545.trans (by rw [nI_clamp (show i + 2 < 2 ^ 31 by omega)])
  obtain ⟨k_2, hp⟩ := hp
  have h := hp_nil h
  refine x_cVI (n := 2) (post := []) (wc := wM cI cJ cB cZ bd tm) (As := [.int (xs (i + 1)), .int (xs (i + 2))]) (rest := []) B h (wkX12_critical l D cI cJ cB cZ bd k_2 tm (xs (i + 1)) (xs (i + 2)) _ hp) ⟨⟨_, rfl⟩, by decide +kernel, Nat.le_of_ble_eq_true rfl, Nat.le_of_ble_eq_true rfl⟩ gT_X12_critical (show (wM cI cJ cB cZ bd tm : va_W)[0]? = some (bd 0, .inr (12, _)) from rfl) rfl rfl hl.1 rfl (Nat.le_of_ble_eq_true rfl) dL_law_546 ⟨Nat.le_of_ble_eq_true rfl, Nat.le_of_ble_eq_true rfl⟩ (fun r_2 tm H locs hp h => ?_)
  have h : Hp D (fun q => s.heap.size ≤ q) s.heap (wX cI cJ cB cZ ad tx ++ wM cI cJ cB cZ bd tm) H locs := by rw [List.append_nil] at h; exact h
  refine lv_pop hx hb dL_law_549 rfl ?_
  refine lv_goto (tgt := 1186) hx hb dL_law_550 (by decide) ?_
  exact kk _ _ H locs hp h
set_option maxHeartbeats 4000000 in
set_option maxRecDepth 100000 in
theorem lc_paths {p : Program} {l : Launch} {e : Env} {s : State} {m : MethodId} {below : List Frame} {meth : Method} {c : Code} {Q : State → Prop} {D : va_G} {cI cJ cB cZ : ClassId} {ad bd : Nat → Nat} {b L : Nat} {xs : Nat → Int32} {H : Heap} {locs : List Loc} {ls : Array Slot} {tx tm : XT} {i : Nat} (Inv : XT → XT → Prop) (B : Bd p s m #[Value.ref b] meth c cL_law 4 lw_tbl RL D (TYS cI cJ cB cZ)) (hX : va_X b L xs s s.heap) (hbl : b < s.heap.size) (hL : L ≤ 3072) (hi : i + 6 ≤ L) (h : Hp D (fun q => s.heap.size ≤ q) s.heap (wX cI cJ cB cZ ad tx ++ wM cI cJ cB cZ bd tm) H locs) (hl : lv_has ls 4 [(3, .int (nI i)), (2, .ref (bd 0)), (1, .ref (ad 0)), (0, .ref b)]) (hp : ∃ k, wqX11_paths k tx (xs (i + 1)) (xs (i + 2)) (fun r1 tx' => ∃ k', wqX12_paths k' tm (xs (i + 1)) (xs (i + 2)) (fun r2 tm' => Inv tx' tm'))) (kk : ∀ (tx tm : XT) (H : Heap) (locs : List Loc), Inv tx tm → Hp D (fun q => s.heap.size ≤ q) s.heap (wX cI cJ cB cZ ad tx ++ wM cI cJ cB cZ bd tm) H locs → W p l e room_1 s m #[Value.ref b] below meth c H locs 56 11906 Q (F0 m 1186 ls [])) : W p l e room_1 s m #[Value.ref b] below meth c H locs 56 11906 Q (F0 m 553 ls []) := by
  have hx := B.1.1
  have hb := B.1.2.1
  have hbA : ¬ s.heap.size ≤ b := Nat.not_le.mpr hbl
  refine lv_aload_n hx hb dL_law_553 rfl (lv_at hl 2 rfl) ?_
  refine lv_aload_n hx hb dL_law_554 rfl (lv_at hl 3 rfl) ?_
  refine lv_iload_n hx hb dL_law_555 rfl (lv_at hl 0 rfl) ?_
  refine lv_iconst (v := 1) hx hb dL_law_556 (by decide) ?_
  refine lv_iadd hx hb dL_law_557 ?_
  refine lv_topi (fun v_557 ev_557 => ?_)
  obtain rfl : v_557 = nI (i + 1) := ev_557.trans (nI_add i 1)
  refine va_sld hx hb hX hbl hbA h.2.2.1 (vp_in_nI (show i + 1 < L by omega) (by omega)) dL_law_558 ?_
  refine lv_topi (fun v_558 ev_558 => ?_)
  obtain rfl : v_558 = xs (i + 1) := ev_558.trans (by rw [nI_clamp (show i + 1 < 2 ^ 31 by omega)])
  refine lv_aload_n hx hb dL_law_559 rfl (lv_at hl 3 rfl) ?_
  refine lv_iload_n hx hb dL_law_560 rfl (lv_at hl 0 rfl) ?_
  refine lv_iconst (v := 2) hx hb dL_law_561 (by decide) ?_
  refine lv_iadd hx hb dL_law_562 ?_
  refine lv_topi (fun v_562 ev_562 => ?_)
  obtain rfl : v_562 = nI (i + 2) := ev_562.trans (nI_add i 2)
  refine va_sld hx hb hX hbl hbA h.2.2.1 (vp_in_nI (show i + 2 < L by omega) (by omega)) dL_law_563 ?_
  refine lv_topi (fun v_563 ev_563 => ?_)
  obtain rfl : v_563 = xs (i + 2) := ev_563.trans (by rw [nI_clamp (show i + 2 < 2 ^ 31 by omega)])
  obtain ⟨k_1, hp⟩ := hp
  have h : Hp D (fun q => s.heap.size ≤ q) s.heap ([] ++ (wX cI cJ cB cZ ad tx ++ wM cI cJ cB cZ bd tm)) H locs := h
  refine x_cVL (n := 2) (pre := []) (post := wM cI cJ cB cZ bd tm) (wc := wX cI cJ cB cZ ad tx) (As := [.int (xs (i + 1)), .int (xs (i + 2))]) (rest := []) B h (wkX11_paths l D cI cJ cB cZ ad k_1 tx (xs (i + 1)) (xs (i + 2)) _ hp) ⟨⟨_, rfl⟩, by decide +kernel, Nat.le_of_ble_eq_true rfl, Nat.le_of_ble_eq_true rfl⟩ gT_X11_paths (show (wX cI cJ cB cZ ad tx : va_W)[0]? = some (ad 0, .inr (11, _)) from rfl) rfl rfl hl.1 rfl (Nat.le_of_ble_eq_true rfl) dL_law_564 ⟨Nat.le_of_ble_eq_true rfl, Nat.le_of_ble_eq_true rfl⟩ (fun r_1 tx H locs hp h => ?_)
  refine lv_pop2_2 hx hb dL_law_567 rfl ?_
  refine lv_aload_n hx hb dL_law_568 rfl (lv_at hl 1 rfl) ?_
  refine lv_aload_n hx hb dL_law_569 rfl (lv_at hl 3 rfl) ?_
  refine lv_iload_n hx hb dL_law_570 rfl (lv_at hl 0 rfl) ?_
  refine lv_iconst (v := 1) hx hb dL_law_571 (by decide) ?_
  refine lv_iadd hx hb dL_law_572 ?_
  refine lv_topi (fun v_572 ev_572 => ?_)
  obtain rfl : v_572 = nI (i + 1) := ev_572.trans (nI_add i 1)
  refine va_sld hx hb hX hbl hbA h.2.2.1 (vp_in_nI (show i + 1 < L by omega) (by omega)) dL_law_573 ?_
  refine lv_topi (fun v_573 ev_573 => ?_)
  obtain rfl : v_573 = xs (i + 1) := ev_573.trans (by rw [nI_clamp (show i + 1 < 2 ^ 31 by omega)])
  refine lv_aload_n hx hb dL_law_574 rfl (lv_at hl 3 rfl) ?_
  refine lv_iload_n hx hb dL_law_575 rfl (lv_at hl 0 rfl) ?_
  refine lv_iconst (v := 2) hx hb dL_law_576 (by decide) ?_
  refine lv_iadd hx hb dL_law_577 ?_
  refine lv_topi (fun v_577 ev_577 => ?_)
  obtain rfl : v_577 = nI (i + 2) := ev_577.trans (nI_add i 2)
  refine va_sld hx hb hX hbl hbA h.2.2.1 (vp_in_nI (show i + 2 < L by omega) (by omega)) dL_law_578 ?_
  refine lv_topi (fun v_578 ev_578 => ?_)
  obtain rfl : v_578 = xs (i + 2) := ev_578.trans (by rw [nI_clamp (show i + 2 < 2 ^ 31 by omega)])
  obtain ⟨k_2, hp⟩ := hp
  have h := hp_nil h
  refine x_cVL (n := 2) (post := []) (wc := wM cI cJ cB cZ bd tm) (As := [.int (xs (i + 1)), .int (xs (i + 2))]) (rest := []) B h (wkX12_paths l D cI cJ cB cZ bd k_2 tm (xs (i + 1)) (xs (i + 2)) _ hp) ⟨⟨_, rfl⟩, by decide +kernel, Nat.le_of_ble_eq_true rfl, Nat.le_of_ble_eq_true rfl⟩ gT_X12_paths (show (wM cI cJ cB cZ bd tm : va_W)[0]? = some (bd 0, .inr (12, _)) from rfl) rfl rfl hl.1 rfl (Nat.le_of_ble_eq_true rfl) dL_law_579 ⟨Nat.le_of_ble_eq_true rfl, Nat.le_of_ble_eq_true rfl⟩ (fun r_2 tm H locs hp h => ?_)
  have h : Hp D (fun q => s.heap.size ≤ q) s.heap (wX cI cJ cB cZ ad tx ++ wM cI cJ cB cZ bd tm) H locs := by rw [List.append_nil] at h; exact h
  refine lv_pop2_2 hx hb dL_law_582 rfl ?_
  refine lv_goto (tgt := 1186) hx hb dL_law_583 (by decide) ?_
  exact kk _ _ H locs hp h
set_option maxHeartbeats 4000000 in
set_option maxRecDepth 100000 in
theorem lc_path {p : Program} {l : Launch} {e : Env} {s : State} {m : MethodId} {below : List Frame} {meth : Method} {c : Code} {Q : State → Prop} {D : va_G} {cI cJ cB cZ : ClassId} {ad bd : Nat → Nat} {b L : Nat} {xs : Nat → Int32} {H : Heap} {locs : List Loc} {ls : Array Slot} {tx tm : XT} {i : Nat} (Inv : XT → XT → Prop) (B : Bd p s m #[Value.ref b] meth c cL_law 4 lw_tbl RL D (TYS cI cJ cB cZ)) (hX : va_X b L xs s s.heap) (hbl : b < s.heap.size) (hL : L ≤ 3072) (hi : i + 6 ≤ L) (h : Hp D (fun q => s.heap.size ≤ q) s.heap (wX cI cJ cB cZ ad tx ++ wM cI cJ cB cZ bd tm) H locs) (hl : lv_has ls 4 [(3, .int (nI i)), (2, .ref (bd 0)), (1, .ref (ad 0)), (0, .ref b)]) (hp : ∃ k, wqX11_path k tx (xs (i + 1)) (xs (i + 2)) (xs (i + 3)) (xs (i + 4)) (fun r1 tx' => ∃ k', wqX12_path k' tm (xs (i + 1)) (xs (i + 2)) (xs (i + 3)) (xs (i + 4)) (fun r2 tm' => Inv tx' tm'))) (kk : ∀ (tx tm : XT) (H : Heap) (locs : List Loc), Inv tx tm → Hp D (fun q => s.heap.size ≤ q) s.heap (wX cI cJ cB cZ ad tx ++ wM cI cJ cB cZ bd tm) H locs → W p l e room_1 s m #[Value.ref b] below meth c H locs 56 11906 Q (F0 m 1186 ls [])) : W p l e room_1 s m #[Value.ref b] below meth c H locs 56 11906 Q (F0 m 586 ls []) := by
  have hx := B.1.1
  have hb := B.1.2.1
  have hbA : ¬ s.heap.size ≤ b := Nat.not_le.mpr hbl
  refine lv_aload_n hx hb dL_law_586 rfl (lv_at hl 2 rfl) ?_
  refine lv_aload_n hx hb dL_law_587 rfl (lv_at hl 3 rfl) ?_
  refine lv_iload_n hx hb dL_law_588 rfl (lv_at hl 0 rfl) ?_
  refine lv_iconst (v := 1) hx hb dL_law_589 (by decide) ?_
  refine lv_iadd hx hb dL_law_590 ?_
  refine lv_topi (fun v_590 ev_590 => ?_)
  obtain rfl : v_590 = nI (i + 1) := ev_590.trans (nI_add i 1)
  refine va_sld hx hb hX hbl hbA h.2.2.1 (vp_in_nI (show i + 1 < L by omega) (by omega)) dL_law_591 ?_
  refine lv_topi (fun v_591 ev_591 => ?_)
  obtain rfl : v_591 = xs (i + 1) := ev_591.trans (by rw [nI_clamp (show i + 1 < 2 ^ 31 by omega)])
  refine lv_aload_n hx hb dL_law_592 rfl (lv_at hl 3 rfl) ?_
  refine lv_iload_n hx hb dL_law_593 rfl (lv_at hl 0 rfl) ?_
  refine lv_iconst (v := 2) hx hb dL_law_594 (by decide) ?_
  refine lv_iadd hx hb dL_law_595 ?_
  refine lv_topi (fun v_595 ev_595 => ?_)
  obtain rfl : v_595 = nI (i + 2) := ev_595.trans (nI_add i 2)
  refine va_sld hx hb hX hbl hbA h.2.2.1 (vp_in_nI (show i + 2 < L by omega) (by omega)) dL_law_596 ?_
  refine lv_topi (fun v_596 ev_596 => ?_)
  obtain rfl : v_596 = xs (i + 2) := ev_596.trans (by rw [nI_clamp (show i + 2 < 2 ^ 31 by omega)])
  refine lv_aload_n hx hb dL_law_597 rfl (lv_at hl 3 rfl) ?_
  refine lv_iload_n hx hb dL_law_598 rfl (lv_at hl 0 rfl) ?_
  refine lv_iconst (v := 3) hx hb dL_law_599 (by decide) ?_
  refine lv_iadd hx hb dL_law_600 ?_
  refine lv_topi (fun v_600 ev_600 => ?_)
  obtain rfl : v_600 = nI (i + 3) := ev_600.trans (nI_add i 3)
  refine va_sld hx hb hX hbl hbA h.2.2.1 (vp_in_nI (show i + 3 < L by omega) (by omega)) dL_law_601 ?_
  refine lv_topi (fun v_601 ev_601 => ?_)
  obtain rfl : v_601 = xs (i + 3) := ev_601.trans (by rw [nI_clamp (show i + 3 < 2 ^ 31 by omega)])
  refine lv_aload_n hx hb dL_law_602 rfl (lv_at hl 3 rfl) ?_
  refine lv_iload_n hx hb dL_law_603 rfl (lv_at hl 0 rfl) ?_
  refine lv_iconst (v := 4) hx hb dL_law_604 (by decide) ?_
  refine lv_iadd hx hb dL_law_605 ?_
  refine lv_topi (fun v_605 ev_605 => ?_)
  obtain rfl : v_605 = nI (i + 4) := ev_605.trans (nI_add i 4)
  refine va_sld hx hb hX hbl hbA h.2.2.1 (vp_in_nI (show i + 4 < L by omega) (by omega)) dL_law_606 ?_
  refine lv_topi (fun v_606 ev_606 => ?_)
  obtain rfl : v_606 = xs (i + 4) := ev_606.trans (by rw [nI_clamp (show i + 4 < 2 ^ 31 by omega)])
  obtain ⟨k_1, hp⟩ := hp
  have h : Hp D (fun q => s.heap.size ≤ q) s.heap ([] ++ (wX cI cJ cB cZ ad tx ++ wM cI cJ cB cZ bd tm)) H locs := h
  refine x_cVI (n := 4) (pre := []) (post := wM cI cJ cB cZ bd tm) (wc := wX cI cJ cB cZ ad tx) (As := [.int (xs (i + 1)), .int (xs (i + 2)), .int (xs (i + 3)), .int (xs (i + 4))]) (rest := []) B h (wkX11_path l D cI cJ cB cZ ad k_1 tx (xs (i + 1)) (xs (i + 2)) (xs (i + 3)) (xs (i + 4)) _ hp) ⟨⟨_, rfl⟩, by decide +kernel, Nat.le_of_ble_eq_true rfl, Nat.le_of_ble_eq_true rfl⟩ gT_X11_path (show (wX cI cJ cB cZ ad tx : va_W)[0]? = some (ad 0, .inr (11, _)) from rfl) rfl rfl hl.1 rfl (Nat.le_of_ble_eq_true rfl) dL_law_607 ⟨Nat.le_of_ble_eq_true rfl, Nat.le_of_ble_eq_true rfl⟩ (fun r_1 tx H locs hp h => ?_)
  refine lv_pop hx hb dL_law_610 rfl ?_
  refine lv_aload_n hx hb dL_law_611 rfl (lv_at hl 1 rfl) ?_
  refine lv_aload_n hx hb dL_law_612 rfl (lv_at hl 3 rfl) ?_
  refine lv_iload_n hx hb dL_law_613 rfl (lv_at hl 0 rfl) ?_
  refine lv_iconst (v := 1) hx hb dL_law_614 (by decide) ?_
  refine lv_iadd hx hb dL_law_615 ?_
  refine lv_topi (fun v_615 ev_615 => ?_)
  obtain rfl : v_615 = nI (i + 1) := ev_615.trans (nI_add i 1)
  refine va_sld hx hb hX hbl hbA h.2.2.1 (vp_in_nI (show i + 1 < L by omega) (by omega)) dL_law_616 ?_
  refine lv_topi (fun v_616 ev_616 => ?_)
  obtain rfl : v_616 = xs (i + 1) := ev_616.trans (by rw [nI_clamp (show i + 1 < 2 ^ 31 by omega)])
  refine lv_aload_n hx hb dL_law_617 rfl (lv_at hl 3 rfl) ?_
  refine lv_iload_n hx hb dL_law_618 rfl (lv_at hl 0 rfl) ?_
  refine lv_iconst (v := 2) hx hb dL_law_619 (by decide) ?_
  refine lv_iadd hx hb dL_law_620 ?_
  refine lv_topi (fun v_620 ev_620 => ?_)
  obtain rfl : v_620 = nI (i + 2) := ev_620.trans (nI_add i 2)
  refine va_sld hx hb hX hbl hbA h.2.2.1 (vp_in_nI (show i + 2 < L by omega) (by omega)) dL_law_621 ?_
  refine lv_topi (fun v_621 ev_621 => ?_)
  obtain rfl : v_621 = xs (i + 2) := ev_621.trans (by rw [nI_clamp (show i + 2 < 2 ^ 31 by omega)])
  refine lv_aload_n hx hb dL_law_622 rfl (lv_at hl 3 rfl) ?_
  refine lv_iload_n hx hb dL_law_623 rfl (lv_at hl 0 rfl) ?_
  refine lv_iconst (v := 3) hx hb dL_law_624 (by decide) ?_
  refine lv_iadd hx hb dL_law_625 ?_
  refine lv_topi (fun v_625 ev_625 => ?_)
  obtain rfl : v_625 = nI (i + 3) := ev_625.trans (nI_add i 3)
  refine va_sld hx hb hX hbl hbA h.2.2.1 (vp_in_nI (show i + 3 < L by omega) (by omega)) dL_law_626 ?_
  refine lv_topi (fun v_626 ev_626 => ?_)
  obtain rfl : v_626 = xs (i + 3) := ev_626.trans (by rw [nI_clamp (show i + 3 < 2 ^ 31 by omega)])
  refine lv_aload_n hx hb dL_law_627 rfl (lv_at hl 3 rfl) ?_
  refine lv_iload_n hx hb dL_law_628 rfl (lv_at hl 0 rfl) ?_
  refine lv_iconst (v := 4) hx hb dL_law_629 (by decide) ?_
  refine lv_iadd hx hb dL_law_630 ?_
  refine lv_topi (fun v_630 ev_630 => ?_)
  obtain rfl : v_630 = nI (i + 4) := ev_630.trans (nI_add i 4)
  refine va_sld hx hb hX hbl hbA h.2.2.1 (vp_in_nI (show i + 4 < L by omega) (by omega)) dL_law_631 ?_
  refine lv_topi (fun v_631 ev_631 => ?_)
  obtain rfl : v_631 = xs (i + 4) := ev_631.trans (by rw [nI_clamp (show i + 4 < 2 ^ 31 by omega)])
  obtain ⟨k_2, hp⟩ := hp
  have h := hp_nil h
  refine x_cVI (n := 4) (post := []) (wc := wM cI cJ cB cZ bd tm) (As := [.int (xs (i + 1)), .int (xs (i + 2)), .int (xs (i + 3)), .int (xs (i + 4))]) (rest := []) B h (wkX12_path l D cI cJ cB cZ bd k_2 tm (xs (i + 1)) (xs (i + 2)) (xs (i + 3)) (xs (i + 4)) _ hp) ⟨⟨_, rfl⟩, by decide +kernel, Nat.le_of_ble_eq_true rfl, Nat.le_of_ble_eq_true rfl⟩ gT_X12_path (show (wM cI cJ cB cZ bd tm : va_W)[0]? = some (bd 0, .inr (12, _)) from rfl) rfl rfl hl.1 rfl (Nat.le_of_ble_eq_true rfl) dL_law_632 ⟨Nat.le_of_ble_eq_true rfl, Nat.le_of_ble_eq_true rfl⟩ (fun r_2 tm H locs hp h => ?_)
  have h : Hp D (fun q => s.heap.size ≤ q) s.heap (wX cI cJ cB cZ ad tx ++ wM cI cJ cB cZ bd tm) H locs := by rw [List.append_nil] at h; exact h
  refine lv_pop hx hb dL_law_635 rfl ?_
  refine lv_goto (tgt := 1186) hx hb dL_law_636 (by decide) ?_
  exact kk _ _ H locs hp h
set_option maxHeartbeats 4000000 in
set_option maxRecDepth 100000 in
theorem lc_incidence {p : Program} {l : Launch} {e : Env} {s : State} {m : MethodId} {below : List Frame} {meth : Method} {c : Code} {Q : State → Prop} {D : va_G} {cI cJ cB cZ : ClassId} {ad bd : Nat → Nat} {b L : Nat} {xs : Nat → Int32} {H : Heap} {locs : List Loc} {ls : Array Slot} {tx tm : XT} {i : Nat} (Inv : XT → XT → Prop) (B : Bd p s m #[Value.ref b] meth c cL_law 4 lw_tbl RL D (TYS cI cJ cB cZ)) (hX : va_X b L xs s s.heap) (hbl : b < s.heap.size) (hL : L ≤ 3072) (hi : i + 6 ≤ L) (h : Hp D (fun q => s.heap.size ≤ q) s.heap (wX cI cJ cB cZ ad tx ++ wM cI cJ cB cZ bd tm) H locs) (hl : lv_has ls 4 [(3, .int (nI i)), (2, .ref (bd 0)), (1, .ref (ad 0)), (0, .ref b)]) (hp : ∃ k, wqX11_incidence k tx (xs (i + 1)) (xs (i + 2)) (fun r1 tx' => ∃ k', wqX12_incidence k' tm (xs (i + 1)) (xs (i + 2)) (fun r2 tm' => Inv tx' tm'))) (kk : ∀ (tx tm : XT) (H : Heap) (locs : List Loc), Inv tx tm → Hp D (fun q => s.heap.size ≤ q) s.heap (wX cI cJ cB cZ ad tx ++ wM cI cJ cB cZ bd tm) H locs → W p l e room_1 s m #[Value.ref b] below meth c H locs 56 11906 Q (F0 m 1186 ls [])) : W p l e room_1 s m #[Value.ref b] below meth c H locs 56 11906 Q (F0 m 639 ls []) := by
  have hx := B.1.1
  have hb := B.1.2.1
  have hbA : ¬ s.heap.size ≤ b := Nat.not_le.mpr hbl
  refine lv_aload_n hx hb dL_law_639 rfl (lv_at hl 2 rfl) ?_
  refine lv_aload_n hx hb dL_law_640 rfl (lv_at hl 3 rfl) ?_
  refine lv_iload_n hx hb dL_law_641 rfl (lv_at hl 0 rfl) ?_
  refine lv_iconst (v := 1) hx hb dL_law_642 (by decide) ?_
  refine lv_iadd hx hb dL_law_643 ?_
  refine lv_topi (fun v_643 ev_643 => ?_)
  obtain rfl : v_643 = nI (i + 1) := ev_643.trans (nI_add i 1)
  refine va_sld hx hb hX hbl hbA h.2.2.1 (vp_in_nI (show i + 1 < L by omega) (by omega)) dL_law_644 ?_
  refine lv_topi (fun v_644 ev_644 => ?_)
  obtain rfl : v_644 = xs (i + 1) := ev_644.trans (by rw [nI_clamp (show i + 1 < 2 ^ 31 by omega)])
  refine lv_aload_n hx hb dL_law_645 rfl (lv_at hl 3 rfl) ?_
  refine lv_iload_n hx hb dL_law_646 rfl (lv_at hl 0 rfl) ?_
  refine lv_iconst (v := 2) hx hb dL_law_647 (by decide) ?_
  refine lv_iadd hx hb dL_law_648 ?_
  refine lv_topi (fun v_648 ev_648 => ?_)
  obtain rfl : v_648 = nI (i + 2) := ev_648.trans (nI_add i 2)
  refine va_sld hx hb hX hbl hbA h.2.2.1 (vp_in_nI (show i + 2 < L by omega) (by omega)) dL_law_649 ?_
  refine lv_topi (fun v_649 ev_649 => ?_)
  obtain rfl : v_649 = xs (i + 2) := ev_649.trans (by rw [nI_clamp (show i + 2 < 2 ^ 31 by omega)])
  obtain ⟨k_1, hp⟩ := hp
  have h : Hp D (fun q => s.heap.size ≤ q) s.heap ([] ++ (wX cI cJ cB cZ ad tx ++ wM cI cJ cB cZ bd tm)) H locs := h
  refine x_cVL (n := 2) (pre := []) (post := wM cI cJ cB cZ bd tm) (wc := wX cI cJ cB cZ ad tx) (As := [.int (xs (i + 1)), .int (xs (i + 2))]) (rest := []) B h (wkX11_incidence l D cI cJ cB cZ ad k_1 tx (xs (i + 1)) (xs (i + 2)) _ hp) ⟨⟨_, rfl⟩, by decide +kernel, Nat.le_of_ble_eq_true rfl, Nat.le_of_ble_eq_true rfl⟩ gT_X11_incidence (show (wX cI cJ cB cZ ad tx : va_W)[0]? = some (ad 0, .inr (11, _)) from rfl) rfl rfl hl.1 rfl (Nat.le_of_ble_eq_true rfl) dL_law_650 ⟨Nat.le_of_ble_eq_true rfl, Nat.le_of_ble_eq_true rfl⟩ (fun r_1 tx H locs hp h => ?_)
  refine lv_pop2_2 hx hb dL_law_653 rfl ?_
  refine lv_aload_n hx hb dL_law_654 rfl (lv_at hl 1 rfl) ?_
  refine lv_aload_n hx hb dL_law_655 rfl (lv_at hl 3 rfl) ?_
  refine lv_iload_n hx hb dL_law_656 rfl (lv_at hl 0 rfl) ?_
  refine lv_iconst (v := 1) hx hb dL_law_657 (by decide) ?_
  refine lv_iadd hx hb dL_law_658 ?_
  refine lv_topi (fun v_658 ev_658 => ?_)
  obtain rfl : v_658 = nI (i + 1) := ev_658.trans (nI_add i 1)
  refine va_sld hx hb hX hbl hbA h.2.2.1 (vp_in_nI (show i + 1 < L by omega) (by omega)) dL_law_659 ?_
  refine lv_topi (fun v_659 ev_659 => ?_)
  obtain rfl : v_659 = xs (i + 1) := ev_659.trans (by rw [nI_clamp (show i + 1 < 2 ^ 31 by omega)])
  refine lv_aload_n hx hb dL_law_660 rfl (lv_at hl 3 rfl) ?_
  refine lv_iload_n hx hb dL_law_661 rfl (lv_at hl 0 rfl) ?_
  refine lv_iconst (v := 2) hx hb dL_law_662 (by decide) ?_
  refine lv_iadd hx hb dL_law_663 ?_
  refine lv_topi (fun v_663 ev_663 => ?_)
  obtain rfl : v_663 = nI (i + 2) := ev_663.trans (nI_add i 2)
  refine va_sld hx hb hX hbl hbA h.2.2.1 (vp_in_nI (show i + 2 < L by omega) (by omega)) dL_law_664 ?_
  refine lv_topi (fun v_664 ev_664 => ?_)
  obtain rfl : v_664 = xs (i + 2) := ev_664.trans (by rw [nI_clamp (show i + 2 < 2 ^ 31 by omega)])
  obtain ⟨k_2, hp⟩ := hp
  have h := hp_nil h
  refine x_cVL (n := 2) (post := []) (wc := wM cI cJ cB cZ bd tm) (As := [.int (xs (i + 1)), .int (xs (i + 2))]) (rest := []) B h (wkX12_incidence l D cI cJ cB cZ bd k_2 tm (xs (i + 1)) (xs (i + 2)) _ hp) ⟨⟨_, rfl⟩, by decide +kernel, Nat.le_of_ble_eq_true rfl, Nat.le_of_ble_eq_true rfl⟩ gT_X12_incidence (show (wM cI cJ cB cZ bd tm : va_W)[0]? = some (bd 0, .inr (12, _)) from rfl) rfl rfl hl.1 rfl (Nat.le_of_ble_eq_true rfl) dL_law_665 ⟨Nat.le_of_ble_eq_true rfl, Nat.le_of_ble_eq_true rfl⟩ (fun r_2 tm H locs hp h => ?_)
  have h : Hp D (fun q => s.heap.size ≤ q) s.heap (wX cI cJ cB cZ ad tx ++ wM cI cJ cB cZ bd tm) H locs := by rw [List.append_nil] at h; exact h
  refine lv_pop2_2 hx hb dL_law_668 rfl ?_
  refine lv_goto (tgt := 1186) hx hb dL_law_669 (by decide) ?_
  exact kk _ _ H locs hp h
set_option maxHeartbeats 4000000 in
set_option maxRecDepth 100000 in
theorem lc_chain {p : Program} {l : Launch} {e : Env} {s : State} {m : MethodId} {below : List Frame} {meth : Method} {c : Code} {Q : State → Prop} {D : va_G} {cI cJ cB cZ : ClassId} {ad bd : Nat → Nat} {b L : Nat} {xs : Nat → Int32} {H : Heap} {locs : List Loc} {ls : Array Slot} {tx tm : XT} {i : Nat} (Inv : XT → XT → Prop) (B : Bd p s m #[Value.ref b] meth c cL_law 4 lw_tbl RL D (TYS cI cJ cB cZ)) (hX : va_X b L xs s s.heap) (hbl : b < s.heap.size) (hL : L ≤ 3072) (hi : i + 6 ≤ L) (h : Hp D (fun q => s.heap.size ≤ q) s.heap (wX cI cJ cB cZ ad tx ++ wM cI cJ cB cZ bd tm) H locs) (hl : lv_has ls 4 [(3, .int (nI i)), (2, .ref (bd 0)), (1, .ref (ad 0)), (0, .ref b)]) (hp : ∃ k, wqX11_chain k tx (xs (i + 1)) (xs (i + 2)) (fun r1 tx' => ∃ k', wqX12_chain k' tm (xs (i + 1)) (xs (i + 2)) (fun r2 tm' => Inv tx' tm'))) (kk : ∀ (tx tm : XT) (H : Heap) (locs : List Loc), Inv tx tm → Hp D (fun q => s.heap.size ≤ q) s.heap (wX cI cJ cB cZ ad tx ++ wM cI cJ cB cZ bd tm) H locs → W p l e room_1 s m #[Value.ref b] below meth c H locs 56 11906 Q (F0 m 1186 ls [])) : W p l e room_1 s m #[Value.ref b] below meth c H locs 56 11906 Q (F0 m 672 ls []) := by
  have hx := B.1.1
  have hb := B.1.2.1
  have hbA : ¬ s.heap.size ≤ b := Nat.not_le.mpr hbl
  refine lv_aload_n hx hb dL_law_672 rfl (lv_at hl 2 rfl) ?_
  refine lv_aload_n hx hb dL_law_673 rfl (lv_at hl 3 rfl) ?_
  refine lv_iload_n hx hb dL_law_674 rfl (lv_at hl 0 rfl) ?_
  refine lv_iconst (v := 1) hx hb dL_law_675 (by decide) ?_
  refine lv_iadd hx hb dL_law_676 ?_
  refine lv_topi (fun v_676 ev_676 => ?_)
  obtain rfl : v_676 = nI (i + 1) := ev_676.trans (nI_add i 1)
  refine va_sld hx hb hX hbl hbA h.2.2.1 (vp_in_nI (show i + 1 < L by omega) (by omega)) dL_law_677 ?_
  refine lv_topi (fun v_677 ev_677 => ?_)
  obtain rfl : v_677 = xs (i + 1) := ev_677.trans (by rw [nI_clamp (show i + 1 < 2 ^ 31 by omega)])
  refine lv_aload_n hx hb dL_law_678 rfl (lv_at hl 3 rfl) ?_
  refine lv_iload_n hx hb dL_law_679 rfl (lv_at hl 0 rfl) ?_
  refine lv_iconst (v := 2) hx hb dL_law_680 (by decide) ?_
  refine lv_iadd hx hb dL_law_681 ?_
  refine lv_topi (fun v_681 ev_681 => ?_)
  obtain rfl : v_681 = nI (i + 2) := ev_681.trans (nI_add i 2)
  refine va_sld hx hb hX hbl hbA h.2.2.1 (vp_in_nI (show i + 2 < L by omega) (by omega)) dL_law_682 ?_
  refine lv_topi (fun v_682 ev_682 => ?_)
  obtain rfl : v_682 = xs (i + 2) := ev_682.trans (by rw [nI_clamp (show i + 2 < 2 ^ 31 by omega)])
  obtain ⟨k_1, hp⟩ := hp
  have h : Hp D (fun q => s.heap.size ≤ q) s.heap ([] ++ (wX cI cJ cB cZ ad tx ++ wM cI cJ cB cZ bd tm)) H locs := h
  refine x_cVL (n := 2) (pre := []) (post := wM cI cJ cB cZ bd tm) (wc := wX cI cJ cB cZ ad tx) (As := [.int (xs (i + 1)), .int (xs (i + 2))]) (rest := []) B h (wkX11_chain l D cI cJ cB cZ ad k_1 tx (xs (i + 1)) (xs (i + 2)) _ hp) ⟨⟨_, rfl⟩, by decide +kernel, Nat.le_of_ble_eq_true rfl, Nat.le_of_ble_eq_true rfl⟩ gT_X11_chain (show (wX cI cJ cB cZ ad tx : va_W)[0]? = some (ad 0, .inr (11, _)) from rfl) rfl rfl hl.1 rfl (Nat.le_of_ble_eq_true rfl) dL_law_683 ⟨Nat.le_of_ble_eq_true rfl, Nat.le_of_ble_eq_true rfl⟩ (fun r_1 tx H locs hp h => ?_)
  refine lv_pop2_2 hx hb dL_law_686 rfl ?_
  refine lv_aload_n hx hb dL_law_687 rfl (lv_at hl 1 rfl) ?_
  refine lv_aload_n hx hb dL_law_688 rfl (lv_at hl 3 rfl) ?_
  refine lv_iload_n hx hb dL_law_689 rfl (lv_at hl 0 rfl) ?_
  refine lv_iconst (v := 1) hx hb dL_law_690 (by decide) ?_
  refine lv_iadd hx hb dL_law_691 ?_
  refine lv_topi (fun v_691 ev_691 => ?_)
  obtain rfl : v_691 = nI (i + 1) := ev_691.trans (nI_add i 1)
  refine va_sld hx hb hX hbl hbA h.2.2.1 (vp_in_nI (show i + 1 < L by omega) (by omega)) dL_law_692 ?_
  refine lv_topi (fun v_692 ev_692 => ?_)
  obtain rfl : v_692 = xs (i + 1) := ev_692.trans (by rw [nI_clamp (show i + 1 < 2 ^ 31 by omega)])
  refine lv_aload_n hx hb dL_law_693 rfl (lv_at hl 3 rfl) ?_
  refine lv_iload_n hx hb dL_law_694 rfl (lv_at hl 0 rfl) ?_
  refine lv_iconst (v := 2) hx hb dL_law_695 (by decide) ?_
  refine lv_iadd hx hb dL_law_696 ?_
  refine lv_topi (fun v_696 ev_696 => ?_)
  obtain rfl : v_696 = nI (i + 2) := ev_696.trans (nI_add i 2)
  refine va_sld hx hb hX hbl hbA h.2.2.1 (vp_in_nI (show i + 2 < L by omega) (by omega)) dL_law_697 ?_
  refine lv_topi (fun v_697 ev_697 => ?_)
  obtain rfl : v_697 = xs (i + 2) := ev_697.trans (by rw [nI_clamp (show i + 2 < 2 ^ 31 by omega)])
  obtain ⟨k_2, hp⟩ := hp
  have h := hp_nil h
  refine x_cVL (n := 2) (post := []) (wc := wM cI cJ cB cZ bd tm) (As := [.int (xs (i + 1)), .int (xs (i + 2))]) (rest := []) B h (wkX12_chain l D cI cJ cB cZ bd k_2 tm (xs (i + 1)) (xs (i + 2)) _ hp) ⟨⟨_, rfl⟩, by decide +kernel, Nat.le_of_ble_eq_true rfl, Nat.le_of_ble_eq_true rfl⟩ gT_X12_chain (show (wM cI cJ cB cZ bd tm : va_W)[0]? = some (bd 0, .inr (12, _)) from rfl) rfl rfl hl.1 rfl (Nat.le_of_ble_eq_true rfl) dL_law_698 ⟨Nat.le_of_ble_eq_true rfl, Nat.le_of_ble_eq_true rfl⟩ (fun r_2 tm H locs hp h => ?_)
  have h : Hp D (fun q => s.heap.size ≤ q) s.heap (wX cI cJ cB cZ ad tx ++ wM cI cJ cB cZ bd tm) H locs := by rw [List.append_nil] at h; exact h
  refine lv_pop2_2 hx hb dL_law_701 rfl ?_
  refine lv_goto (tgt := 1186) hx hb dL_law_702 (by decide) ?_
  exact kk _ _ H locs hp h
set_option maxHeartbeats 4000000 in
set_option maxRecDepth 100000 in
theorem lc_root {p : Program} {l : Launch} {e : Env} {s : State} {m : MethodId} {below : List Frame} {meth : Method} {c : Code} {Q : State → Prop} {D : va_G} {cI cJ cB cZ : ClassId} {ad bd : Nat → Nat} {b L : Nat} {xs : Nat → Int32} {H : Heap} {locs : List Loc} {ls : Array Slot} {tx tm : XT} {i : Nat} (Inv : XT → XT → Prop) (B : Bd p s m #[Value.ref b] meth c cL_law 4 lw_tbl RL D (TYS cI cJ cB cZ)) (hX : va_X b L xs s s.heap) (hbl : b < s.heap.size) (hL : L ≤ 3072) (hi : i + 6 ≤ L) (h : Hp D (fun q => s.heap.size ≤ q) s.heap (wX cI cJ cB cZ ad tx ++ wM cI cJ cB cZ bd tm) H locs) (hl : lv_has ls 4 [(3, .int (nI i)), (2, .ref (bd 0)), (1, .ref (ad 0)), (0, .ref b)]) (hp : ∃ k, wqX11_root k tx (xs (i + 1)) (xs (i + 2)) (fun r1 tx' => ∃ k', wqX12_root k' tm (xs (i + 1)) (xs (i + 2)) (fun r2 tm' => Inv tx' tm'))) (kk : ∀ (tx tm : XT) (H : Heap) (locs : List Loc), Inv tx tm → Hp D (fun q => s.heap.size ≤ q) s.heap (wX cI cJ cB cZ ad tx ++ wM cI cJ cB cZ bd tm) H locs → W p l e room_1 s m #[Value.ref b] below meth c H locs 56 11906 Q (F0 m 1186 ls [])) : W p l e room_1 s m #[Value.ref b] below meth c H locs 56 11906 Q (F0 m 705 ls []) := by
  have hx := B.1.1
  have hb := B.1.2.1
  have hbA : ¬ s.heap.size ≤ b := Nat.not_le.mpr hbl
  refine lv_aload_n hx hb dL_law_705 rfl (lv_at hl 2 rfl) ?_
  refine lv_aload_n hx hb dL_law_706 rfl (lv_at hl 3 rfl) ?_
  refine lv_iload_n hx hb dL_law_707 rfl (lv_at hl 0 rfl) ?_
  refine lv_iconst (v := 1) hx hb dL_law_708 (by decide) ?_
  refine lv_iadd hx hb dL_law_709 ?_
  refine lv_topi (fun v_709 ev_709 => ?_)
  obtain rfl : v_709 = nI (i + 1) := ev_709.trans (nI_add i 1)
  refine va_sld hx hb hX hbl hbA h.2.2.1 (vp_in_nI (show i + 1 < L by omega) (by omega)) dL_law_710 ?_
  refine lv_topi (fun v_710 ev_710 => ?_)
  obtain rfl : v_710 = xs (i + 1) := ev_710.trans (by rw [nI_clamp (show i + 1 < 2 ^ 31 by omega)])
  refine lv_aload_n hx hb dL_law_711 rfl (lv_at hl 3 rfl) ?_
  refine lv_iload_n hx hb dL_law_712 rfl (lv_at hl 0 rfl) ?_
  refine lv_iconst (v := 2) hx hb dL_law_713 (by decide) ?_
  refine lv_iadd hx hb dL_law_714 ?_
  refine lv_topi (fun v_714 ev_714 => ?_)
  obtain rfl : v_714 = nI (i + 2) := ev_714.trans (nI_add i 2)
  refine va_sld hx hb hX hbl hbA h.2.2.1 (vp_in_nI (show i + 2 < L by omega) (by omega)) dL_law_715 ?_
  refine lv_topi (fun v_715 ev_715 => ?_)
  obtain rfl : v_715 = xs (i + 2) := ev_715.trans (by rw [nI_clamp (show i + 2 < 2 ^ 31 by omega)])
  obtain ⟨k_1, hp⟩ := hp
  have h : Hp D (fun q => s.heap.size ≤ q) s.heap ([] ++ (wX cI cJ cB cZ ad tx ++ wM cI cJ cB cZ bd tm)) H locs := h
  refine x_cVI (n := 2) (pre := []) (post := wM cI cJ cB cZ bd tm) (wc := wX cI cJ cB cZ ad tx) (As := [.int (xs (i + 1)), .int (xs (i + 2))]) (rest := []) B h (wkX11_root l D cI cJ cB cZ ad k_1 tx (xs (i + 1)) (xs (i + 2)) _ hp) ⟨⟨_, rfl⟩, by decide +kernel, Nat.le_of_ble_eq_true rfl, Nat.le_of_ble_eq_true rfl⟩ gT_X11_root (show (wX cI cJ cB cZ ad tx : va_W)[0]? = some (ad 0, .inr (11, _)) from rfl) rfl rfl hl.1 rfl (Nat.le_of_ble_eq_true rfl) dL_law_716 ⟨Nat.le_of_ble_eq_true rfl, Nat.le_of_ble_eq_true rfl⟩ (fun r_1 tx H locs hp h => ?_)
  refine lv_pop hx hb dL_law_719 rfl ?_
  refine lv_aload_n hx hb dL_law_720 rfl (lv_at hl 1 rfl) ?_
  refine lv_aload_n hx hb dL_law_721 rfl (lv_at hl 3 rfl) ?_
  refine lv_iload_n hx hb dL_law_722 rfl (lv_at hl 0 rfl) ?_
  refine lv_iconst (v := 1) hx hb dL_law_723 (by decide) ?_
  refine lv_iadd hx hb dL_law_724 ?_
  refine lv_topi (fun v_724 ev_724 => ?_)
  obtain rfl : v_724 = nI (i + 1) := ev_724.trans (nI_add i 1)
  refine va_sld hx hb hX hbl hbA h.2.2.1 (vp_in_nI (show i + 1 < L by omega) (by omega)) dL_law_725 ?_
  refine lv_topi (fun v_725 ev_725 => ?_)
  obtain rfl : v_725 = xs (i + 1) := ev_725.trans (by rw [nI_clamp (show i + 1 < 2 ^ 31 by omega)])
  refine lv_aload_n hx hb dL_law_726 rfl (lv_at hl 3 rfl) ?_
  refine lv_iload_n hx hb dL_law_727 rfl (lv_at hl 0 rfl) ?_
  refine lv_iconst (v := 2) hx hb dL_law_728 (by decide) ?_
  refine lv_iadd hx hb dL_law_729 ?_
  refine lv_topi (fun v_729 ev_729 => ?_)
  obtain rfl : v_729 = nI (i + 2) := ev_729.trans (nI_add i 2)
  refine va_sld hx hb hX hbl hbA h.2.2.1 (vp_in_nI (show i + 2 < L by omega) (by omega)) dL_law_730 ?_
  refine lv_topi (fun v_730 ev_730 => ?_)
  obtain rfl : v_730 = xs (i + 2) := ev_730.trans (by rw [nI_clamp (show i + 2 < 2 ^ 31 by omega)])
  obtain ⟨k_2, hp⟩ := hp
  have h := hp_nil h
  refine x_cVI (n := 2) (post := []) (wc := wM cI cJ cB cZ bd tm) (As := [.int (xs (i + 1)), .int (xs (i + 2))]) (rest := []) B h (wkX12_root l D cI cJ cB cZ bd k_2 tm (xs (i + 1)) (xs (i + 2)) _ hp) ⟨⟨_, rfl⟩, by decide +kernel, Nat.le_of_ble_eq_true rfl, Nat.le_of_ble_eq_true rfl⟩ gT_X12_root (show (wM cI cJ cB cZ bd tm : va_W)[0]? = some (bd 0, .inr (12, _)) from rfl) rfl rfl hl.1 rfl (Nat.le_of_ble_eq_true rfl) dL_law_731 ⟨Nat.le_of_ble_eq_true rfl, Nat.le_of_ble_eq_true rfl⟩ (fun r_2 tm H locs hp h => ?_)
  have h : Hp D (fun q => s.heap.size ≤ q) s.heap (wX cI cJ cB cZ ad tx ++ wM cI cJ cB cZ bd tm) H locs := by rw [List.append_nil] at h; exact h
  refine lv_pop hx hb dL_law_734 rfl ?_
  refine lv_goto (tgt := 1186) hx hb dL_law_735 (by decide) ?_
  exact kk _ _ H locs hp h
set_option maxHeartbeats 4000000 in
set_option maxRecDepth 100000 in
theorem lc_through {p : Program} {l : Launch} {e : Env} {s : State} {m : MethodId} {below : List Frame} {meth : Method} {c : Code} {Q : State → Prop} {D : va_G} {cI cJ cB cZ : ClassId} {ad bd : Nat → Nat} {b L : Nat} {xs : Nat → Int32} {H : Heap} {locs : List Loc} {ls : Array Slot} {tx tm : XT} {i : Nat} (Inv : XT → XT → Prop) (B : Bd p s m #[Value.ref b] meth c cL_law 4 lw_tbl RL D (TYS cI cJ cB cZ)) (hX : va_X b L xs s s.heap) (hbl : b < s.heap.size) (hL : L ≤ 3072) (hi : i + 6 ≤ L) (h : Hp D (fun q => s.heap.size ≤ q) s.heap (wX cI cJ cB cZ ad tx ++ wM cI cJ cB cZ bd tm) H locs) (hl : lv_has ls 4 [(3, .int (nI i)), (2, .ref (bd 0)), (1, .ref (ad 0)), (0, .ref b)]) (hp : ∃ k, wqX11_through k tx (xs (i + 1)) (xs (i + 2)) (xs (i + 3)) (fun r1 tx' => ∃ k', wqX12_through k' tm (xs (i + 1)) (xs (i + 2)) (xs (i + 3)) (fun r2 tm' => Inv tx' tm'))) (kk : ∀ (tx tm : XT) (H : Heap) (locs : List Loc), Inv tx tm → Hp D (fun q => s.heap.size ≤ q) s.heap (wX cI cJ cB cZ ad tx ++ wM cI cJ cB cZ bd tm) H locs → W p l e room_1 s m #[Value.ref b] below meth c H locs 56 11906 Q (F0 m 1186 ls [])) : W p l e room_1 s m #[Value.ref b] below meth c H locs 56 11906 Q (F0 m 738 ls []) := by
  have hx := B.1.1
  have hb := B.1.2.1
  have hbA : ¬ s.heap.size ≤ b := Nat.not_le.mpr hbl
  refine lv_aload_n hx hb dL_law_738 rfl (lv_at hl 2 rfl) ?_
  refine lv_aload_n hx hb dL_law_739 rfl (lv_at hl 3 rfl) ?_
  refine lv_iload_n hx hb dL_law_740 rfl (lv_at hl 0 rfl) ?_
  refine lv_iconst (v := 1) hx hb dL_law_741 (by decide) ?_
  refine lv_iadd hx hb dL_law_742 ?_
  refine lv_topi (fun v_742 ev_742 => ?_)
  obtain rfl : v_742 = nI (i + 1) := ev_742.trans (nI_add i 1)
  refine va_sld hx hb hX hbl hbA h.2.2.1 (vp_in_nI (show i + 1 < L by omega) (by omega)) dL_law_743 ?_
  refine lv_topi (fun v_743 ev_743 => ?_)
  obtain rfl : v_743 = xs (i + 1) := ev_743.trans (by rw [nI_clamp (show i + 1 < 2 ^ 31 by omega)])
  refine lv_aload_n hx hb dL_law_744 rfl (lv_at hl 3 rfl) ?_
  refine lv_iload_n hx hb dL_law_745 rfl (lv_at hl 0 rfl) ?_
  refine lv_iconst (v := 2) hx hb dL_law_746 (by decide) ?_
  refine lv_iadd hx hb dL_law_747 ?_
  refine lv_topi (fun v_747 ev_747 => ?_)
  obtain rfl : v_747 = nI (i + 2) := ev_747.trans (nI_add i 2)
  refine va_sld hx hb hX hbl hbA h.2.2.1 (vp_in_nI (show i + 2 < L by omega) (by omega)) dL_law_748 ?_
  refine lv_topi (fun v_748 ev_748 => ?_)
  obtain rfl : v_748 = xs (i + 2) := ev_748.trans (by rw [nI_clamp (show i + 2 < 2 ^ 31 by omega)])
  refine lv_aload_n hx hb dL_law_749 rfl (lv_at hl 3 rfl) ?_
  refine lv_iload_n hx hb dL_law_750 rfl (lv_at hl 0 rfl) ?_
  refine lv_iconst (v := 3) hx hb dL_law_751 (by decide) ?_
  refine lv_iadd hx hb dL_law_752 ?_
  refine lv_topi (fun v_752 ev_752 => ?_)
  obtain rfl : v_752 = nI (i + 3) := ev_752.trans (nI_add i 3)
  refine va_sld hx hb hX hbl hbA h.2.2.1 (vp_in_nI (show i + 3 < L by omega) (by omega)) dL_law_753 ?_
  refine lv_topi (fun v_753 ev_753 => ?_)
  obtain rfl : v_753 = xs (i + 3) := ev_753.trans (by rw [nI_clamp (show i + 3 < 2 ^ 31 by omega)])
  obtain ⟨k_1, hp⟩ := hp
  have h : Hp D (fun q => s.heap.size ≤ q) s.heap ([] ++ (wX cI cJ cB cZ ad tx ++ wM cI cJ cB cZ bd tm)) H locs := h
  refine x_cVL (n := 3) (pre := []) (post := wM cI cJ cB cZ bd tm) (wc := wX cI cJ cB cZ ad tx) (As := [.int (xs (i + 1)), .int (xs (i + 2)), .int (xs (i + 3))]) (rest := []) B h (wkX11_through l D cI cJ cB cZ ad k_1 tx (xs (i + 1)) (xs (i + 2)) (xs (i + 3)) _ hp) ⟨⟨_, rfl⟩, by decide +kernel, Nat.le_of_ble_eq_true rfl, Nat.le_of_ble_eq_true rfl⟩ gT_X11_through (show (wX cI cJ cB cZ ad tx : va_W)[0]? = some (ad 0, .inr (11, _)) from rfl) rfl rfl hl.1 rfl (Nat.le_of_ble_eq_true rfl) dL_law_754 ⟨Nat.le_of_ble_eq_true rfl, Nat.le_of_ble_eq_true rfl⟩ (fun r_1 tx H locs hp h => ?_)
  refine lv_pop2_2 hx hb dL_law_757 rfl ?_
  refine lv_aload_n hx hb dL_law_758 rfl (lv_at hl 1 rfl) ?_
  refine lv_aload_n hx hb dL_law_759 rfl (lv_at hl 3 rfl) ?_
  refine lv_iload_n hx hb dL_law_760 rfl (lv_at hl 0 rfl) ?_
  refine lv_iconst (v := 1) hx hb dL_law_761 (by decide) ?_
  refine lv_iadd hx hb dL_law_762 ?_
  refine lv_topi (fun v_762 ev_762 => ?_)
  obtain rfl : v_762 = nI (i + 1) := ev_762.trans (nI_add i 1)
  refine va_sld hx hb hX hbl hbA h.2.2.1 (vp_in_nI (show i + 1 < L by omega) (by omega)) dL_law_763 ?_
  refine lv_topi (fun v_763 ev_763 => ?_)
  obtain rfl : v_763 = xs (i + 1) := ev_763.trans (by rw [nI_clamp (show i + 1 < 2 ^ 31 by omega)])
  refine lv_aload_n hx hb dL_law_764 rfl (lv_at hl 3 rfl) ?_
  refine lv_iload_n hx hb dL_law_765 rfl (lv_at hl 0 rfl) ?_
  refine lv_iconst (v := 2) hx hb dL_law_766 (by decide) ?_
  refine lv_iadd hx hb dL_law_767 ?_
  refine lv_topi (fun v_767 ev_767 => ?_)
  obtain rfl : v_767 = nI (i + 2) := ev_767.trans (nI_add i 2)
  refine va_sld hx hb hX hbl hbA h.2.2.1 (vp_in_nI (show i + 2 < L by omega) (by omega)) dL_law_768 ?_
  refine lv_topi (fun v_768 ev_768 => ?_)
  obtain rfl : v_768 = xs (i + 2) := ev_768.trans (by rw [nI_clamp (show i + 2 < 2 ^ 31 by omega)])
  refine lv_aload_n hx hb dL_law_769 rfl (lv_at hl 3 rfl) ?_
  refine lv_iload_n hx hb dL_law_770 rfl (lv_at hl 0 rfl) ?_
  refine lv_iconst (v := 3) hx hb dL_law_771 (by decide) ?_
  refine lv_iadd hx hb dL_law_772 ?_
  refine lv_topi (fun v_772 ev_772 => ?_)
  obtain rfl : v_772 = nI (i + 3) := ev_772.trans (nI_add i 3)
  refine va_sld hx hb hX hbl hbA h.2.2.1 (vp_in_nI (show i + 3 < L by omega) (by omega)) dL_law_773 ?_
  refine lv_topi (fun v_773 ev_773 => ?_)
  obtain rfl : v_773 = xs (i + 3) := ev_773.trans (by rw [nI_clamp (show i + 3 < 2 ^ 31 by omega)])
  obtain ⟨k_2, hp⟩ := hp
  have h := hp_nil h
  refine x_cVL (n := 3) (post := []) (wc := wM cI cJ cB cZ bd tm) (As := [.int (xs (i + 1)), .int (xs (i + 2)), .int (xs (i + 3))]) (rest := []) B h (wkX12_through l D cI cJ cB cZ bd k_2 tm (xs (i + 1)) (xs (i + 2)) (xs (i + 3)) _ hp) ⟨⟨_, rfl⟩, by decide +kernel, Nat.le_of_ble_eq_true rfl, Nat.le_of_ble_eq_true rfl⟩ gT_X12_through (show (wM cI cJ cB cZ bd tm : va_W)[0]? = some (bd 0, .inr (12, _)) from rfl) rfl rfl hl.1 rfl (Nat.le_of_ble_eq_true rfl) dL_law_774 ⟨Nat.le_of_ble_eq_true rfl, Nat.le_of_ble_eq_true rfl⟩ (fun r_2 tm H locs hp h => ?_)
  have h : Hp D (fun q => s.heap.size ≤ q) s.heap (wX cI cJ cB cZ ad tx ++ wM cI cJ cB cZ bd tm) H locs := by rw [List.append_nil] at h; exact h
  refine lv_pop2_2 hx hb dL_law_777 rfl ?_
  refine lv_goto (tgt := 1186) hx hb dL_law_778 (by decide) ?_
  exact kk _ _ H locs hp h
set_option maxHeartbeats 4000000 in
set_option maxRecDepth 100000 in
theorem lc_squares {p : Program} {l : Launch} {e : Env} {s : State} {m : MethodId} {below : List Frame} {meth : Method} {c : Code} {Q : State → Prop} {D : va_G} {cI cJ cB cZ : ClassId} {ad bd : Nat → Nat} {b L : Nat} {xs : Nat → Int32} {H : Heap} {locs : List Loc} {ls : Array Slot} {tx tm : XT} {i : Nat} (Inv : XT → XT → Prop) (B : Bd p s m #[Value.ref b] meth c cL_law 4 lw_tbl RL D (TYS cI cJ cB cZ)) (hX : va_X b L xs s s.heap) (hbl : b < s.heap.size) (hL : L ≤ 3072) (hi : i + 6 ≤ L) (h : Hp D (fun q => s.heap.size ≤ q) s.heap (wX cI cJ cB cZ ad tx ++ wM cI cJ cB cZ bd tm) H locs) (hl : lv_has ls 4 [(3, .int (nI i)), (2, .ref (bd 0)), (1, .ref (ad 0)), (0, .ref b)]) (hp : ∃ k, wqX11_squares k tx  (fun r1 tx' => ∃ k', wqX12_squares k' tm  (fun r2 tm' => Inv tx' tm'))) (kk : ∀ (tx tm : XT) (H : Heap) (locs : List Loc), Inv tx tm → Hp D (fun q => s.heap.size ≤ q) s.heap (wX cI cJ cB cZ ad tx ++ wM cI cJ cB cZ bd tm) H locs → W p l e room_1 s m #[Value.ref b] below meth c H locs 56 11906 Q (F0 m 1186 ls [])) : W p l e room_1 s m #[Value.ref b] below meth c H locs 56 11906 Q (F0 m 781 ls []) := by
  have hx := B.1.1
  have hb := B.1.2.1
  have hbA : ¬ s.heap.size ≤ b := Nat.not_le.mpr hbl
  refine lv_aload_n hx hb dL_law_781 rfl (lv_at hl 2 rfl) ?_
  obtain ⟨k_1, hp⟩ := hp
  have h : Hp D (fun q => s.heap.size ≤ q) s.heap ([] ++ (wX cI cJ cB cZ ad tx ++ wM cI cJ cB cZ bd tm)) H locs := h
  refine x_cVI (n := 0) (pre := []) (post := wM cI cJ cB cZ bd tm) (wc := wX cI cJ cB cZ ad tx) (As := []) (rest := []) B h (wkX11_squares l D cI cJ cB cZ ad k_1 tx  _ hp) ⟨⟨_, rfl⟩, by decide +kernel, Nat.le_of_ble_eq_true rfl, Nat.le_of_ble_eq_true rfl⟩ gT_X11_squares (show (wX cI cJ cB cZ ad tx : va_W)[0]? = some (ad 0, .inr (11, _)) from rfl) rfl rfl hl.1 rfl (Nat.le_of_ble_eq_true rfl) dL_law_782 ⟨Nat.le_of_ble_eq_true rfl, Nat.le_of_ble_eq_true rfl⟩ (fun r_1 tx H locs hp h => ?_)
  refine lv_pop hx hb dL_law_785 rfl ?_
  refine lv_aload_n hx hb dL_law_786 rfl (lv_at hl 1 rfl) ?_
  obtain ⟨k_2, hp⟩ := hp
  have h := hp_nil h
  refine x_cVI (n := 0) (post := []) (wc := wM cI cJ cB cZ bd tm) (As := []) (rest := []) B h (wkX12_squares l D cI cJ cB cZ bd k_2 tm  _ hp) ⟨⟨_, rfl⟩, by decide +kernel, Nat.le_of_ble_eq_true rfl, Nat.le_of_ble_eq_true rfl⟩ gT_X12_squares (show (wM cI cJ cB cZ bd tm : va_W)[0]? = some (bd 0, .inr (12, _)) from rfl) rfl rfl hl.1 rfl (Nat.le_of_ble_eq_true rfl) dL_law_787 ⟨Nat.le_of_ble_eq_true rfl, Nat.le_of_ble_eq_true rfl⟩ (fun r_2 tm H locs hp h => ?_)
  have h : Hp D (fun q => s.heap.size ≤ q) s.heap (wX cI cJ cB cZ ad tx ++ wM cI cJ cB cZ bd tm) H locs := by rw [List.append_nil] at h; exact h
  refine lv_pop hx hb dL_law_790 rfl ?_
  refine lv_goto (tgt := 1186) hx hb dL_law_791 (by decide) ?_
  exact kk _ _ H locs hp h
set_option maxHeartbeats 4000000 in
set_option maxRecDepth 100000 in
theorem lc_betti {p : Program} {l : Launch} {e : Env} {s : State} {m : MethodId} {below : List Frame} {meth : Method} {c : Code} {Q : State → Prop} {D : va_G} {cI cJ cB cZ : ClassId} {ad bd : Nat → Nat} {b L : Nat} {xs : Nat → Int32} {H : Heap} {locs : List Loc} {ls : Array Slot} {tx tm : XT} {i : Nat} (Inv : XT → XT → Prop) (B : Bd p s m #[Value.ref b] meth c cL_law 4 lw_tbl RL D (TYS cI cJ cB cZ)) (hX : va_X b L xs s s.heap) (hbl : b < s.heap.size) (hL : L ≤ 3072) (hi : i + 6 ≤ L) (h : Hp D (fun q => s.heap.size ≤ q) s.heap (wX cI cJ cB cZ ad tx ++ wM cI cJ cB cZ bd tm) H locs) (hl : lv_has ls 4 [(3, .int (nI i)), (2, .ref (bd 0)), (1, .ref (ad 0)), (0, .ref b)]) (hp : ∃ k, wqX11_betti k tx (xs (i + 1)) (xs (i + 2)) (fun r1 tx' => ∃ k', wqX12_betti k' tm (xs (i + 1)) (xs (i + 2)) (fun r2 tm' => Inv tx' tm'))) (kk : ∀ (tx tm : XT) (H : Heap) (locs : List Loc), Inv tx tm → Hp D (fun q => s.heap.size ≤ q) s.heap (wX cI cJ cB cZ ad tx ++ wM cI cJ cB cZ bd tm) H locs → W p l e room_1 s m #[Value.ref b] below meth c H locs 56 11906 Q (F0 m 1186 ls [])) : W p l e room_1 s m #[Value.ref b] below meth c H locs 56 11906 Q (F0 m 794 ls []) := by
  have hx := B.1.1
  have hb := B.1.2.1
  have hbA : ¬ s.heap.size ≤ b := Nat.not_le.mpr hbl
  refine lv_aload_n hx hb dL_law_794 rfl (lv_at hl 2 rfl) ?_
  refine lv_aload_n hx hb dL_law_795 rfl (lv_at hl 3 rfl) ?_
  refine lv_iload_n hx hb dL_law_796 rfl (lv_at hl 0 rfl) ?_
  refine lv_iconst (v := 1) hx hb dL_law_797 (by decide) ?_
  refine lv_iadd hx hb dL_law_798 ?_
  refine lv_topi (fun v_798 ev_798 => ?_)
  obtain rfl : v_798 = nI (i + 1) := ev_798.trans (nI_add i 1)
  refine va_sld hx hb hX hbl hbA h.2.2.1 (vp_in_nI (show i + 1 < L by omega) (by omega)) dL_law_799 ?_
  refine lv_topi (fun v_799 ev_799 => ?_)
  obtain rfl : v_799 = xs (i + 1) := ev_799.trans (by rw [nI_clamp (show i + 1 < 2 ^ 31 by omega)])
  refine lv_aload_n hx hb dL_law_800 rfl (lv_at hl 3 rfl) ?_
  refine lv_iload_n hx hb dL_law_801 rfl (lv_at hl 0 rfl) ?_
  refine lv_iconst (v := 2) hx hb dL_law_802 (by decide) ?_
  refine lv_iadd hx hb dL_law_803 ?_
  refine lv_topi (fun v_803 ev_803 => ?_)
  obtain rfl : v_803 = nI (i + 2) := ev_803.trans (nI_add i 2)
  refine va_sld hx hb hX hbl hbA h.2.2.1 (vp_in_nI (show i + 2 < L by omega) (by omega)) dL_law_804 ?_
  refine lv_topi (fun v_804 ev_804 => ?_)
  obtain rfl : v_804 = xs (i + 2) := ev_804.trans (by rw [nI_clamp (show i + 2 < 2 ^ 31 by omega)])
  obtain ⟨k_1, hp⟩ := hp
  have h : Hp D (fun q => s.heap.size ≤ q) s.heap ([] ++ (wX cI cJ cB cZ ad tx ++ wM cI cJ cB cZ bd tm)) H locs := h
  refine x_cVI (n := 2) (pre := []) (post := wM cI cJ cB cZ bd tm) (wc := wX cI cJ cB cZ ad tx) (As := [.int (xs (i + 1)), .int (xs (i + 2))]) (rest := []) B h (wkX11_betti l D cI cJ cB cZ ad k_1 tx (xs (i + 1)) (xs (i + 2)) _ hp) ⟨⟨_, rfl⟩, by decide +kernel, Nat.le_of_ble_eq_true rfl, Nat.le_of_ble_eq_true rfl⟩ gT_X11_betti (show (wX cI cJ cB cZ ad tx : va_W)[0]? = some (ad 0, .inr (11, _)) from rfl) rfl rfl hl.1 rfl (Nat.le_of_ble_eq_true rfl) dL_law_805 ⟨Nat.le_of_ble_eq_true rfl, Nat.le_of_ble_eq_true rfl⟩ (fun r_1 tx H locs hp h => ?_)
  refine lv_pop hx hb dL_law_808 rfl ?_
  refine lv_aload_n hx hb dL_law_809 rfl (lv_at hl 1 rfl) ?_
  refine lv_aload_n hx hb dL_law_810 rfl (lv_at hl 3 rfl) ?_
  refine lv_iload_n hx hb dL_law_811 rfl (lv_at hl 0 rfl) ?_
  refine lv_iconst (v := 1) hx hb dL_law_812 (by decide) ?_
  refine lv_iadd hx hb dL_law_813 ?_
  refine lv_topi (fun v_813 ev_813 => ?_)
  obtain rfl : v_813 = nI (i + 1) := ev_813.trans (nI_add i 1)
  refine va_sld hx hb hX hbl hbA h.2.2.1 (vp_in_nI (show i + 1 < L by omega) (by omega)) dL_law_814 ?_
  refine lv_topi (fun v_814 ev_814 => ?_)
  obtain rfl : v_814 = xs (i + 1) := ev_814.trans (by rw [nI_clamp (show i + 1 < 2 ^ 31 by omega)])
  refine lv_aload_n hx hb dL_law_815 rfl (lv_at hl 3 rfl) ?_
  refine lv_iload_n hx hb dL_law_816 rfl (lv_at hl 0 rfl) ?_
  refine lv_iconst (v := 2) hx hb dL_law_817 (by decide) ?_
  refine lv_iadd hx hb dL_law_818 ?_
  refine lv_topi (fun v_818 ev_818 => ?_)
  obtain rfl : v_818 = nI (i + 2) := ev_818.trans (nI_add i 2)
  refine va_sld hx hb hX hbl hbA h.2.2.1 (vp_in_nI (show i + 2 < L by omega) (by omega)) dL_law_819 ?_
  refine lv_topi (fun v_819 ev_819 => ?_)
  obtain rfl : v_819 = xs (i + 2) := ev_819.trans (by rw [nI_clamp (show i + 2 < 2 ^ 31 by omega)])
  obtain ⟨k_2, hp⟩ := hp
  have h := hp_nil h
  refine x_cVI (n := 2) (post := []) (wc := wM cI cJ cB cZ bd tm) (As := [.int (xs (i + 1)), .int (xs (i + 2))]) (rest := []) B h (wkX12_betti l D cI cJ cB cZ bd k_2 tm (xs (i + 1)) (xs (i + 2)) _ hp) ⟨⟨_, rfl⟩, by decide +kernel, Nat.le_of_ble_eq_true rfl, Nat.le_of_ble_eq_true rfl⟩ gT_X12_betti (show (wM cI cJ cB cZ bd tm : va_W)[0]? = some (bd 0, .inr (12, _)) from rfl) rfl rfl hl.1 rfl (Nat.le_of_ble_eq_true rfl) dL_law_820 ⟨Nat.le_of_ble_eq_true rfl, Nat.le_of_ble_eq_true rfl⟩ (fun r_2 tm H locs hp h => ?_)
  have h : Hp D (fun q => s.heap.size ≤ q) s.heap (wX cI cJ cB cZ ad tx ++ wM cI cJ cB cZ bd tm) H locs := by rw [List.append_nil] at h; exact h
  refine lv_pop hx hb dL_law_823 rfl ?_
  refine lv_goto (tgt := 1186) hx hb dL_law_824 (by decide) ?_
  exact kk _ _ H locs hp h
set_option maxHeartbeats 4000000 in
set_option maxRecDepth 100000 in
theorem lc_torsion {p : Program} {l : Launch} {e : Env} {s : State} {m : MethodId} {below : List Frame} {meth : Method} {c : Code} {Q : State → Prop} {D : va_G} {cI cJ cB cZ : ClassId} {ad bd : Nat → Nat} {b L : Nat} {xs : Nat → Int32} {H : Heap} {locs : List Loc} {ls : Array Slot} {tx tm : XT} {i : Nat} (Inv : XT → XT → Prop) (B : Bd p s m #[Value.ref b] meth c cL_law 4 lw_tbl RL D (TYS cI cJ cB cZ)) (hX : va_X b L xs s s.heap) (hbl : b < s.heap.size) (hL : L ≤ 3072) (hi : i + 6 ≤ L) (h : Hp D (fun q => s.heap.size ≤ q) s.heap (wX cI cJ cB cZ ad tx ++ wM cI cJ cB cZ bd tm) H locs) (hl : lv_has ls 4 [(3, .int (nI i)), (2, .ref (bd 0)), (1, .ref (ad 0)), (0, .ref b)]) (hp : ∃ k, wqX11_torsion k tx (xs (i + 1)) (xs (i + 2)) (xs (i + 3)) (fun r1 tx' => ∃ k', wqX12_torsion k' tm (xs (i + 1)) (xs (i + 2)) (xs (i + 3)) (fun r2 tm' => Inv tx' tm'))) (kk : ∀ (tx tm : XT) (H : Heap) (locs : List Loc), Inv tx tm → Hp D (fun q => s.heap.size ≤ q) s.heap (wX cI cJ cB cZ ad tx ++ wM cI cJ cB cZ bd tm) H locs → W p l e room_1 s m #[Value.ref b] below meth c H locs 56 11906 Q (F0 m 1186 ls [])) : W p l e room_1 s m #[Value.ref b] below meth c H locs 56 11906 Q (F0 m 827 ls []) := by
  have hx := B.1.1
  have hb := B.1.2.1
  have hbA : ¬ s.heap.size ≤ b := Nat.not_le.mpr hbl
  refine lv_aload_n hx hb dL_law_827 rfl (lv_at hl 2 rfl) ?_
  refine lv_aload_n hx hb dL_law_828 rfl (lv_at hl 3 rfl) ?_
  refine lv_iload_n hx hb dL_law_829 rfl (lv_at hl 0 rfl) ?_
  refine lv_iconst (v := 1) hx hb dL_law_830 (by decide) ?_
  refine lv_iadd hx hb dL_law_831 ?_
  refine lv_topi (fun v_831 ev_831 => ?_)
  obtain rfl : v_831 = nI (i + 1) := ev_831.trans (nI_add i 1)
  refine va_sld hx hb hX hbl hbA h.2.2.1 (vp_in_nI (show i + 1 < L by omega) (by omega)) dL_law_832 ?_
  refine lv_topi (fun v_832 ev_832 => ?_)
  obtain rfl : v_832 = xs (i + 1) := ev_832.trans (by rw [nI_clamp (show i + 1 < 2 ^ 31 by omega)])
  refine lv_aload_n hx hb dL_law_833 rfl (lv_at hl 3 rfl) ?_
  refine lv_iload_n hx hb dL_law_834 rfl (lv_at hl 0 rfl) ?_
  refine lv_iconst (v := 2) hx hb dL_law_835 (by decide) ?_
  refine lv_iadd hx hb dL_law_836 ?_
  refine lv_topi (fun v_836 ev_836 => ?_)
  obtain rfl : v_836 = nI (i + 2) := ev_836.trans (nI_add i 2)
  refine va_sld hx hb hX hbl hbA h.2.2.1 (vp_in_nI (show i + 2 < L by omega) (by omega)) dL_law_837 ?_
  refine lv_topi (fun v_837 ev_837 => ?_)
  obtain rfl : v_837 = xs (i + 2) := ev_837.trans (by rw [nI_clamp (show i + 2 < 2 ^ 31 by omega)])
  refine lv_aload_n hx hb dL_law_838 rfl (lv_at hl 3 rfl) ?_
  refine lv_iload_n hx hb dL_law_839 rfl (lv_at hl 0 rfl) ?_
  refine lv_iconst (v := 3) hx hb dL_law_840 (by decide) ?_
  refine lv_iadd hx hb dL_law_841 ?_
  refine lv_topi (fun v_841 ev_841 => ?_)
  obtain rfl : v_841 = nI (i + 3) := ev_841.trans (nI_add i 3)
  refine va_sld hx hb hX hbl hbA h.2.2.1 (vp_in_nI (show i + 3 < L by omega) (by omega)) dL_law_842 ?_
  refine lv_topi (fun v_842 ev_842 => ?_)
  obtain rfl : v_842 = xs (i + 3) := ev_842.trans (by rw [nI_clamp (show i + 3 < 2 ^ 31 by omega)])
  obtain ⟨k_1, hp⟩ := hp
  have h : Hp D (fun q => s.heap.size ≤ q) s.heap ([] ++ (wX cI cJ cB cZ ad tx ++ wM cI cJ cB cZ bd tm)) H locs := h
  refine x_cVL (n := 3) (pre := []) (post := wM cI cJ cB cZ bd tm) (wc := wX cI cJ cB cZ ad tx) (As := [.int (xs (i + 1)), .int (xs (i + 2)), .int (xs (i + 3))]) (rest := []) B h (wkX11_torsion l D cI cJ cB cZ ad k_1 tx (xs (i + 1)) (xs (i + 2)) (xs (i + 3)) _ hp) ⟨⟨_, rfl⟩, by decide +kernel, Nat.le_of_ble_eq_true rfl, Nat.le_of_ble_eq_true rfl⟩ gT_X11_torsion (show (wX cI cJ cB cZ ad tx : va_W)[0]? = some (ad 0, .inr (11, _)) from rfl) rfl rfl hl.1 rfl (Nat.le_of_ble_eq_true rfl) dL_law_843 ⟨Nat.le_of_ble_eq_true rfl, Nat.le_of_ble_eq_true rfl⟩ (fun r_1 tx H locs hp h => ?_)
  refine lv_pop2_2 hx hb dL_law_846 rfl ?_
  refine lv_aload_n hx hb dL_law_847 rfl (lv_at hl 1 rfl) ?_
  refine lv_aload_n hx hb dL_law_848 rfl (lv_at hl 3 rfl) ?_
  refine lv_iload_n hx hb dL_law_849 rfl (lv_at hl 0 rfl) ?_
  refine lv_iconst (v := 1) hx hb dL_law_850 (by decide) ?_
  refine lv_iadd hx hb dL_law_851 ?_
  refine lv_topi (fun v_851 ev_851 => ?_)
  obtain rfl : v_851 = nI (i + 1) := ev_851.trans (nI_add i 1)
  refine va_sld hx hb hX hbl hbA h.2.2.1 (vp_in_nI (show i + 1 < L by omega) (by omega)) dL_law_852 ?_
  refine lv_topi (fun v_852 ev_852 => ?_)
  obtain rfl : v_852 = xs (i + 1) := ev_852.trans (by rw [nI_clamp (show i + 1 < 2 ^ 31 by omega)])
  refine lv_aload_n hx hb dL_law_853 rfl (lv_at hl 3 rfl) ?_
  refine lv_iload_n hx hb dL_law_854 rfl (lv_at hl 0 rfl) ?_
  refine lv_iconst (v := 2) hx hb dL_law_855 (by decide) ?_
  refine lv_iadd hx hb dL_law_856 ?_
  refine lv_topi (fun v_856 ev_856 => ?_)
  obtain rfl : v_856 = nI (i + 2) := ev_856.trans (nI_add i 2)
  refine va_sld hx hb hX hbl hbA h.2.2.1 (vp_in_nI (show i + 2 < L by omega) (by omega)) dL_law_857 ?_
  refine lv_topi (fun v_857 ev_857 => ?_)
  obtain rfl : v_857 = xs (i + 2) := ev_857.trans (by rw [nI_clamp (show i + 2 < 2 ^ 31 by omega)])
  refine lv_aload_n hx hb dL_law_858 rfl (lv_at hl 3 rfl) ?_
  refine lv_iload_n hx hb dL_law_859 rfl (lv_at hl 0 rfl) ?_
  refine lv_iconst (v := 3) hx hb dL_law_860 (by decide) ?_
  refine lv_iadd hx hb dL_law_861 ?_
  refine lv_topi (fun v_861 ev_861 => ?_)
  obtain rfl : v_861 = nI (i + 3) := ev_861.trans (nI_add i 3)
  refine va_sld hx hb hX hbl hbA h.2.2.1 (vp_in_nI (show i + 3 < L by omega) (by omega)) dL_law_862 ?_
  refine lv_topi (fun v_862 ev_862 => ?_)
  obtain rfl : v_862 = xs (i + 3) := ev_862.trans (by rw [nI_clamp (show i + 3 < 2 ^ 31 by omega)])
  obtain ⟨k_2, hp⟩ := hp
  have h := hp_nil h
  refine x_cVL (n := 3) (post := []) (wc := wM cI cJ cB cZ bd tm) (As := [.int (xs (i + 1)), .int (xs (i + 2)), .int (xs (i + 3))]) (rest := []) B h (wkX12_torsion l D cI cJ cB cZ bd k_2 tm (xs (i + 1)) (xs (i + 2)) (xs (i + 3)) _ hp) ⟨⟨_, rfl⟩, by decide +kernel, Nat.le_of_ble_eq_true rfl, Nat.le_of_ble_eq_true rfl⟩ gT_X12_torsion (show (wM cI cJ cB cZ bd tm : va_W)[0]? = some (bd 0, .inr (12, _)) from rfl) rfl rfl hl.1 rfl (Nat.le_of_ble_eq_true rfl) dL_law_863 ⟨Nat.le_of_ble_eq_true rfl, Nat.le_of_ble_eq_true rfl⟩ (fun r_2 tm H locs hp h => ?_)
  have h : Hp D (fun q => s.heap.size ≤ q) s.heap (wX cI cJ cB cZ ad tx ++ wM cI cJ cB cZ bd tm) H locs := by rw [List.append_nil] at h; exact h
  refine lv_pop2_2 hx hb dL_law_866 rfl ?_
  refine lv_goto (tgt := 1186) hx hb dL_law_867 (by decide) ?_
  exact kk _ _ H locs hp h
set_option maxHeartbeats 4000000 in
set_option maxRecDepth 100000 in
theorem lc_slack {p : Program} {l : Launch} {e : Env} {s : State} {m : MethodId} {below : List Frame} {meth : Method} {c : Code} {Q : State → Prop} {D : va_G} {cI cJ cB cZ : ClassId} {ad bd : Nat → Nat} {b L : Nat} {xs : Nat → Int32} {H : Heap} {locs : List Loc} {ls : Array Slot} {tx tm : XT} {i : Nat} (Inv : XT → XT → Prop) (B : Bd p s m #[Value.ref b] meth c cL_law 4 lw_tbl RL D (TYS cI cJ cB cZ)) (hX : va_X b L xs s s.heap) (hbl : b < s.heap.size) (hL : L ≤ 3072) (hi : i + 6 ≤ L) (h : Hp D (fun q => s.heap.size ≤ q) s.heap (wX cI cJ cB cZ ad tx ++ wM cI cJ cB cZ bd tm) H locs) (hl : lv_has ls 4 [(3, .int (nI i)), (2, .ref (bd 0)), (1, .ref (ad 0)), (0, .ref b)]) (hp : ∃ k, wqX11_slack k tx (xs (i + 1)) (fun r1 tx' => ∃ k', wqX12_slack k' tm (xs (i + 1)) (fun r2 tm' => Inv tx' tm'))) (kk : ∀ (tx tm : XT) (H : Heap) (locs : List Loc), Inv tx tm → Hp D (fun q => s.heap.size ≤ q) s.heap (wX cI cJ cB cZ ad tx ++ wM cI cJ cB cZ bd tm) H locs → W p l e room_1 s m #[Value.ref b] below meth c H locs 56 11906 Q (F0 m 1186 ls [])) : W p l e room_1 s m #[Value.ref b] below meth c H locs 56 11906 Q (F0 m 870 ls []) := by
  have hx := B.1.1
  have hb := B.1.2.1
  have hbA : ¬ s.heap.size ≤ b := Nat.not_le.mpr hbl
  refine lv_aload_n hx hb dL_law_870 rfl (lv_at hl 2 rfl) ?_
  refine lv_aload_n hx hb dL_law_871 rfl (lv_at hl 3 rfl) ?_
  refine lv_iload_n hx hb dL_law_872 rfl (lv_at hl 0 rfl) ?_
  refine lv_iconst (v := 1) hx hb dL_law_873 (by decide) ?_
  refine lv_iadd hx hb dL_law_874 ?_
  refine lv_topi (fun v_874 ev_874 => ?_)
  obtain rfl : v_874 = nI (i + 1) := ev_874.trans (nI_add i 1)
  refine va_sld hx hb hX hbl hbA h.2.2.1 (vp_in_nI (show i + 1 < L by omega) (by omega)) dL_law_875 ?_
  refine lv_topi (fun v_875 ev_875 => ?_)
  obtain rfl : v_875 = xs (i + 1) := ev_875.trans (by rw [nI_clamp (show i + 1 < 2 ^ 31 by omega)])
  obtain ⟨k_1, hp⟩ := hp
  have h : Hp D (fun q => s.heap.size ≤ q) s.heap ([] ++ (wX cI cJ cB cZ ad tx ++ wM cI cJ cB cZ bd tm)) H locs := h
  refine x_cVI (n := 1) (pre := []) (post := wM cI cJ cB cZ bd tm) (wc := wX cI cJ cB cZ ad tx) (As := [.int (xs (i + 1))]) (rest := []) B h (wkX11_slack l D cI cJ cB cZ ad k_1 tx (xs (i + 1)) _ hp) ⟨⟨_, rfl⟩, by decide +kernel, Nat.le_of_ble_eq_true rfl, Nat.le_of_ble_eq_true rfl⟩ gT_X11_slack (show (wX cI cJ cB cZ ad tx : va_W)[0]? = some (ad 0, .inr (11, _)) from rfl) rfl rfl hl.1 rfl (Nat.le_of_ble_eq_true rfl) dL_law_876 ⟨Nat.le_of_ble_eq_true rfl, Nat.le_of_ble_eq_true rfl⟩ (fun r_1 tx H locs hp h => ?_)
  refine lv_pop hx hb dL_law_879 rfl ?_
  refine lv_aload_n hx hb dL_law_880 rfl (lv_at hl 1 rfl) ?_
  refine lv_aload_n hx hb dL_law_881 rfl (lv_at hl 3 rfl) ?_
  refine lv_iload_n hx hb dL_law_882 rfl (lv_at hl 0 rfl) ?_
  refine lv_iconst (v := 1) hx hb dL_law_883 (by decide) ?_
  refine lv_iadd hx hb dL_law_884 ?_
  refine lv_topi (fun v_884 ev_884 => ?_)
  obtain rfl : v_884 = nI (i + 1) := ev_884.trans (nI_add i 1)
  refine va_sld hx hb hX hbl hbA h.2.2.1 (vp_in_nI (show i + 1 < L by omega) (by omega)) dL_law_885 ?_
  refine lv_topi (fun v_885 ev_885 => ?_)
  obtain rfl : v_885 = xs (i + 1) := ev_885.trans (by rw [nI_clamp (show i + 1 < 2 ^ 31 by omega)])
  obtain ⟨k_2, hp⟩ := hp
  have h := hp_nil h
  refine x_cVI (n := 1) (post := []) (wc := wM cI cJ cB cZ bd tm) (As := [.int (xs (i + 1))]) (rest := []) B h (wkX12_slack l D cI cJ cB cZ bd k_2 tm (xs (i + 1)) _ hp) ⟨⟨_, rfl⟩, by decide +kernel, Nat.le_of_ble_eq_true rfl, Nat.le_of_ble_eq_true rfl⟩ gT_X12_slack (show (wM cI cJ cB cZ bd tm : va_W)[0]? = some (bd 0, .inr (12, _)) from rfl) rfl rfl hl.1 rfl (Nat.le_of_ble_eq_true rfl) dL_law_886 ⟨Nat.le_of_ble_eq_true rfl, Nat.le_of_ble_eq_true rfl⟩ (fun r_2 tm H locs hp h => ?_)
  have h : Hp D (fun q => s.heap.size ≤ q) s.heap (wX cI cJ cB cZ ad tx ++ wM cI cJ cB cZ bd tm) H locs := by rw [List.append_nil] at h; exact h
  refine lv_pop hx hb dL_law_889 rfl ?_
  refine lv_goto (tgt := 1186) hx hb dL_law_890 (by decide) ?_
  exact kk _ _ H locs hp h
set_option maxHeartbeats 4000000 in
set_option maxRecDepth 100000 in
theorem lc_free {p : Program} {l : Launch} {e : Env} {s : State} {m : MethodId} {below : List Frame} {meth : Method} {c : Code} {Q : State → Prop} {D : va_G} {cI cJ cB cZ : ClassId} {ad bd : Nat → Nat} {b L : Nat} {xs : Nat → Int32} {H : Heap} {locs : List Loc} {ls : Array Slot} {tx tm : XT} {i : Nat} (Inv : XT → XT → Prop) (B : Bd p s m #[Value.ref b] meth c cL_law 4 lw_tbl RL D (TYS cI cJ cB cZ)) (hX : va_X b L xs s s.heap) (hbl : b < s.heap.size) (hL : L ≤ 3072) (hi : i + 6 ≤ L) (h : Hp D (fun q => s.heap.size ≤ q) s.heap (wX cI cJ cB cZ ad tx ++ wM cI cJ cB cZ bd tm) H locs) (hl : lv_has ls 4 [(3, .int (nI i)), (2, .ref (bd 0)), (1, .ref (ad 0)), (0, .ref b)]) (hp : ∃ k, wqX11_free k tx (xs (i + 1)) (fun r1 tx' => ∃ k', wqX12_free k' tm (xs (i + 1)) (fun r2 tm' => Inv tx' tm'))) (kk : ∀ (tx tm : XT) (H : Heap) (locs : List Loc), Inv tx tm → Hp D (fun q => s.heap.size ≤ q) s.heap (wX cI cJ cB cZ ad tx ++ wM cI cJ cB cZ bd tm) H locs → W p l e room_1 s m #[Value.ref b] below meth c H locs 56 11906 Q (F0 m 1186 ls [])) : W p l e room_1 s m #[Value.ref b] below meth c H locs 56 11906 Q (F0 m 893 ls []) := by
  have hx := B.1.1
  have hb := B.1.2.1
  have hbA : ¬ s.heap.size ≤ b := Nat.not_le.mpr hbl
  refine lv_aload_n hx hb dL_law_893 rfl (lv_at hl 2 rfl) ?_
  refine lv_aload_n hx hb dL_law_894 rfl (lv_at hl 3 rfl) ?_
  refine lv_iload_n hx hb dL_law_895 rfl (lv_at hl 0 rfl) ?_
  refine lv_iconst (v := 1) hx hb dL_law_896 (by decide) ?_
  refine lv_iadd hx hb dL_law_897 ?_
  refine lv_topi (fun v_897 ev_897 => ?_)
  obtain rfl : v_897 = nI (i + 1) := ev_897.trans (nI_add i 1)
  refine va_sld hx hb hX hbl hbA h.2.2.1 (vp_in_nI (show i + 1 < L by omega) (by omega)) dL_law_898 ?_
  refine lv_topi (fun v_898 ev_898 => ?_)
  obtain rfl : v_898 = xs (i + 1) := ev_898.trans (by rw [nI_clamp (show i + 1 < 2 ^ 31 by omega)])
  obtain ⟨k_1, hp⟩ := hp
  have h : Hp D (fun q => s.heap.size ≤ q) s.heap ([] ++ (wX cI cJ cB cZ ad tx ++ wM cI cJ cB cZ bd tm)) H locs := h
  refine x_cVI (n := 1) (pre := []) (post := wM cI cJ cB cZ bd tm) (wc := wX cI cJ cB cZ ad tx) (As := [.int (xs (i + 1))]) (rest := []) B h (wkX11_free l D cI cJ cB cZ ad k_1 tx (xs (i + 1)) _ hp) ⟨⟨_, rfl⟩, by decide +kernel, Nat.le_of_ble_eq_true rfl, Nat.le_of_ble_eq_true rfl⟩ gT_X11_free (show (wX cI cJ cB cZ ad tx : va_W)[0]? = some (ad 0, .inr (11, _)) from rfl) rfl rfl hl.1 rfl (Nat.le_of_ble_eq_true rfl) dL_law_899 ⟨Nat.le_of_ble_eq_true rfl, Nat.le_of_ble_eq_true rfl⟩ (fun r_1 tx H locs hp h => ?_)
  refine lv_pop hx hb dL_law_902 rfl ?_
  refine lv_aload_n hx hb dL_law_903 rfl (lv_at hl 1 rfl) ?_
  refine lv_aload_n hx hb dL_law_904 rfl (lv_at hl 3 rfl) ?_
  refine lv_iload_n hx hb dL_law_905 rfl (lv_at hl 0 rfl) ?_
  refine lv_iconst (v := 1) hx hb dL_law_906 (by decide) ?_
  refine lv_iadd hx hb dL_law_907 ?_
  refine lv_topi (fun v_907 ev_907 => ?_)
  obtain rfl : v_907 = nI (i + 1) := ev_907.trans (nI_add i 1)
  refine va_sld hx hb hX hbl hbA h.2.2.1 (vp_in_nI (show i + 1 < L by omega) (by omega)) dL_law_908 ?_
  refine lv_topi (fun v_908 ev_908 => ?_)
  obtain rfl : v_908 = xs (i + 1) := ev_908.trans (by rw [nI_clamp (show i + 1 < 2 ^ 31 by omega)])
  obtain ⟨k_2, hp⟩ := hp
  have h := hp_nil h
  refine x_cVI (n := 1) (post := []) (wc := wM cI cJ cB cZ bd tm) (As := [.int (xs (i + 1))]) (rest := []) B h (wkX12_free l D cI cJ cB cZ bd k_2 tm (xs (i + 1)) _ hp) ⟨⟨_, rfl⟩, by decide +kernel, Nat.le_of_ble_eq_true rfl, Nat.le_of_ble_eq_true rfl⟩ gT_X12_free (show (wM cI cJ cB cZ bd tm : va_W)[0]? = some (bd 0, .inr (12, _)) from rfl) rfl rfl hl.1 rfl (Nat.le_of_ble_eq_true rfl) dL_law_909 ⟨Nat.le_of_ble_eq_true rfl, Nat.le_of_ble_eq_true rfl⟩ (fun r_2 tm H locs hp h => ?_)
  have h : Hp D (fun q => s.heap.size ≤ q) s.heap (wX cI cJ cB cZ ad tx ++ wM cI cJ cB cZ bd tm) H locs := by rw [List.append_nil] at h; exact h
  refine lv_pop hx hb dL_law_912 rfl ?_
  refine lv_goto (tgt := 1186) hx hb dL_law_913 (by decide) ?_
  exact kk _ _ H locs hp h
set_option maxHeartbeats 4000000 in
set_option maxRecDepth 100000 in
theorem lc_facet {p : Program} {l : Launch} {e : Env} {s : State} {m : MethodId} {below : List Frame} {meth : Method} {c : Code} {Q : State → Prop} {D : va_G} {cI cJ cB cZ : ClassId} {ad bd : Nat → Nat} {b L : Nat} {xs : Nat → Int32} {H : Heap} {locs : List Loc} {ls : Array Slot} {tx tm : XT} {i : Nat} (Inv : XT → XT → Prop) (B : Bd p s m #[Value.ref b] meth c cL_law 4 lw_tbl RL D (TYS cI cJ cB cZ)) (hX : va_X b L xs s s.heap) (hbl : b < s.heap.size) (hL : L ≤ 3072) (hi : i + 6 ≤ L) (h : Hp D (fun q => s.heap.size ≤ q) s.heap (wX cI cJ cB cZ ad tx ++ wM cI cJ cB cZ bd tm) H locs) (hl : lv_has ls 4 [(3, .int (nI i)), (2, .ref (bd 0)), (1, .ref (ad 0)), (0, .ref b)]) (hp : ∃ k, wqX11_facet k tx (xs (i + 1)) (fun r1 tx' => ∃ k', wqX12_facet k' tm (xs (i + 1)) (fun r2 tm' => Inv tx' tm'))) (kk : ∀ (tx tm : XT) (H : Heap) (locs : List Loc), Inv tx tm → Hp D (fun q => s.heap.size ≤ q) s.heap (wX cI cJ cB cZ ad tx ++ wM cI cJ cB cZ bd tm) H locs → W p l e room_1 s m #[Value.ref b] below meth c H locs 56 11906 Q (F0 m 1186 ls [])) : W p l e room_1 s m #[Value.ref b] below meth c H locs 56 11906 Q (F0 m 916 ls []) := by
  have hx := B.1.1
  have hb := B.1.2.1
  have hbA : ¬ s.heap.size ≤ b := Nat.not_le.mpr hbl
  refine lv_aload_n hx hb dL_law_916 rfl (lv_at hl 2 rfl) ?_
  refine lv_aload_n hx hb dL_law_917 rfl (lv_at hl 3 rfl) ?_
  refine lv_iload_n hx hb dL_law_918 rfl (lv_at hl 0 rfl) ?_
  refine lv_iconst (v := 1) hx hb dL_law_919 (by decide) ?_
  refine lv_iadd hx hb dL_law_920 ?_
  refine lv_topi (fun v_920 ev_920 => ?_)
  obtain rfl : v_920 = nI (i + 1) := ev_920.trans (nI_add i 1)
  refine va_sld hx hb hX hbl hbA h.2.2.1 (vp_in_nI (show i + 1 < L by omega) (by omega)) dL_law_921 ?_
  refine lv_topi (fun v_921 ev_921 => ?_)
  obtain rfl : v_921 = xs (i + 1) := ev_921.trans (by rw [nI_clamp (show i + 1 < 2 ^ 31 by omega)])
  obtain ⟨k_1, hp⟩ := hp
  have h : Hp D (fun q => s.heap.size ≤ q) s.heap ([] ++ (wX cI cJ cB cZ ad tx ++ wM cI cJ cB cZ bd tm)) H locs := h
  refine x_cVI (n := 1) (pre := []) (post := wM cI cJ cB cZ bd tm) (wc := wX cI cJ cB cZ ad tx) (As := [.int (xs (i + 1))]) (rest := []) B h (wkX11_facet l D cI cJ cB cZ ad k_1 tx (xs (i + 1)) _ hp) ⟨⟨_, rfl⟩, by decide +kernel, Nat.le_of_ble_eq_true rfl, Nat.le_of_ble_eq_true rfl⟩ gT_X11_facet (show (wX cI cJ cB cZ ad tx : va_W)[0]? = some (ad 0, .inr (11, _)) from rfl) rfl rfl hl.1 rfl (Nat.le_of_ble_eq_true rfl) dL_law_922 ⟨Nat.le_of_ble_eq_true rfl, Nat.le_of_ble_eq_true rfl⟩ (fun r_1 tx H locs hp h => ?_)
  refine lv_pop hx hb dL_law_925 rfl ?_
  refine lv_aload_n hx hb dL_law_926 rfl (lv_at hl 1 rfl) ?_
  refine lv_aload_n hx hb dL_law_927 rfl (lv_at hl 3 rfl) ?_
  refine lv_iload_n hx hb dL_law_928 rfl (lv_at hl 0 rfl) ?_
  refine lv_iconst (v := 1) hx hb dL_law_929 (by decide) ?_
  refine lv_iadd hx hb dL_law_930 ?_
  refine lv_topi (fun v_930 ev_930 => ?_)
  obtain rfl : v_930 = nI (i + 1) := ev_930.trans (nI_add i 1)
  refine va_sld hx hb hX hbl hbA h.2.2.1 (vp_in_nI (show i + 1 < L by omega) (by omega)) dL_law_931 ?_
  refine lv_topi (fun v_931 ev_931 => ?_)
  obtain rfl : v_931 = xs (i + 1) := ev_931.trans (by rw [nI_clamp (show i + 1 < 2 ^ 31 by omega)])
  obtain ⟨k_2, hp⟩ := hp
  have h := hp_nil h
  refine x_cVI (n := 1) (post := []) (wc := wM cI cJ cB cZ bd tm) (As := [.int (xs (i + 1))]) (rest := []) B h (wkX12_facet l D cI cJ cB cZ bd k_2 tm (xs (i + 1)) _ hp) ⟨⟨_, rfl⟩, by decide +kernel, Nat.le_of_ble_eq_true rfl, Nat.le_of_ble_eq_true rfl⟩ gT_X12_facet (show (wM cI cJ cB cZ bd tm : va_W)[0]? = some (bd 0, .inr (12, _)) from rfl) rfl rfl hl.1 rfl (Nat.le_of_ble_eq_true rfl) dL_law_932 ⟨Nat.le_of_ble_eq_true rfl, Nat.le_of_ble_eq_true rfl⟩ (fun r_2 tm H locs hp h => ?_)
  have h : Hp D (fun q => s.heap.size ≤ q) s.heap (wX cI cJ cB cZ ad tx ++ wM cI cJ cB cZ bd tm) H locs := by rw [List.append_nil] at h; exact h
  refine lv_pop hx hb dL_law_935 rfl ?_
  refine lv_goto (tgt := 1186) hx hb dL_law_936 (by decide) ?_
  exact kk _ _ H locs hp h
set_option maxHeartbeats 4000000 in
set_option maxRecDepth 100000 in
theorem lc_link {p : Program} {l : Launch} {e : Env} {s : State} {m : MethodId} {below : List Frame} {meth : Method} {c : Code} {Q : State → Prop} {D : va_G} {cI cJ cB cZ : ClassId} {ad bd : Nat → Nat} {b L : Nat} {xs : Nat → Int32} {H : Heap} {locs : List Loc} {ls : Array Slot} {tx tm : XT} {i : Nat} (Inv : XT → XT → Prop) (B : Bd p s m #[Value.ref b] meth c cL_law 4 lw_tbl RL D (TYS cI cJ cB cZ)) (hX : va_X b L xs s s.heap) (hbl : b < s.heap.size) (hL : L ≤ 3072) (hi : i + 6 ≤ L) (h : Hp D (fun q => s.heap.size ≤ q) s.heap (wX cI cJ cB cZ ad tx ++ wM cI cJ cB cZ bd tm) H locs) (hl : lv_has ls 4 [(3, .int (nI i)), (2, .ref (bd 0)), (1, .ref (ad 0)), (0, .ref b)]) (hp : ∃ k, wqX11_link k tx (xs (i + 1)) (xs (i + 2)) (fun r1 tx' => ∃ k', wqX12_link k' tm (xs (i + 1)) (xs (i + 2)) (fun r2 tm' => Inv tx' tm'))) (kk : ∀ (tx tm : XT) (H : Heap) (locs : List Loc), Inv tx tm → Hp D (fun q => s.heap.size ≤ q) s.heap (wX cI cJ cB cZ ad tx ++ wM cI cJ cB cZ bd tm) H locs → W p l e room_1 s m #[Value.ref b] below meth c H locs 56 11906 Q (F0 m 1186 ls [])) : W p l e room_1 s m #[Value.ref b] below meth c H locs 56 11906 Q (F0 m 939 ls []) := by
  have hx := B.1.1
  have hb := B.1.2.1
  have hbA : ¬ s.heap.size ≤ b := Nat.not_le.mpr hbl
  refine lv_aload_n hx hb dL_law_939 rfl (lv_at hl 2 rfl) ?_
  refine lv_aload_n hx hb dL_law_940 rfl (lv_at hl 3 rfl) ?_
  refine lv_iload_n hx hb dL_law_941 rfl (lv_at hl 0 rfl) ?_
  refine lv_iconst (v := 1) hx hb dL_law_942 (by decide) ?_
  refine lv_iadd hx hb dL_law_943 ?_
  refine lv_topi (fun v_943 ev_943 => ?_)
  obtain rfl : v_943 = nI (i + 1) := ev_943.trans (nI_add i 1)
  refine va_sld hx hb hX hbl hbA h.2.2.1 (vp_in_nI (show i + 1 < L by omega) (by omega)) dL_law_944 ?_
  refine lv_topi (fun v_944 ev_944 => ?_)
  obtain rfl : v_944 = xs (i + 1) := ev_944.trans (by rw [nI_clamp (show i + 1 < 2 ^ 31 by omega)])
  refine lv_aload_n hx hb dL_law_945 rfl (lv_at hl 3 rfl) ?_
  refine lv_iload_n hx hb dL_law_946 rfl (lv_at hl 0 rfl) ?_
  refine lv_iconst (v := 2) hx hb dL_law_947 (by decide) ?_
  refine lv_iadd hx hb dL_law_948 ?_
  refine lv_topi (fun v_948 ev_948 => ?_)
  obtain rfl : v_948 = nI (i + 2) := ev_948.trans (nI_add i 2)
  refine va_sld hx hb hX hbl hbA h.2.2.1 (vp_in_nI (show i + 2 < L by omega) (by omega)) dL_law_949 ?_
  refine lv_topi (fun v_949 ev_949 => ?_)
  obtain rfl : v_949 = xs (i + 2) := ev_949.trans (by rw [nI_clamp (show i + 2 < 2 ^ 31 by omega)])
  obtain ⟨k_1, hp⟩ := hp
  have h : Hp D (fun q => s.heap.size ≤ q) s.heap ([] ++ (wX cI cJ cB cZ ad tx ++ wM cI cJ cB cZ bd tm)) H locs := h
  refine x_cVI (n := 2) (pre := []) (post := wM cI cJ cB cZ bd tm) (wc := wX cI cJ cB cZ ad tx) (As := [.int (xs (i + 1)), .int (xs (i + 2))]) (rest := []) B h (wkX11_link l D cI cJ cB cZ ad k_1 tx (xs (i + 1)) (xs (i + 2)) _ hp) ⟨⟨_, rfl⟩, by decide +kernel, Nat.le_of_ble_eq_true rfl, Nat.le_of_ble_eq_true rfl⟩ gT_X11_link (show (wX cI cJ cB cZ ad tx : va_W)[0]? = some (ad 0, .inr (11, _)) from rfl) rfl rfl hl.1 rfl (Nat.le_of_ble_eq_true rfl) dL_law_950 ⟨Nat.le_of_ble_eq_true rfl, Nat.le_of_ble_eq_true rfl⟩ (fun r_1 tx H locs hp h => ?_)
  refine lv_pop hx hb dL_law_953 rfl ?_
  refine lv_aload_n hx hb dL_law_954 rfl (lv_at hl 1 rfl) ?_
  refine lv_aload_n hx hb dL_law_955 rfl (lv_at hl 3 rfl) ?_
  refine lv_iload_n hx hb dL_law_956 rfl (lv_at hl 0 rfl) ?_
  refine lv_iconst (v := 1) hx hb dL_law_957 (by decide) ?_
  refine lv_iadd hx hb dL_law_958 ?_
  refine lv_topi (fun v_958 ev_958 => ?_)
  obtain rfl : v_958 = nI (i + 1) := ev_958.trans (nI_add i 1)
  refine va_sld hx hb hX hbl hbA h.2.2.1 (vp_in_nI (show i + 1 < L by omega) (by omega)) dL_law_959 ?_
  refine lv_topi (fun v_959 ev_959 => ?_)
  obtain rfl : v_959 = xs (i + 1) := ev_959.trans (by rw [nI_clamp (show i + 1 < 2 ^ 31 by omega)])
  refine lv_aload_n hx hb dL_law_960 rfl (lv_at hl 3 rfl) ?_
  refine lv_iload_n hx hb dL_law_961 rfl (lv_at hl 0 rfl) ?_
  refine lv_iconst (v := 2) hx hb dL_law_962 (by decide) ?_
  refine lv_iadd hx hb dL_law_963 ?_
  refine lv_topi (fun v_963 ev_963 => ?_)
  obtain rfl : v_963 = nI (i + 2) := ev_963.trans (nI_add i 2)
  refine va_sld hx hb hX hbl hbA h.2.2.1 (vp_in_nI (show i + 2 < L by omega) (by omega)) dL_law_964 ?_
  refine lv_topi (fun v_964 ev_964 => ?_)
  obtain rfl : v_964 = xs (i + 2) := ev_964.trans (by rw [nI_clamp (show i + 2 < 2 ^ 31 by omega)])
  obtain ⟨k_2, hp⟩ := hp
  have h := hp_nil h
  refine x_cVI (n := 2) (post := []) (wc := wM cI cJ cB cZ bd tm) (As := [.int (xs (i + 1)), .int (xs (i + 2))]) (rest := []) B h (wkX12_link l D cI cJ cB cZ bd k_2 tm (xs (i + 1)) (xs (i + 2)) _ hp) ⟨⟨_, rfl⟩, by decide +kernel, Nat.le_of_ble_eq_true rfl, Nat.le_of_ble_eq_true rfl⟩ gT_X12_link (show (wM cI cJ cB cZ bd tm : va_W)[0]? = some (bd 0, .inr (12, _)) from rfl) rfl rfl hl.1 rfl (Nat.le_of_ble_eq_true rfl) dL_law_965 ⟨Nat.le_of_ble_eq_true rfl, Nat.le_of_ble_eq_true rfl⟩ (fun r_2 tm H locs hp h => ?_)
  have h : Hp D (fun q => s.heap.size ≤ q) s.heap (wX cI cJ cB cZ ad tx ++ wM cI cJ cB cZ bd tm) H locs := by rw [List.append_nil] at h; exact h
  refine lv_pop hx hb dL_law_968 rfl ?_
  refine lv_goto (tgt := 1186) hx hb dL_law_969 (by decide) ?_
  exact kk _ _ H locs hp h
set_option maxHeartbeats 4000000 in
set_option maxRecDepth 100000 in
theorem lc_room {p : Program} {l : Launch} {e : Env} {s : State} {m : MethodId} {below : List Frame} {meth : Method} {c : Code} {Q : State → Prop} {D : va_G} {cI cJ cB cZ : ClassId} {ad bd : Nat → Nat} {b L : Nat} {xs : Nat → Int32} {H : Heap} {locs : List Loc} {ls : Array Slot} {tx tm : XT} {i : Nat} (Inv : XT → XT → Prop) (B : Bd p s m #[Value.ref b] meth c cL_law 4 lw_tbl RL D (TYS cI cJ cB cZ)) (hX : va_X b L xs s s.heap) (hbl : b < s.heap.size) (hL : L ≤ 3072) (hi : i + 6 ≤ L) (h : Hp D (fun q => s.heap.size ≤ q) s.heap (wX cI cJ cB cZ ad tx ++ wM cI cJ cB cZ bd tm) H locs) (hl : lv_has ls 4 [(3, .int (nI i)), (2, .ref (bd 0)), (1, .ref (ad 0)), (0, .ref b)]) (hp : ∃ k, wqX11_room k tx (xs (i + 1)) (fun r1 tx' => ∃ k', wqX12_room k' tm (xs (i + 1)) (fun r2 tm' => Inv tx' tm'))) (kk : ∀ (tx tm : XT) (H : Heap) (locs : List Loc), Inv tx tm → Hp D (fun q => s.heap.size ≤ q) s.heap (wX cI cJ cB cZ ad tx ++ wM cI cJ cB cZ bd tm) H locs → W p l e room_1 s m #[Value.ref b] below meth c H locs 56 11906 Q (F0 m 1186 ls [])) : W p l e room_1 s m #[Value.ref b] below meth c H locs 56 11906 Q (F0 m 972 ls []) := by
  have hx := B.1.1
  have hb := B.1.2.1
  have hbA : ¬ s.heap.size ≤ b := Nat.not_le.mpr hbl
  refine lv_aload_n hx hb dL_law_972 rfl (lv_at hl 2 rfl) ?_
  refine lv_aload_n hx hb dL_law_973 rfl (lv_at hl 3 rfl) ?_
  refine lv_iload_n hx hb dL_law_974 rfl (lv_at hl 0 rfl) ?_
  refine lv_iconst (v := 1) hx hb dL_law_975 (by decide) ?_
  refine lv_iadd hx hb dL_law_976 ?_
  refine lv_topi (fun v_976 ev_976 => ?_)
  obtain rfl : v_976 = nI (i + 1) := ev_976.trans (nI_add i 1)
  refine va_sld hx hb hX hbl hbA h.2.2.1 (vp_in_nI (show i + 1 < L by omega) (by omega)) dL_law_977 ?_
  refine lv_topi (fun v_977 ev_977 => ?_)
  obtain rfl : v_977 = xs (i + 1) := ev_977.trans (by rw [nI_clamp (show i + 1 < 2 ^ 31 by omega)])
  obtain ⟨k_1, hp⟩ := hp
  have h : Hp D (fun q => s.heap.size ≤ q) s.heap ([] ++ (wX cI cJ cB cZ ad tx ++ wM cI cJ cB cZ bd tm)) H locs := h
  refine x_cVI (n := 1) (pre := []) (post := wM cI cJ cB cZ bd tm) (wc := wX cI cJ cB cZ ad tx) (As := [.int (xs (i + 1))]) (rest := []) B h (wkX11_room l D cI cJ cB cZ ad k_1 tx (xs (i + 1)) _ hp) ⟨⟨_, rfl⟩, by decide +kernel, Nat.le_of_ble_eq_true rfl, Nat.le_of_ble_eq_true rfl⟩ gT_X11_room (show (wX cI cJ cB cZ ad tx : va_W)[0]? = some (ad 0, .inr (11, _)) from rfl) rfl rfl hl.1 rfl (Nat.le_of_ble_eq_true rfl) dL_law_978 ⟨Nat.le_of_ble_eq_true rfl, Nat.le_of_ble_eq_true rfl⟩ (fun r_1 tx H locs hp h => ?_)
  refine lv_pop hx hb dL_law_981 rfl ?_
  refine lv_aload_n hx hb dL_law_982 rfl (lv_at hl 1 rfl) ?_
  refine lv_aload_n hx hb dL_law_983 rfl (lv_at hl 3 rfl) ?_
  refine lv_iload_n hx hb dL_law_984 rfl (lv_at hl 0 rfl) ?_
  refine lv_iconst (v := 1) hx hb dL_law_985 (by decide) ?_
  refine lv_iadd hx hb dL_law_986 ?_
  refine lv_topi (fun v_986 ev_986 => ?_)
  obtain rfl : v_986 = nI (i + 1) := ev_986.trans (nI_add i 1)
  refine va_sld hx hb hX hbl hbA h.2.2.1 (vp_in_nI (show i + 1 < L by omega) (by omega)) dL_law_987 ?_
  refine lv_topi (fun v_987 ev_987 => ?_)
  obtain rfl : v_987 = xs (i + 1) := ev_987.trans (by rw [nI_clamp (show i + 1 < 2 ^ 31 by omega)])
  obtain ⟨k_2, hp⟩ := hp
  have h := hp_nil h
  refine x_cVI (n := 1) (post := []) (wc := wM cI cJ cB cZ bd tm) (As := [.int (xs (i + 1))]) (rest := []) B h (wkX12_room l D cI cJ cB cZ bd k_2 tm (xs (i + 1)) _ hp) ⟨⟨_, rfl⟩, by decide +kernel, Nat.le_of_ble_eq_true rfl, Nat.le_of_ble_eq_true rfl⟩ gT_X12_room (show (wM cI cJ cB cZ bd tm : va_W)[0]? = some (bd 0, .inr (12, _)) from rfl) rfl rfl hl.1 rfl (Nat.le_of_ble_eq_true rfl) dL_law_988 ⟨Nat.le_of_ble_eq_true rfl, Nat.le_of_ble_eq_true rfl⟩ (fun r_2 tm H locs hp h => ?_)
  have h : Hp D (fun q => s.heap.size ≤ q) s.heap (wX cI cJ cB cZ ad tx ++ wM cI cJ cB cZ bd tm) H locs := by rw [List.append_nil] at h; exact h
  refine lv_pop hx hb dL_law_991 rfl ?_
  refine lv_goto (tgt := 1186) hx hb dL_law_992 (by decide) ?_
  exact kk _ _ H locs hp h
set_option maxHeartbeats 4000000 in
set_option maxRecDepth 100000 in
theorem lc_draws {p : Program} {l : Launch} {e : Env} {s : State} {m : MethodId} {below : List Frame} {meth : Method} {c : Code} {Q : State → Prop} {D : va_G} {cI cJ cB cZ : ClassId} {ad bd : Nat → Nat} {b L : Nat} {xs : Nat → Int32} {H : Heap} {locs : List Loc} {ls : Array Slot} {tx tm : XT} {i : Nat} (Inv : XT → XT → Prop) (B : Bd p s m #[Value.ref b] meth c cL_law 4 lw_tbl RL D (TYS cI cJ cB cZ)) (hX : va_X b L xs s s.heap) (hbl : b < s.heap.size) (hL : L ≤ 3072) (hi : i + 6 ≤ L) (h : Hp D (fun q => s.heap.size ≤ q) s.heap (wX cI cJ cB cZ ad tx ++ wM cI cJ cB cZ bd tm) H locs) (hl : lv_has ls 4 [(3, .int (nI i)), (2, .ref (bd 0)), (1, .ref (ad 0)), (0, .ref b)]) (hp : ∃ k, wqX11_draws k tx (xs (i + 1)) (fun r1 tx' => ∃ k', wqX12_draws k' tm (xs (i + 1)) (fun r2 tm' => Inv tx' tm'))) (kk : ∀ (tx tm : XT) (H : Heap) (locs : List Loc), Inv tx tm → Hp D (fun q => s.heap.size ≤ q) s.heap (wX cI cJ cB cZ ad tx ++ wM cI cJ cB cZ bd tm) H locs → W p l e room_1 s m #[Value.ref b] below meth c H locs 56 11906 Q (F0 m 1186 ls [])) : W p l e room_1 s m #[Value.ref b] below meth c H locs 56 11906 Q (F0 m 995 ls []) := by
  have hx := B.1.1
  have hb := B.1.2.1
  have hbA : ¬ s.heap.size ≤ b := Nat.not_le.mpr hbl
  refine lv_aload_n hx hb dL_law_995 rfl (lv_at hl 2 rfl) ?_
  refine lv_aload_n hx hb dL_law_996 rfl (lv_at hl 3 rfl) ?_
  refine lv_iload_n hx hb dL_law_997 rfl (lv_at hl 0 rfl) ?_
  refine lv_iconst (v := 1) hx hb dL_law_998 (by decide) ?_
  refine lv_iadd hx hb dL_law_999 ?_
  refine lv_topi (fun v_999 ev_999 => ?_)
  obtain rfl : v_999 = nI (i + 1) := ev_999.trans (nI_add i 1)
  refine va_sld hx hb hX hbl hbA h.2.2.1 (vp_in_nI (show i + 1 < L by omega) (by omega)) dL_law_1000 ?_
  refine lv_topi (fun v_1000 ev_1000 => ?_)
  obtain rfl : v_1000 = xs (i + 1) := ev_1000.trans (by rw [nI_clamp (show i + 1 < 2 ^ 31 by omega)])
  obtain ⟨k_1, hp⟩ := hp
  have h : Hp D (fun q => s.heap.size ≤ q) s.heap ([] ++ (wX cI cJ cB cZ ad tx ++ wM cI cJ cB cZ bd tm)) H locs := h
  refine x_cVI (n := 1) (pre := []) (post := wM cI cJ cB cZ bd tm) (wc := wX cI cJ cB cZ ad tx) (As := [.int (xs (i + 1))]) (rest := []) B h (wkX11_draws l D cI cJ cB cZ ad k_1 tx (xs (i + 1)) _ hp) ⟨⟨_, rfl⟩, by decide +kernel, Nat.le_of_ble_eq_true rfl, Nat.le_of_ble_eq_true rfl⟩ gT_X11_draws (show (wX cI cJ cB cZ ad tx : va_W)[0]? = some (ad 0, .inr (11, _)) from rfl) rfl rfl hl.1 rfl (Nat.le_of_ble_eq_true rfl) dL_law_1001 ⟨Nat.le_of_ble_eq_true rfl, Nat.le_of_ble_eq_true rfl⟩ (fun r_1 tx H locs hp h => ?_)
  refine lv_pop hx hb dL_law_1004 rfl ?_
  refine lv_aload_n hx hb dL_law_1005 rfl (lv_at hl 1 rfl) ?_
  refine lv_aload_n hx hb dL_law_1006 rfl (lv_at hl 3 rfl) ?_
  refine lv_iload_n hx hb dL_law_1007 rfl (lv_at hl 0 rfl) ?_
  refine lv_iconst (v := 1) hx hb dL_law_1008 (by decide) ?_
  refine lv_iadd hx hb dL_law_1009 ?_
  refine lv_topi (fun v_1009 ev_1009 => ?_)
  obtain rfl : v_1009 = nI (i + 1) := ev_1009.trans (nI_add i 1)
  refine va_sld hx hb hX hbl hbA h.2.2.1 (vp_in_nI (show i + 1 < L by omega) (by omega)) dL_law_1010 ?_
  refine lv_topi (fun v_1010 ev_1010 => ?_)
  obtain rfl : v_1010 = xs (i + 1) := ev_1010.trans (by rw [nI_clamp (show i + 1 < 2 ^ 31 by omega)])
  obtain ⟨k_2, hp⟩ := hp
  have h := hp_nil h
  refine x_cVI (n := 1) (post := []) (wc := wM cI cJ cB cZ bd tm) (As := [.int (xs (i + 1))]) (rest := []) B h (wkX12_draws l D cI cJ cB cZ bd k_2 tm (xs (i + 1)) _ hp) ⟨⟨_, rfl⟩, by decide +kernel, Nat.le_of_ble_eq_true rfl, Nat.le_of_ble_eq_true rfl⟩ gT_X12_draws (show (wM cI cJ cB cZ bd tm : va_W)[0]? = some (bd 0, .inr (12, _)) from rfl) rfl rfl hl.1 rfl (Nat.le_of_ble_eq_true rfl) dL_law_1011 ⟨Nat.le_of_ble_eq_true rfl, Nat.le_of_ble_eq_true rfl⟩ (fun r_2 tm H locs hp h => ?_)
  have h : Hp D (fun q => s.heap.size ≤ q) s.heap (wX cI cJ cB cZ ad tx ++ wM cI cJ cB cZ bd tm) H locs := by rw [List.append_nil] at h; exact h
  refine lv_pop hx hb dL_law_1014 rfl ?_
  refine lv_goto (tgt := 1186) hx hb dL_law_1015 (by decide) ?_
  exact kk _ _ H locs hp h
set_option maxHeartbeats 4000000 in
set_option maxRecDepth 100000 in
theorem lc_drawn {p : Program} {l : Launch} {e : Env} {s : State} {m : MethodId} {below : List Frame} {meth : Method} {c : Code} {Q : State → Prop} {D : va_G} {cI cJ cB cZ : ClassId} {ad bd : Nat → Nat} {b L : Nat} {xs : Nat → Int32} {H : Heap} {locs : List Loc} {ls : Array Slot} {tx tm : XT} {i : Nat} (Inv : XT → XT → Prop) (B : Bd p s m #[Value.ref b] meth c cL_law 4 lw_tbl RL D (TYS cI cJ cB cZ)) (hX : va_X b L xs s s.heap) (hbl : b < s.heap.size) (hL : L ≤ 3072) (hi : i + 6 ≤ L) (h : Hp D (fun q => s.heap.size ≤ q) s.heap (wX cI cJ cB cZ ad tx ++ wM cI cJ cB cZ bd tm) H locs) (hl : lv_has ls 4 [(3, .int (nI i)), (2, .ref (bd 0)), (1, .ref (ad 0)), (0, .ref b)]) (hp : ∃ k, wqX11_drawn k tx (xs (i + 1)) (xs (i + 2)) (fun r1 tx' => ∃ k', wqX12_drawn k' tm (xs (i + 1)) (xs (i + 2)) (fun r2 tm' => Inv tx' tm'))) (kk : ∀ (tx tm : XT) (H : Heap) (locs : List Loc), Inv tx tm → Hp D (fun q => s.heap.size ≤ q) s.heap (wX cI cJ cB cZ ad tx ++ wM cI cJ cB cZ bd tm) H locs → W p l e room_1 s m #[Value.ref b] below meth c H locs 56 11906 Q (F0 m 1186 ls [])) : W p l e room_1 s m #[Value.ref b] below meth c H locs 56 11906 Q (F0 m 1018 ls []) := by
  have hx := B.1.1
  have hb := B.1.2.1
  have hbA : ¬ s.heap.size ≤ b := Nat.not_le.mpr hbl
  refine lv_aload_n hx hb dL_law_1018 rfl (lv_at hl 2 rfl) ?_
  refine lv_aload_n hx hb dL_law_1019 rfl (lv_at hl 3 rfl) ?_
  refine lv_iload_n hx hb dL_law_1020 rfl (lv_at hl 0 rfl) ?_
  refine lv_iconst (v := 1) hx hb dL_law_1021 (by decide) ?_
  refine lv_iadd hx hb dL_law_1022 ?_
  refine lv_topi (fun v_1022 ev_1022 => ?_)
  obtain rfl : v_1022 = nI (i + 1) := ev_1022.trans (nI_add i 1)
  refine va_sld hx hb hX hbl hbA h.2.2.1 (vp_in_nI (show i + 1 < L by omega) (by omega)) dL_law_1023 ?_
  refine lv_topi (fun v_1023 ev_1023 => ?_)
  obtain rfl : v_1023 = xs (i + 1) := ev_1023.trans (by rw [nI_clamp (show i + 1 < 2 ^ 31 by omega)])
  refine lv_aload_n hx hb dL_law_1024 rfl (lv_at hl 3 rfl) ?_
  refine lv_iload_n hx hb dL_law_1025 rfl (lv_at hl 0 rfl) ?_
  refine lv_iconst (v := 2) hx hb dL_law_1026 (by decide) ?_
  refine lv_iadd hx hb dL_law_1027 ?_
  refine lv_topi (fun v_1027 ev_1027 => ?_)
  obtain rfl : v_1027 = nI (i + 2) := ev_1027.trans (nI_add i 2)
  refine va_sld hx hb hX hbl hbA h.2.2.1 (vp_in_nI (show i + 2 < L by omega) (by omega)) dL_law_1028 ?_
  refine lv_topi (fun v_1028 ev_1028 => ?_)
  obtain rfl : v_1028 = xs (i + 2) := ev_1028.trans (by rw [nI_clamp (show i + 2 < 2 ^ 31 by omega)])
  obtain ⟨k_1, hp⟩ := hp
  have h : Hp D (fun q => s.heap.size ≤ q) s.heap ([] ++ (wX cI cJ cB cZ ad tx ++ wM cI cJ cB cZ bd tm)) H locs := h
  refine x_cVI (n := 2) (pre := []) (post := wM cI cJ cB cZ bd tm) (wc := wX cI cJ cB cZ ad tx) (As := [.int (xs (i + 1)), .int (xs (i + 2))]) (rest := []) B h (wkX11_drawn l D cI cJ cB cZ ad k_1 tx (xs (i + 1)) (xs (i + 2)) _ hp) ⟨⟨_, rfl⟩, by decide +kernel, Nat.le_of_ble_eq_true rfl, Nat.le_of_ble_eq_true rfl⟩ gT_X11_drawn (show (wX cI cJ cB cZ ad tx : va_W)[0]? = some (ad 0, .inr (11, _)) from rfl) rfl rfl hl.1 rfl (Nat.le_of_ble_eq_true rfl) dL_law_1029 ⟨Nat.le_of_ble_eq_true rfl, Nat.le_of_ble_eq_true rfl⟩ (fun r_1 tx H locs hp h => ?_)
  refine lv_pop hx hb dL_law_1032 rfl ?_
  refine lv_aload_n hx hb dL_law_1033 rfl (lv_at hl 1 rfl) ?_
  refine lv_aload_n hx hb dL_law_1034 rfl (lv_at hl 3 rfl) ?_
  refine lv_iload_n hx hb dL_law_1035 rfl (lv_at hl 0 rfl) ?_
  refine lv_iconst (v := 1) hx hb dL_law_1036 (by decide) ?_
  refine lv_iadd hx hb dL_law_1037 ?_
  refine lv_topi (fun v_1037 ev_1037 => ?_)
  obtain rfl : v_1037 = nI (i + 1) := ev_1037.trans (nI_add i 1)
  refine va_sld hx hb hX hbl hbA h.2.2.1 (vp_in_nI (show i + 1 < L by omega) (by omega)) dL_law_1038 ?_
  refine lv_topi (fun v_1038 ev_1038 => ?_)
  obtain rfl : v_1038 = xs (i + 1) := ev_1038.trans (by rw [nI_clamp (show i + 1 < 2 ^ 31 by omega)])
  refine lv_aload_n hx hb dL_law_1039 rfl (lv_at hl 3 rfl) ?_
  refine lv_iload_n hx hb dL_law_1040 rfl (lv_at hl 0 rfl) ?_
  refine lv_iconst (v := 2) hx hb dL_law_1041 (by decide) ?_
  refine lv_iadd hx hb dL_law_1042 ?_
  refine lv_topi (fun v_1042 ev_1042 => ?_)
  obtain rfl : v_1042 = nI (i + 2) := ev_1042.trans (nI_add i 2)
  refine va_sld hx hb hX hbl hbA h.2.2.1 (vp_in_nI (show i + 2 < L by omega) (by omega)) dL_law_1043 ?_
  refine lv_topi (fun v_1043 ev_1043 => ?_)
  obtain rfl : v_1043 = xs (i + 2) := ev_1043.trans (by rw [nI_clamp (show i + 2 < 2 ^ 31 by omega)])
  obtain ⟨k_2, hp⟩ := hp
  have h := hp_nil h
  refine x_cVI (n := 2) (post := []) (wc := wM cI cJ cB cZ bd tm) (As := [.int (xs (i + 1)), .int (xs (i + 2))]) (rest := []) B h (wkX12_drawn l D cI cJ cB cZ bd k_2 tm (xs (i + 1)) (xs (i + 2)) _ hp) ⟨⟨_, rfl⟩, by decide +kernel, Nat.le_of_ble_eq_true rfl, Nat.le_of_ble_eq_true rfl⟩ gT_X12_drawn (show (wM cI cJ cB cZ bd tm : va_W)[0]? = some (bd 0, .inr (12, _)) from rfl) rfl rfl hl.1 rfl (Nat.le_of_ble_eq_true rfl) dL_law_1044 ⟨Nat.le_of_ble_eq_true rfl, Nat.le_of_ble_eq_true rfl⟩ (fun r_2 tm H locs hp h => ?_)
  have h : Hp D (fun q => s.heap.size ≤ q) s.heap (wX cI cJ cB cZ ad tx ++ wM cI cJ cB cZ bd tm) H locs := by rw [List.append_nil] at h; exact h
  refine lv_pop hx hb dL_law_1047 rfl ?_
  refine lv_goto (tgt := 1186) hx hb dL_law_1048 (by decide) ?_
  exact kk _ _ H locs hp h
set_option maxHeartbeats 4000000 in
set_option maxRecDepth 100000 in
theorem lc_level {p : Program} {l : Launch} {e : Env} {s : State} {m : MethodId} {below : List Frame} {meth : Method} {c : Code} {Q : State → Prop} {D : va_G} {cI cJ cB cZ : ClassId} {ad bd : Nat → Nat} {b L : Nat} {xs : Nat → Int32} {H : Heap} {locs : List Loc} {ls : Array Slot} {tx tm : XT} {i : Nat} (Inv : XT → XT → Prop) (B : Bd p s m #[Value.ref b] meth c cL_law 4 lw_tbl RL D (TYS cI cJ cB cZ)) (hX : va_X b L xs s s.heap) (hbl : b < s.heap.size) (hL : L ≤ 3072) (hi : i + 6 ≤ L) (h : Hp D (fun q => s.heap.size ≤ q) s.heap (wX cI cJ cB cZ ad tx ++ wM cI cJ cB cZ bd tm) H locs) (hl : lv_has ls 4 [(3, .int (nI i)), (2, .ref (bd 0)), (1, .ref (ad 0)), (0, .ref b)]) (hp : ∃ k, wqX11_level k tx (xs (i + 1)) (xs (i + 2)) (fun r1 tx' => ∃ k', wqX12_level k' tm (xs (i + 1)) (xs (i + 2)) (fun r2 tm' => Inv tx' tm'))) (kk : ∀ (tx tm : XT) (H : Heap) (locs : List Loc), Inv tx tm → Hp D (fun q => s.heap.size ≤ q) s.heap (wX cI cJ cB cZ ad tx ++ wM cI cJ cB cZ bd tm) H locs → W p l e room_1 s m #[Value.ref b] below meth c H locs 56 11906 Q (F0 m 1186 ls [])) : W p l e room_1 s m #[Value.ref b] below meth c H locs 56 11906 Q (F0 m 1051 ls []) := by
  have hx := B.1.1
  have hb := B.1.2.1
  have hbA : ¬ s.heap.size ≤ b := Nat.not_le.mpr hbl
  refine lv_aload_n hx hb dL_law_1051 rfl (lv_at hl 2 rfl) ?_
  refine lv_aload_n hx hb dL_law_1052 rfl (lv_at hl 3 rfl) ?_
  refine lv_iload_n hx hb dL_law_1053 rfl (lv_at hl 0 rfl) ?_
  refine lv_iconst (v := 1) hx hb dL_law_1054 (by decide) ?_
  refine lv_iadd hx hb dL_law_1055 ?_
  refine lv_topi (fun v_1055 ev_1055 => ?_)
  obtain rfl : v_1055 = nI (i + 1) := ev_1055.trans (nI_add i 1)
  refine va_sld hx hb hX hbl hbA h.2.2.1 (vp_in_nI (show i + 1 < L by omega) (by omega)) dL_law_1056 ?_
  refine lv_topi (fun v_1056 ev_1056 => ?_)
  obtain rfl : v_1056 = xs (i + 1) := ev_1056.trans (by rw [nI_clamp (show i + 1 < 2 ^ 31 by omega)])
  refine lv_aload_n hx hb dL_law_1057 rfl (lv_at hl 3 rfl) ?_
  refine lv_iload_n hx hb dL_law_1058 rfl (lv_at hl 0 rfl) ?_
  refine lv_iconst (v := 2) hx hb dL_law_1059 (by decide) ?_
  refine lv_iadd hx hb dL_law_1060 ?_
  refine lv_topi (fun v_1060 ev_1060 => ?_)
  obtain rfl : v_1060 = nI (i + 2) := ev_1060.trans (nI_add i 2)
  refine va_sld hx hb hX hbl hbA h.2.2.1 (vp_in_nI (show i + 2 < L by omega) (by omega)) dL_law_1061 ?_
  refine lv_topi (fun v_1061 ev_1061 => ?_)
  obtain rfl : v_1061 = xs (i + 2) := ev_1061.trans (by rw [nI_clamp (show i + 2 < 2 ^ 31 by omega)])
  obtain ⟨k_1, hp⟩ := hp
  have h : Hp D (fun q => s.heap.size ≤ q) s.heap ([] ++ (wX cI cJ cB cZ ad tx ++ wM cI cJ cB cZ bd tm)) H locs := h
  refine x_cVI (n := 2) (pre := []) (post := wM cI cJ cB cZ bd tm) (wc := wX cI cJ cB cZ ad tx) (As := [.int (xs (i + 1)), .int (xs (i + 2))]) (rest := []) B h (wkX11_level l D cI cJ cB cZ ad k_1 tx (xs (i + 1)) (xs (i + 2)) _ hp) ⟨⟨_, rfl⟩, by decide +kernel, Nat.le_of_ble_eq_true rfl, Nat.le_of_ble_eq_true rfl⟩ gT_X11_level (show (wX cI cJ cB cZ ad tx : va_W)[0]? = some (ad 0, .inr (11, _)) from rfl) rfl rfl hl.1 rfl (Nat.le_of_ble_eq_true rfl) dL_law_1062 ⟨Nat.le_of_ble_eq_true rfl, Nat.le_of_ble_eq_true rfl⟩ (fun r_1 tx H locs hp h => ?_)
  refine lv_pop hx hb dL_law_1065 rfl ?_
  refine lv_aload_n hx hb dL_law_1066 rfl (lv_at hl 1 rfl) ?_
  refine lv_aload_n hx hb dL_law_1067 rfl (lv_at hl 3 rfl) ?_
  refine lv_iload_n hx hb dL_law_1068 rfl (lv_at hl 0 rfl) ?_
  refine lv_iconst (v := 1) hx hb dL_law_1069 (by decide) ?_
  refine lv_iadd hx hb dL_law_1070 ?_
  refine lv_topi (fun v_1070 ev_1070 => ?_)
  obtain rfl : v_1070 = nI (i + 1) := ev_1070.trans (nI_add i 1)
  refine va_sld hx hb hX hbl hbA h.2.2.1 (vp_in_nI (show i + 1 < L by omega) (by omega)) dL_law_1071 ?_
  refine lv_topi (fun v_1071 ev_1071 => ?_)
  obtain rfl : v_1071 = xs (i + 1) := ev_1071.trans (by rw [nI_clamp (show i + 1 < 2 ^ 31 by omega)])
  refine lv_aload_n hx hb dL_law_1072 rfl (lv_at hl 3 rfl) ?_
  refine lv_iload_n hx hb dL_law_1073 rfl (lv_at hl 0 rfl) ?_
  refine lv_iconst (v := 2) hx hb dL_law_1074 (by decide) ?_
  refine lv_iadd hx hb dL_law_1075 ?_
  refine lv_topi (fun v_1075 ev_1075 => ?_)
  obtain rfl : v_1075 = nI (i + 2) := ev_1075.trans (nI_add i 2)
  refine va_sld hx hb hX hbl hbA h.2.2.1 (vp_in_nI (show i + 2 < L by omega) (by omega)) dL_law_1076 ?_
  refine lv_topi (fun v_1076 ev_1076 => ?_)
  obtain rfl : v_1076 = xs (i + 2) := ev_1076.trans (by rw [nI_clamp (show i + 2 < 2 ^ 31 by omega)])
  obtain ⟨k_2, hp⟩ := hp
  have h := hp_nil h
  refine x_cVI (n := 2) (post := []) (wc := wM cI cJ cB cZ bd tm) (As := [.int (xs (i + 1)), .int (xs (i + 2))]) (rest := []) B h (wkX12_level l D cI cJ cB cZ bd k_2 tm (xs (i + 1)) (xs (i + 2)) _ hp) ⟨⟨_, rfl⟩, by decide +kernel, Nat.le_of_ble_eq_true rfl, Nat.le_of_ble_eq_true rfl⟩ gT_X12_level (show (wM cI cJ cB cZ bd tm : va_W)[0]? = some (bd 0, .inr (12, _)) from rfl) rfl rfl hl.1 rfl (Nat.le_of_ble_eq_true rfl) dL_law_1077 ⟨Nat.le_of_ble_eq_true rfl, Nat.le_of_ble_eq_true rfl⟩ (fun r_2 tm H locs hp h => ?_)
  have h : Hp D (fun q => s.heap.size ≤ q) s.heap (wX cI cJ cB cZ ad tx ++ wM cI cJ cB cZ bd tm) H locs := by rw [List.append_nil] at h; exact h
  refine lv_pop hx hb dL_law_1080 rfl ?_
  refine lv_goto (tgt := 1186) hx hb dL_law_1081 (by decide) ?_
  exact kk _ _ H locs hp h
set_option maxHeartbeats 4000000 in
set_option maxRecDepth 100000 in
theorem lc_levelBetti {p : Program} {l : Launch} {e : Env} {s : State} {m : MethodId} {below : List Frame} {meth : Method} {c : Code} {Q : State → Prop} {D : va_G} {cI cJ cB cZ : ClassId} {ad bd : Nat → Nat} {b L : Nat} {xs : Nat → Int32} {H : Heap} {locs : List Loc} {ls : Array Slot} {tx tm : XT} {i : Nat} (Inv : XT → XT → Prop) (B : Bd p s m #[Value.ref b] meth c cL_law 4 lw_tbl RL D (TYS cI cJ cB cZ)) (hX : va_X b L xs s s.heap) (hbl : b < s.heap.size) (hL : L ≤ 3072) (hi : i + 6 ≤ L) (h : Hp D (fun q => s.heap.size ≤ q) s.heap (wX cI cJ cB cZ ad tx ++ wM cI cJ cB cZ bd tm) H locs) (hl : lv_has ls 4 [(3, .int (nI i)), (2, .ref (bd 0)), (1, .ref (ad 0)), (0, .ref b)]) (hp : ∃ k, wqX11_levelBetti k tx (xs (i + 1)) (xs (i + 2)) (fun r1 tx' => ∃ k', wqX12_levelBetti k' tm (xs (i + 1)) (xs (i + 2)) (fun r2 tm' => Inv tx' tm'))) (kk : ∀ (tx tm : XT) (H : Heap) (locs : List Loc), Inv tx tm → Hp D (fun q => s.heap.size ≤ q) s.heap (wX cI cJ cB cZ ad tx ++ wM cI cJ cB cZ bd tm) H locs → W p l e room_1 s m #[Value.ref b] below meth c H locs 56 11906 Q (F0 m 1186 ls [])) : W p l e room_1 s m #[Value.ref b] below meth c H locs 56 11906 Q (F0 m 1084 ls []) := by
  have hx := B.1.1
  have hb := B.1.2.1
  have hbA : ¬ s.heap.size ≤ b := Nat.not_le.mpr hbl
  refine lv_aload_n hx hb dL_law_1084 rfl (lv_at hl 2 rfl) ?_
  refine lv_aload_n hx hb dL_law_1085 rfl (lv_at hl 3 rfl) ?_
  refine lv_iload_n hx hb dL_law_1086 rfl (lv_at hl 0 rfl) ?_
  refine lv_iconst (v := 1) hx hb dL_law_1087 (by decide) ?_
  refine lv_iadd hx hb dL_law_1088 ?_
  refine lv_topi (fun v_1088 ev_1088 => ?_)
  obtain rfl : v_1088 = nI (i + 1) := ev_1088.trans (nI_add i 1)
  refine va_sld hx hb hX hbl hbA h.2.2.1 (vp_in_nI (show i + 1 < L by omega) (by omega)) dL_law_1089 ?_
  refine lv_topi (fun v_1089 ev_1089 => ?_)
  obtain rfl : v_1089 = xs (i + 1) := ev_1089.trans (by rw [nI_clamp (show i + 1 < 2 ^ 31 by omega)])
  refine lv_aload_n hx hb dL_law_1090 rfl (lv_at hl 3 rfl) ?_
  refine lv_iload_n hx hb dL_law_1091 rfl (lv_at hl 0 rfl) ?_
  refine lv_iconst (v := 2) hx hb dL_law_1092 (by decide) ?_
  refine lv_iadd hx hb dL_law_1093 ?_
  refine lv_topi (fun v_1093 ev_1093 => ?_)
  obtain rfl : v_1093 = nI (i + 2) := ev_1093.trans (nI_add i 2)
  refine va_sld hx hb hX hbl hbA h.2.2.1 (vp_in_nI (show i + 2 < L by omega) (by omega)) dL_law_1094 ?_
  refine lv_topi (fun v_1094 ev_1094 => ?_)
  obtain rfl : v_1094 = xs (i + 2) := ev_1094.trans (by rw [nI_clamp (show i + 2 < 2 ^ 31 by omega)])
  obtain ⟨k_1, hp⟩ := hp
  have h : Hp D (fun q => s.heap.size ≤ q) s.heap ([] ++ (wX cI cJ cB cZ ad tx ++ wM cI cJ cB cZ bd tm)) H locs := h
  refine x_cVI (n := 2) (pre := []) (post := wM cI cJ cB cZ bd tm) (wc := wX cI cJ cB cZ ad tx) (As := [.int (xs (i + 1)), .int (xs (i + 2))]) (rest := []) B h (wkX11_levelBetti l D cI cJ cB cZ ad k_1 tx (xs (i + 1)) (xs (i + 2)) _ hp) ⟨⟨_, rfl⟩, by decide +kernel, Nat.le_of_ble_eq_true rfl, Nat.le_of_ble_eq_true rfl⟩ gT_X11_levelBetti (show (wX cI cJ cB cZ ad tx : va_W)[0]? = some (ad 0, .inr (11, _)) from rfl) rfl rfl hl.1 rfl (Nat.le_of_ble_eq_true rfl) dL_law_1095 ⟨Nat.le_of_ble_eq_true rfl, Nat.le_of_ble_eq_true rfl⟩ (fun r_1 tx H locs hp h => ?_)
  refine lv_pop hx hb dL_law_1098 rfl ?_
  refine lv_aload_n hx hb dL_law_1099 rfl (lv_at hl 1 rfl) ?_
  refine lv_aload_n hx hb dL_law_1100 rfl (lv_at hl 3 rfl) ?_
  refine lv_iload_n hx hb dL_law_1101 rfl (lv_at hl 0 rfl) ?_
  refine lv_iconst (v := 1) hx hb dL_law_1102 (by decide) ?_
  refine lv_iadd hx hb dL_law_1103 ?_
  refine lv_topi (fun v_1103 ev_1103 => ?_)
  obtain rfl : v_1103 = nI (i + 1) := ev_1103.trans (nI_add i 1)
  refine va_sld hx hb hX hbl hbA h.2.2.1 (vp_in_nI (show i + 1 < L by omega) (by omega)) dL_law_1104 ?_
  refine lv_topi (fun v_1104 ev_1104 => ?_)
  obtain rfl : v_1104 = xs (i + 1) := ev_1104.trans (by rw [nI_clamp (show i + 1 < 2 ^ 31 by omega)])
  refine lv_aload_n hx hb dL_law_1105 rfl (lv_at hl 3 rfl) ?_
  refine lv_iload_n hx hb dL_law_1106 rfl (lv_at hl 0 rfl) ?_
  refine lv_iconst (v := 2) hx hb dL_law_1107 (by decide) ?_
  refine lv_iadd hx hb dL_law_1108 ?_
  refine lv_topi (fun v_1108 ev_1108 => ?_)
  obtain rfl : v_1108 = nI (i + 2) := ev_1108.trans (nI_add i 2)
  refine va_sld hx hb hX hbl hbA h.2.2.1 (vp_in_nI (show i + 2 < L by omega) (by omega)) dL_law_1109 ?_
  refine lv_topi (fun v_1109 ev_1109 => ?_)
  obtain rfl : v_1109 = xs (i + 2) := ev_1109.trans (by rw [nI_clamp (show i + 2 < 2 ^ 31 by omega)])
  obtain ⟨k_2, hp⟩ := hp
  have h := hp_nil h
  refine x_cVI (n := 2) (post := []) (wc := wM cI cJ cB cZ bd tm) (As := [.int (xs (i + 1)), .int (xs (i + 2))]) (rest := []) B h (wkX12_levelBetti l D cI cJ cB cZ bd k_2 tm (xs (i + 1)) (xs (i + 2)) _ hp) ⟨⟨_, rfl⟩, by decide +kernel, Nat.le_of_ble_eq_true rfl, Nat.le_of_ble_eq_true rfl⟩ gT_X12_levelBetti (show (wM cI cJ cB cZ bd tm : va_W)[0]? = some (bd 0, .inr (12, _)) from rfl) rfl rfl hl.1 rfl (Nat.le_of_ble_eq_true rfl) dL_law_1110 ⟨Nat.le_of_ble_eq_true rfl, Nat.le_of_ble_eq_true rfl⟩ (fun r_2 tm H locs hp h => ?_)
  have h : Hp D (fun q => s.heap.size ≤ q) s.heap (wX cI cJ cB cZ ad tx ++ wM cI cJ cB cZ bd tm) H locs := by rw [List.append_nil] at h; exact h
  refine lv_pop hx hb dL_law_1113 rfl ?_
  refine lv_goto (tgt := 1186) hx hb dL_law_1114 (by decide) ?_
  exact kk _ _ H locs hp h
set_option maxHeartbeats 4000000 in
set_option maxRecDepth 100000 in
theorem lc_keep {p : Program} {l : Launch} {e : Env} {s : State} {m : MethodId} {below : List Frame} {meth : Method} {c : Code} {Q : State → Prop} {D : va_G} {cI cJ cB cZ : ClassId} {ad bd : Nat → Nat} {b L : Nat} {xs : Nat → Int32} {H : Heap} {locs : List Loc} {ls : Array Slot} {tx tm : XT} {i : Nat} (Inv : XT → XT → Prop) (B : Bd p s m #[Value.ref b] meth c cL_law 4 lw_tbl RL D (TYS cI cJ cB cZ)) (hX : va_X b L xs s s.heap) (hbl : b < s.heap.size) (hL : L ≤ 3072) (hi : i + 6 ≤ L) (h : Hp D (fun q => s.heap.size ≤ q) s.heap (wX cI cJ cB cZ ad tx ++ wM cI cJ cB cZ bd tm) H locs) (hl : lv_has ls 4 [(3, .int (nI i)), (2, .ref (bd 0)), (1, .ref (ad 0)), (0, .ref b)]) (hp : ∃ k, wqX11_keep k tx (xs (i + 1)) (fun r1 tx' => ∃ k', wqX12_keep k' tm (xs (i + 1)) (fun r2 tm' => Inv tx' tm'))) (kk : ∀ (tx tm : XT) (H : Heap) (locs : List Loc), Inv tx tm → Hp D (fun q => s.heap.size ≤ q) s.heap (wX cI cJ cB cZ ad tx ++ wM cI cJ cB cZ bd tm) H locs → W p l e room_1 s m #[Value.ref b] below meth c H locs 56 11906 Q (F0 m 1186 ls [])) : W p l e room_1 s m #[Value.ref b] below meth c H locs 56 11906 Q (F0 m 1117 ls []) := by
  have hx := B.1.1
  have hb := B.1.2.1
  have hbA : ¬ s.heap.size ≤ b := Nat.not_le.mpr hbl
  refine lv_aload_n hx hb dL_law_1117 rfl (lv_at hl 2 rfl) ?_
  refine lv_aload_n hx hb dL_law_1118 rfl (lv_at hl 3 rfl) ?_
  refine lv_iload_n hx hb dL_law_1119 rfl (lv_at hl 0 rfl) ?_
  refine lv_iconst (v := 1) hx hb dL_law_1120 (by decide) ?_
  refine lv_iadd hx hb dL_law_1121 ?_
  refine lv_topi (fun v_1121 ev_1121 => ?_)
  obtain rfl : v_1121 = nI (i + 1) := ev_1121.trans (nI_add i 1)
  refine va_sld hx hb hX hbl hbA h.2.2.1 (vp_in_nI (show i + 1 < L by omega) (by omega)) dL_law_1122 ?_
  refine lv_topi (fun v_1122 ev_1122 => ?_)
  obtain rfl : v_1122 = xs (i + 1) := ev_1122.trans (by rw [nI_clamp (show i + 1 < 2 ^ 31 by omega)])
  obtain ⟨k_1, hp⟩ := hp
  have h : Hp D (fun q => s.heap.size ≤ q) s.heap ([] ++ (wX cI cJ cB cZ ad tx ++ wM cI cJ cB cZ bd tm)) H locs := h
  refine x_cVI (n := 1) (pre := []) (post := wM cI cJ cB cZ bd tm) (wc := wX cI cJ cB cZ ad tx) (As := [.int (xs (i + 1))]) (rest := []) B h (wkX11_keep l D cI cJ cB cZ ad k_1 tx (xs (i + 1)) _ hp) ⟨⟨_, rfl⟩, by decide +kernel, Nat.le_of_ble_eq_true rfl, Nat.le_of_ble_eq_true rfl⟩ gT_X11_keep (show (wX cI cJ cB cZ ad tx : va_W)[0]? = some (ad 0, .inr (11, _)) from rfl) rfl rfl hl.1 rfl (Nat.le_of_ble_eq_true rfl) dL_law_1123 ⟨Nat.le_of_ble_eq_true rfl, Nat.le_of_ble_eq_true rfl⟩ (fun r_1 tx H locs hp h => ?_)
  refine lv_pop hx hb dL_law_1126 rfl ?_
  refine lv_aload_n hx hb dL_law_1127 rfl (lv_at hl 1 rfl) ?_
  refine lv_aload_n hx hb dL_law_1128 rfl (lv_at hl 3 rfl) ?_
  refine lv_iload_n hx hb dL_law_1129 rfl (lv_at hl 0 rfl) ?_
  refine lv_iconst (v := 1) hx hb dL_law_1130 (by decide) ?_
  refine lv_iadd hx hb dL_law_1131 ?_
  refine lv_topi (fun v_1131 ev_1131 => ?_)
  obtain rfl : v_1131 = nI (i + 1) := ev_1131.trans (nI_add i 1)
  refine va_sld hx hb hX hbl hbA h.2.2.1 (vp_in_nI (show i + 1 < L by omega) (by omega)) dL_law_1132 ?_
  refine lv_topi (fun v_1132 ev_1132 => ?_)
  obtain rfl : v_1132 = xs (i + 1) := ev_1132.trans (by rw [nI_clamp (show i + 1 < 2 ^ 31 by omega)])
  obtain ⟨k_2, hp⟩ := hp
  have h := hp_nil h
  refine x_cVI (n := 1) (post := []) (wc := wM cI cJ cB cZ bd tm) (As := [.int (xs (i + 1))]) (rest := []) B h (wkX12_keep l D cI cJ cB cZ bd k_2 tm (xs (i + 1)) _ hp) ⟨⟨_, rfl⟩, by decide +kernel, Nat.le_of_ble_eq_true rfl, Nat.le_of_ble_eq_true rfl⟩ gT_X12_keep (show (wM cI cJ cB cZ bd tm : va_W)[0]? = some (bd 0, .inr (12, _)) from rfl) rfl rfl hl.1 rfl (Nat.le_of_ble_eq_true rfl) dL_law_1133 ⟨Nat.le_of_ble_eq_true rfl, Nat.le_of_ble_eq_true rfl⟩ (fun r_2 tm H locs hp h => ?_)
  have h : Hp D (fun q => s.heap.size ≤ q) s.heap (wX cI cJ cB cZ ad tx ++ wM cI cJ cB cZ bd tm) H locs := by rw [List.append_nil] at h; exact h
  refine lv_pop hx hb dL_law_1136 rfl ?_
  refine lv_goto (tgt := 1186) hx hb dL_law_1137 (by decide) ?_
  exact kk _ _ H locs hp h
set_option maxHeartbeats 4000000 in
set_option maxRecDepth 100000 in
theorem lc_same {p : Program} {l : Launch} {e : Env} {s : State} {m : MethodId} {below : List Frame} {meth : Method} {c : Code} {Q : State → Prop} {D : va_G} {cI cJ cB cZ : ClassId} {ad bd : Nat → Nat} {b L : Nat} {xs : Nat → Int32} {H : Heap} {locs : List Loc} {ls : Array Slot} {tx tm : XT} {i : Nat} (Inv : XT → XT → Prop) (B : Bd p s m #[Value.ref b] meth c cL_law 4 lw_tbl RL D (TYS cI cJ cB cZ)) (hX : va_X b L xs s s.heap) (hbl : b < s.heap.size) (hL : L ≤ 3072) (hi : i + 6 ≤ L) (h : Hp D (fun q => s.heap.size ≤ q) s.heap (wX cI cJ cB cZ ad tx ++ wM cI cJ cB cZ bd tm) H locs) (hl : lv_has ls 4 [(3, .int (nI i)), (2, .ref (bd 0)), (1, .ref (ad 0)), (0, .ref b)]) (hp : ∃ k, wqX11_same k tx (xs (i + 1)) (fun r1 tx' => ∃ k', wqX12_same k' tm (xs (i + 1)) (fun r2 tm' => Inv tx' tm'))) (kk : ∀ (tx tm : XT) (H : Heap) (locs : List Loc), Inv tx tm → Hp D (fun q => s.heap.size ≤ q) s.heap (wX cI cJ cB cZ ad tx ++ wM cI cJ cB cZ bd tm) H locs → W p l e room_1 s m #[Value.ref b] below meth c H locs 56 11906 Q (F0 m 1186 ls [])) : W p l e room_1 s m #[Value.ref b] below meth c H locs 56 11906 Q (F0 m 1140 ls []) := by
  have hx := B.1.1
  have hb := B.1.2.1
  have hbA : ¬ s.heap.size ≤ b := Nat.not_le.mpr hbl
  refine lv_aload_n hx hb dL_law_1140 rfl (lv_at hl 2 rfl) ?_
  refine lv_aload_n hx hb dL_law_1141 rfl (lv_at hl 3 rfl) ?_
  refine lv_iload_n hx hb dL_law_1142 rfl (lv_at hl 0 rfl) ?_
  refine lv_iconst (v := 1) hx hb dL_law_1143 (by decide) ?_
  refine lv_iadd hx hb dL_law_1144 ?_
  refine lv_topi (fun v_1144 ev_1144 => ?_)
  obtain rfl : v_1144 = nI (i + 1) := ev_1144.trans (nI_add i 1)
  refine va_sld hx hb hX hbl hbA h.2.2.1 (vp_in_nI (show i + 1 < L by omega) (by omega)) dL_law_1145 ?_
  refine lv_topi (fun v_1145 ev_1145 => ?_)
  obtain rfl : v_1145 = xs (i + 1) := ev_1145.trans (by rw [nI_clamp (show i + 1 < 2 ^ 31 by omega)])
  obtain ⟨k_1, hp⟩ := hp
  have h : Hp D (fun q => s.heap.size ≤ q) s.heap ([] ++ (wX cI cJ cB cZ ad tx ++ wM cI cJ cB cZ bd tm)) H locs := h
  refine x_cVI (n := 1) (pre := []) (post := wM cI cJ cB cZ bd tm) (wc := wX cI cJ cB cZ ad tx) (As := [.int (xs (i + 1))]) (rest := []) B h (wkX11_same l D cI cJ cB cZ ad k_1 tx (xs (i + 1)) _ hp) ⟨⟨_, rfl⟩, by decide +kernel, Nat.le_of_ble_eq_true rfl, Nat.le_of_ble_eq_true rfl⟩ gT_X11_same (show (wX cI cJ cB cZ ad tx : va_W)[0]? = some (ad 0, .inr (11, _)) from rfl) rfl rfl hl.1 rfl (Nat.le_of_ble_eq_true rfl) dL_law_1146 ⟨Nat.le_of_ble_eq_true rfl, Nat.le_of_ble_eq_true rfl⟩ (fun r_1 tx H locs hp h => ?_)
  refine lv_pop hx hb dL_law_1149 rfl ?_
  refine lv_aload_n hx hb dL_law_1150 rfl (lv_at hl 1 rfl) ?_
  refine lv_aload_n hx hb dL_law_1151 rfl (lv_at hl 3 rfl) ?_
  refine lv_iload_n hx hb dL_law_1152 rfl (lv_at hl 0 rfl) ?_
  refine lv_iconst (v := 1) hx hb dL_law_1153 (by decide) ?_
  refine lv_iadd hx hb dL_law_1154 ?_
  refine lv_topi (fun v_1154 ev_1154 => ?_)
  obtain rfl : v_1154 = nI (i + 1) := ev_1154.trans (nI_add i 1)
  refine va_sld hx hb hX hbl hbA h.2.2.1 (vp_in_nI (show i + 1 < L by omega) (by omega)) dL_law_1155 ?_
  refine lv_topi (fun v_1155 ev_1155 => ?_)
  obtain rfl : v_1155 = xs (i + 1) := ev_1155.trans (by rw [nI_clamp (show i + 1 < 2 ^ 31 by omega)])
  obtain ⟨k_2, hp⟩ := hp
  have h := hp_nil h
  refine x_cVI (n := 1) (post := []) (wc := wM cI cJ cB cZ bd tm) (As := [.int (xs (i + 1))]) (rest := []) B h (wkX12_same l D cI cJ cB cZ bd k_2 tm (xs (i + 1)) _ hp) ⟨⟨_, rfl⟩, by decide +kernel, Nat.le_of_ble_eq_true rfl, Nat.le_of_ble_eq_true rfl⟩ gT_X12_same (show (wM cI cJ cB cZ bd tm : va_W)[0]? = some (bd 0, .inr (12, _)) from rfl) rfl rfl hl.1 rfl (Nat.le_of_ble_eq_true rfl) dL_law_1156 ⟨Nat.le_of_ble_eq_true rfl, Nat.le_of_ble_eq_true rfl⟩ (fun r_2 tm H locs hp h => ?_)
  have h : Hp D (fun q => s.heap.size ≤ q) s.heap (wX cI cJ cB cZ ad tx ++ wM cI cJ cB cZ bd tm) H locs := by rw [List.append_nil] at h; exact h
  refine lv_pop hx hb dL_law_1159 rfl ?_
  refine lv_goto (tgt := 1186) hx hb dL_law_1160 (by decide) ?_
  exact kk _ _ H locs hp h
set_option maxHeartbeats 4000000 in
set_option maxRecDepth 100000 in
theorem lc_count {p : Program} {l : Launch} {e : Env} {s : State} {m : MethodId} {below : List Frame} {meth : Method} {c : Code} {Q : State → Prop} {D : va_G} {cI cJ cB cZ : ClassId} {ad bd : Nat → Nat} {b L : Nat} {xs : Nat → Int32} {H : Heap} {locs : List Loc} {ls : Array Slot} {tx tm : XT} {i : Nat} (Inv : XT → XT → Prop) (B : Bd p s m #[Value.ref b] meth c cL_law 4 lw_tbl RL D (TYS cI cJ cB cZ)) (hX : va_X b L xs s s.heap) (hbl : b < s.heap.size) (hL : L ≤ 3072) (hi : i + 6 ≤ L) (h : Hp D (fun q => s.heap.size ≤ q) s.heap (wX cI cJ cB cZ ad tx ++ wM cI cJ cB cZ bd tm) H locs) (hl : lv_has ls 4 [(3, .int (nI i)), (2, .ref (bd 0)), (1, .ref (ad 0)), (0, .ref b)]) (hp : ∃ k, wqX11_count k tx (xs (i + 1)) (fun r1 tx' => ∃ k', wqX12_count k' tm (xs (i + 1)) (fun r2 tm' => Inv tx' tm'))) (kk : ∀ (tx tm : XT) (H : Heap) (locs : List Loc), Inv tx tm → Hp D (fun q => s.heap.size ≤ q) s.heap (wX cI cJ cB cZ ad tx ++ wM cI cJ cB cZ bd tm) H locs → W p l e room_1 s m #[Value.ref b] below meth c H locs 56 11906 Q (F0 m 1186 ls [])) : W p l e room_1 s m #[Value.ref b] below meth c H locs 56 11906 Q (F0 m 1163 ls []) := by
  have hx := B.1.1
  have hb := B.1.2.1
  have hbA : ¬ s.heap.size ≤ b := Nat.not_le.mpr hbl
  refine lv_aload_n hx hb dL_law_1163 rfl (lv_at hl 2 rfl) ?_
  refine lv_aload_n hx hb dL_law_1164 rfl (lv_at hl 3 rfl) ?_
  refine lv_iload_n hx hb dL_law_1165 rfl (lv_at hl 0 rfl) ?_
  refine lv_iconst (v := 1) hx hb dL_law_1166 (by decide) ?_
  refine lv_iadd hx hb dL_law_1167 ?_
  refine lv_topi (fun v_1167 ev_1167 => ?_)
  obtain rfl : v_1167 = nI (i + 1) := ev_1167.trans (nI_add i 1)
  refine va_sld hx hb hX hbl hbA h.2.2.1 (vp_in_nI (show i + 1 < L by omega) (by omega)) dL_law_1168 ?_
  refine lv_topi (fun v_1168 ev_1168 => ?_)
  obtain rfl : v_1168 = xs (i + 1) := ev_1168.trans (by rw [nI_clamp (show i + 1 < 2 ^ 31 by omega)])
  obtain ⟨k_1, hp⟩ := hp
  have h : Hp D (fun q => s.heap.size ≤ q) s.heap ([] ++ (wX cI cJ cB cZ ad tx ++ wM cI cJ cB cZ bd tm)) H locs := h
  refine x_cVI (n := 1) (pre := []) (post := wM cI cJ cB cZ bd tm) (wc := wX cI cJ cB cZ ad tx) (As := [.int (xs (i + 1))]) (rest := []) B h (wkX11_count l D cI cJ cB cZ ad k_1 tx (xs (i + 1)) _ hp) ⟨⟨_, rfl⟩, by decide +kernel, Nat.le_of_ble_eq_true rfl, Nat.le_of_ble_eq_true rfl⟩ gT_X11_count (show (wX cI cJ cB cZ ad tx : va_W)[0]? = some (ad 0, .inr (11, _)) from rfl) rfl rfl hl.1 rfl (Nat.le_of_ble_eq_true rfl) dL_law_1169 ⟨Nat.le_of_ble_eq_true rfl, Nat.le_of_ble_eq_true rfl⟩ (fun r_1 tx H locs hp h => ?_)
  refine lv_pop hx hb dL_law_1172 rfl ?_
  refine lv_aload_n hx hb dL_law_1173 rfl (lv_at hl 1 rfl) ?_
  refine lv_aload_n hx hb dL_law_1174 rfl (lv_at hl 3 rfl) ?_
  refine lv_iload_n hx hb dL_law_1175 rfl (lv_at hl 0 rfl) ?_
  refine lv_iconst (v := 1) hx hb dL_law_1176 (by decide) ?_
  refine lv_iadd hx hb dL_law_1177 ?_
  refine lv_topi (fun v_1177 ev_1177 => ?_)
  obtain rfl : v_1177 = nI (i + 1) := ev_1177.trans (nI_add i 1)
  refine va_sld hx hb hX hbl hbA h.2.2.1 (vp_in_nI (show i + 1 < L by omega) (by omega)) dL_law_1178 ?_
  refine lv_topi (fun v_1178 ev_1178 => ?_)
  obtain rfl : v_1178 = xs (i + 1) := ev_1178.trans (by rw [nI_clamp (show i + 1 < 2 ^ 31 by omega)])
  obtain ⟨k_2, hp⟩ := hp
  have h := hp_nil h
  refine x_cVI (n := 1) (post := []) (wc := wM cI cJ cB cZ bd tm) (As := [.int (xs (i + 1))]) (rest := []) B h (wkX12_count l D cI cJ cB cZ bd k_2 tm (xs (i + 1)) _ hp) ⟨⟨_, rfl⟩, by decide +kernel, Nat.le_of_ble_eq_true rfl, Nat.le_of_ble_eq_true rfl⟩ gT_X12_count (show (wM cI cJ cB cZ bd tm : va_W)[0]? = some (bd 0, .inr (12, _)) from rfl) rfl rfl hl.1 rfl (Nat.le_of_ble_eq_true rfl) dL_law_1179 ⟨Nat.le_of_ble_eq_true rfl, Nat.le_of_ble_eq_true rfl⟩ (fun r_2 tm H locs hp h => ?_)
  have h : Hp D (fun q => s.heap.size ≤ q) s.heap (wX cI cJ cB cZ ad tx ++ wM cI cJ cB cZ bd tm) H locs := by rw [List.append_nil] at h; exact h
  refine lv_pop hx hb dL_law_1182 rfl ?_
  refine lv_goto (tgt := 1186) hx hb dL_law_1183 (by decide) ?_
  exact kk _ _ H locs hp h
