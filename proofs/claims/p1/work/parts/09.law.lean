/-! THE CLAIM OUT OF ONE WALK OF THE LAW'S BODY. Your part is whole_start (and what it stands on); all else here is the same for every law, but numbers. -/
def R_law : String := "MorseDeskLaw"
def lw_P (b : Addr) (xs : List Int32) (args : Array Value) (s : State) : Prop := args = #[.ref b] ∧ s.IntsAt b xs ∧ xs.length ≤ 6 ∧ (Jvm.Cond.and given_1 narrow_1).before args s = true
def lw_Q (_ : Array Value) (s : State) (o : Outcome) (t : State) : Prop := o = .returned (some (.int 1)) ∧ Framed s o t [] 56 11906
def lw_Z (below : List Frame) (a : Array Value) (s : State) : State → Prop := fun t => ∃ o, t.status = .running ∧ Ended t below o ∧ lw_Q a s o t
/-- the law's own end, with 1 on the stack, nothing written that was there before, its room as the claim has it -/
theorem lw_ret {p : Program} {l : Launch} {e : Env} {s : State} {m : MethodId} {below : List Frame} {meth : Method} {c : Code} {b : Nat} (hx : p.tables.exec = Jvm.exec) (hb : c.code = code) (hr : meth.sig.returnType = ret) (hlocks : meth.locks = false) {pc : Nat} {H : Heap} {ls : Array Slot} (hdg : decode code pc = .ok (.ireturn, 1)) : W p l e room_1 s m #[Value.ref b] below meth c H [] 56 11906 (lw_Z below #[Value.ref b] s) (F0 m pc ls [.int 1]) := by
  intro T hT X
  obtain ⟨fs, hret, hrun, hended, hW, hframe⟩ := X.leave (v := some (.int 1)) (hlocks := hlocks) (fun h => by rw [hr] at h; cases h)
  have hmeth' : T.vm.method? m = some meth := X.method'
  refine ⟨T.setFrames fs, ?_, .returned (some (.int 1)), hrun, hended, rfl, ⟨_, rfl⟩, hW, hframe⟩
  jvm_step X.here [X.here.top, hx, hb, hdg, hmeth', hr, ret, narrow_b1]
  (try refine ⟨rfl, ?_⟩); (try refine ⟨rfl, ?_⟩)
  first | (intro acts; rw [hret _ acts rfl rfl rfl]) | rw [hret _ _ rfl rfl rfl]
  exact Steps.refl _
/-- what holds at the law's entry: the machine, the code, the tables' words (any of lw_tbl by 'hts w (by decide +kernel)'), the script of L ints xs at the cell b, what the Statement gives of the start (any of its parts by flat_of_before) -/
def lw_At (p : Program) (s : State) (m : MethodId) (meth : Method) (c : Code) (b L : Nat) (xs : Nat → Int32) : Prop :=
  p.tables.exec = Jvm.exec ∧ c.code = code ∧ meth.sig.returnType = ret ∧ c.maxLocals = 4 ∧ s.vm.findClass R_law = some m.cls ∧ (∀ w ∈ lw_tbl, w.before #[Value.ref b] s = true) ∧ va_X b L xs s s.heap ∧ b < s.heap.size ∧ meth.locks = false ∧ (Jvm.Cond.and given_1 narrow_1).before #[Value.ref b] s = true
theorem nw_in : ∀ q ∈ nwL, Cond.methodLinkNest q.1 q.2.1 q.2.2.1 q.2.2.2 ∈ lw_tbl := by decide +kernel
theorem arr_known {ty : FieldType} (hpr : ∀ C, ty ≠ .object C) {args : Array Value} {s : State} (h : (Cond.arrayClass ty).before args s = true) : ∃ cA : ClassId, ArrOfT s cA ty ∧ va_RA s cA ty := by
  obtain ⟨cA, kA, comp, h1, h2, h3⟩ := Cond.arrayClass_spec h
  refine ⟨cA, fun n z => ⟨fun k h => (by cases h), kA, h2, comp, h3⟩, ?_⟩
  cases ty with
  | object C => exact absurd rfl (hpr C)
  | _ => exact h1
set_option maxHeartbeats 8000000 in
set_option maxRecDepth 100000 in
theorem whole_start {p : Program} {e : Env} {s : State} {m : MethodId} {below : List Frame} {meth : Method} {c : Code} (l : Launch) (hflags : l.flags = flags0) {b L : Nat} {xs : Nat → Int32} (hL : L ≤ 6) (C0 : lw_At p s m meth c b L xs) : W p l e room_1 s m #[Value.ref b] below meth c s.heap [] 0 0 (lw_Z below #[Value.ref b] s) (entryFrame m ([Value.ref b] : List Value).toArray 4) := by
  obtain ⟨hx, hb, hr, hml, hown, hts0, hX, hbl, hlocks, hgv⟩ := id C0
  have hbA : ¬ s.heap.size ≤ b := Nat.not_le.mpr hbl
  obtain ⟨c0, i0, hk0⟩ := u_known (C := RX0) (T := TX0) (N := 4) (n := 4) hts0 inX0 (hts0 (.instantiable RX0 4) mw_1183)
  obtain ⟨c1, i1, hk1⟩ := u_known (C := RX1) (T := TX1) (N := 7) (n := 7) hts0 inX1 (hts0 (.instantiable RX1 7) mw_1185)
  obtain ⟨c2, i2, hk2⟩ := u_known (C := RX2) (T := TX2) (N := 6) (n := 6) hts0 inX2 (hts0 (.instantiable RX2 6) mw_1187)
  obtain ⟨c3, i3, hk3⟩ := u_known (C := RX3) (T := TX3) (N := 4) (n := 4) hts0 inX3 (hts0 (.instantiable RX3 4) mw_1181)
  obtain ⟨c4, i4, hk4⟩ := u_known (C := RX4) (T := TX4) (N := 2) (n := 2) hts0 inX4 (hts0 (.instantiable RX4 2) mw_1179)
  obtain ⟨c5, i5, hk5⟩ := u_known (C := RX5) (T := TX5) (N := 6) (n := 6) hts0 inX5 (hts0 (.instantiable RX5 6) mw_1218)
  obtain ⟨c6, i6, hk6⟩ := u_known (C := RX6) (T := TX6) (N := 6) (n := 6) hts0 inX6 (hts0 (.instantiable RX6 6) mw_1164)
  obtain ⟨c7, i7, hk7⟩ := u_known (C := RX7) (T := TX7) (N := 3) (n := 3) hts0 inX7 (hts0 (.instantiable RX7 3) mw_1162)
  obtain ⟨c8, i8, hk8⟩ := u_known (C := RX8) (T := TX8) (N := 3) (n := 3) hts0 inX8 (hts0 (.instantiable RX8 3) mw_1168)
  obtain ⟨c9, i9, hk9⟩ := u_known (C := RX9) (T := TX9) (N := 7) (n := 7) hts0 inX9 (hts0 (.instantiable RX9 7) mw_1166)
  obtain ⟨c10, i10, hk10⟩ := u_known (C := RX10) (T := TX10) (N := 2) (n := 2) hts0 inX10 (hts0 (.instantiable RX10 2) mw_1170)
  obtain ⟨c11, i11, hk11⟩ := u_known (C := RX11) (T := TX11) (N := 11) (n := 11) hts0 inX11 (hts0 (.instantiable RX11 11) mw_1236)
  obtain ⟨c12, i12, hk12⟩ := u_known (C := RX12) (T := TX12) (N := 31) (n := 31) hts0 inX12 (hts0 (.instantiable RX12 31) mw_1237)
  obtain ⟨dC, dI, hKc⟩ : ∃ (dC : Nat → ClassId) (dI : Nat → Nat → Nat), ∀ (k : Nat) (q : vw_C), vwCl[k]? = some q → u_Kn s q.1 q.2.1 q.2.2 (dC k) (dI k) := by
    refine ⟨fun k => match k with | 0 => c0 | 1 => c1 | 2 => c2 | 3 => c3 | 4 => c4 | 5 => c5 | 6 => c6 | 7 => c7 | 8 => c8 | 9 => c9 | 10 => c10 | 11 => c11 | _ => c12, fun k => match k with | 0 => i0 | 1 => i1 | 2 => i2 | 3 => i3 | 4 => i4 | 5 => i5 | 6 => i6 | 7 => i7 | 8 => i8 | 9 => i9 | 10 => i10 | 11 => i11 | _ => i12, ?_⟩
    intro k q hq
    match k, hq with
    | 0, hq => cases hq; exact hk0
    | 1, hq => cases hq; exact hk1
    | 2, hq => cases hq; exact hk2
    | 3, hq => cases hq; exact hk3
    | 4, hq => cases hq; exact hk4
    | 5, hq => cases hq; exact hk5
    | 6, hq => cases hq; exact hk6
    | 7, hq => cases hq; exact hk7
    | 8, hq => cases hq; exact hk8
    | 9, hq => cases hq; exact hk9
    | 10, hq => cases hq; exact hk10
    | 11, hq => cases hq; exact hk11
    | 12, hq => cases hq; exact hk12
    | k + 13, hq => simp [vwCl] at hq
  obtain ⟨cI, aI⟩ := arr_known (ty := .int) (fun C hC => by cases hC) (hts0 (.arrayClass .int) mw_1175)
  obtain ⟨cJ, aJ⟩ := arr_known (ty := .long) (fun C hC => by cases hC) (hts0 (.arrayClass .long) mw_1192)
  obtain ⟨cB, aB⟩ := arr_known (ty := .byte) (fun C hC => by cases hC) (hts0 (.arrayClass .byte) mw_1231)
  obtain ⟨cZ, aZ⟩ := arr_known (ty := .boolean) (fun C hC => by cases hC) (hts0 (.arrayClass .boolean) mw_1230)
  have hK : va_K (dC, dI) vwCl (TYS cI cJ cB cZ) s := by
    refine ⟨hKc, fun k q hq => ?_⟩
    match k, hq with
    | 0, hq => cases hq; exact aI
    | 1, hq => cases hq; exact aJ
    | 2, hq => cases hq; exact aB
    | 3, hq => cases hq; exact aZ
    | k + 4, hq => simp at hq
  have B : Bd p s m #[Value.ref b] meth c cL_law 4 lw_tbl RL (dC, dI) (TYS cI cJ cB cZ) := ⟨⟨hx, hb, hml, hown, hts0⟩, hK, hlocks, fun q hq => va_Nw.of rfl (hts0 _ (nw_in q hq))⟩
  have h : Hp (dC, dI) (fun q => s.heap.size ≤ q) s.heap [] s.heap [] := ⟨fun k q h => by simp at h, ⟨fun i j p q h => by simp at h, fun k q h => by simp at h⟩, va_S.rf, fun _ h => h⟩
  have hl := lv_entry ([.ref b]) (n := 4) (Nat.le_of_ble_eq_true rfl)
  rw [lg_entry_eq]
  generalize (lg_sl ([.ref b]) ++ List.replicate (4 - (lg_sl ([.ref b])).length) Slot.unset).toArray = ls at hl ⊢
  have hl : lv_has ls 4 [(0, .ref b)] := hl
  refine x_new (C := RX11) (T := TX11) (N := 11) (ci := 11) (fs := [.null, .null, .null, .null, .null, .null, .null, .null, .null, .null, .int 0]) B h inX11 tyX11 tyX11_ok mw_1238 mw_1236 mw_10 rfl (fun j hj => by rcases (show j = 0 ∨ j = 1 ∨ j = 2 ∨ j = 3 ∨ j = 4 ∨ j = 5 ∨ j = 6 ∨ j = 7 ∨ j = 8 ∨ j = 9 ∨ j = 10 by omega) with rfl | rfl | rfl | rfl | rfl | rfl | rfl | rfl | rfl | rfl | rfl <;> rfl) (Nat.le_of_ble_eq_true rfl) (Nat.le_of_ble_eq_true rfl) dL_law_0 (fun q0 H h => ?_)
  have h : Hp (dC, dI) (fun q => s.heap.size ≤ q) s.heap ([] ++ ([(q0, .inr (11, [.null, .null, .null, .null, .null, .null, .null, .null, .null, .null, .int 0]))] ++ [])) H _ := h
  refine lv_dup hx hb dL_law_3 rfl ?_
  refine x_cIV (n := 0) (pre := []) (wc := [(q0, .inr (11, [.null, .null, .null, .null, .null, .null, .null, .null, .null, .null, .int 0]))]) (post := []) (As := []) (rest := [.ref q0]) B h (i_X11 l (dC, dI) cI cJ cB cZ q0) ⟨⟨_, rfl⟩, by decide +kernel, Nat.le_of_ble_eq_true rfl, Nat.le_of_ble_eq_true rfl⟩ gT_X11_init mw_10 mw_1228 mw_1229 rfl rfl hl.1 rfl (Nat.le_of_ble_eq_true rfl) dL_law_4 ⟨Nat.le_of_ble_eq_true rfl, Nat.le_of_ble_eq_true rfl⟩ (fun ad H locs hp h2 => ?_)
  clear h
  have hp : ad 0 = q0 := hp
  subst hp
  have h : Hp (dC, dI) (fun q => s.heap.size ≤ q) s.heap (WX cI cJ cB cZ ad) H locs := by have h9 := h2; rw [List.nil_append, List.append_nil] at h9; exact h9
  refine lv_astore_n (lv' := [(1, .ref (ad 0)), (0, .ref b)]) hx hb dL_law_7 rfl hl (by decide) rfl (fun ls hl => ?_)
  refine x_new (C := RX12) (T := TX12) (N := 31) (ci := 12) (fs := [.null, .int 0, .int 0, .int 0, .null, .int 0, .null, .null, .null, .null, .null, .null, .null, .int 0, .null, .null, .null, .null, .int 0, .null, .null, .null, .null, .int 0, .int 0, .null, .int 0, .null, .null, .null, .null]) B h inX12 tyX12 tyX12_ok mw_1239 mw_1237 mw_16 rfl (fun j hj => by rcases (show j = 0 ∨ j = 1 ∨ j = 2 ∨ j = 3 ∨ j = 4 ∨ j = 5 ∨ j = 6 ∨ j = 7 ∨ j = 8 ∨ j = 9 ∨ j = 10 ∨ j = 11 ∨ j = 12 ∨ j = 13 ∨ j = 14 ∨ j = 15 ∨ j = 16 ∨ j = 17 ∨ j = 18 ∨ j = 19 ∨ j = 20 ∨ j = 21 ∨ j = 22 ∨ j = 23 ∨ j = 24 ∨ j = 25 ∨ j = 26 ∨ j = 27 ∨ j = 28 ∨ j = 29 ∨ j = 30 by omega) with rfl | rfl | rfl | rfl | rfl | rfl | rfl | rfl | rfl | rfl | rfl | rfl | rfl | rfl | rfl | rfl | rfl | rfl | rfl | rfl | rfl | rfl | rfl | rfl | rfl | rfl | rfl | rfl | rfl | rfl | rfl <;> rfl) (Nat.le_of_ble_eq_true rfl) (Nat.le_of_ble_eq_true rfl) dL_law_8 (fun q1 H h => ?_)
  have h : Hp (dC, dI) (fun q => s.heap.size ≤ q) s.heap (WX cI cJ cB cZ ad ++ ([(q1, .inr (12, [.null, .int 0, .int 0, .int 0, .null, .int 0, .null, .null, .null, .null, .null, .null, .null, .int 0, .null, .null, .null, .null, .int 0, .null, .null, .null, .null, .int 0, .int 0, .null, .int 0, .null, .null, .null, .null]))] ++ [])) H _ := h
  refine lv_dup hx hb dL_law_11 rfl ?_
  refine x_cIV (n := 0) (pre := WX cI cJ cB cZ ad) (wc := [(q1, .inr (12, [.null, .int 0, .int 0, .int 0, .null, .int 0, .null, .null, .null, .null, .null, .null, .null, .int 0, .null, .null, .null, .null, .int 0, .null, .null, .null, .null, .int 0, .int 0, .null, .int 0, .null, .null, .null, .null]))]) (post := []) (As := []) (rest := [.ref q1]) B h (i_X12 l (dC, dI) cI cJ cB cZ q1) ⟨⟨_, rfl⟩, by decide +kernel, Nat.le_of_ble_eq_true rfl, Nat.le_of_ble_eq_true rfl⟩ gT_X12_init mw_16 mw_1234 mw_1235 rfl rfl hl.1 rfl (Nat.le_of_ble_eq_true rfl) dL_law_12 ⟨Nat.le_of_ble_eq_true rfl, Nat.le_of_ble_eq_true rfl⟩ (fun bd H locs hp h2 => ?_)
  clear h
  have hp : bd 0 = q1 := hp
  subst hp
  have h : Hp (dC, dI) (fun q => s.heap.size ≤ q) s.heap (WX cI cJ cB cZ ad ++ WM cI cJ cB cZ bd) H locs := by have h9 := h2; rw [List.append_nil] at h9; exact h9
  refine lv_astore_n (lv' := [(2, .ref (bd 0)), (1, .ref (ad 0)), (0, .ref b)]) hx hb dL_law_15 rfl hl (by decide) rfl (fun ls hl => ?_)
  refine lv_iconst (v := 0) hx hb dL_law_16 (by decide) ?_
  refine lv_istore_n (lv' := [(3, .int 0), (2, .ref (bd 0)), (1, .ref (ad 0)), (0, .ref b)]) hx hb dL_law_17 rfl hl (by decide) rfl (fun ls hl => ?_)
  refine W.widen (k := 56) (n := 11906) (Nat.le_of_ble_eq_true rfl) (Nat.le_of_ble_eq_true rfl) ?_
  have fin : ∀ (H : Heap) (locs : List Loc) (ls : Array Slot), va_S (fun q => s.heap.size ≤ q) s.heap H locs → W p l e room_1 s m #[Value.ref b] below meth c H locs 56 11906 (lw_Z below #[Value.ref b] s) (F0 m 1197 ls []) := by
    intro H locs ls hS
    refine lv_iconst (v := 1) hx hb dL_law_1197 (by decide) ?_
    refine va_forget (fun q hq => hS.2.2 q hq) ?_
    exact lw_ret hx hb hr hlocks dL_law_1198
  have hS := h.2.2.1
  rcases (show L = 0 ∨ L = 1 ∨ L = 2 ∨ L = 3 ∨ L = 4 ∨ L = 5 ∨ L = 6 by omega) with rfl | rfl | rfl | rfl | rfl | rfl | rfl
  · skip
    refine lv_iload_n hx hb dL_law_18 rfl (lv_at hl 0 rfl) ?_
    refine lv_aload_n hx hb dL_law_19 rfl (lv_at hl 3 rfl) ?_
    refine va_slen hx hb hX hbl hbA hS dL_law_20 ?_
    refine lv_bipush (v := 6) hx hb dL_law_21 (by decide) ?_
    refine lv_isub hx hb dL_law_23 ?_
    exact lv_icmp_gt (tgt := 1197) hx hb dL_law_24 (by decide) (fun _ => fin H locs ls hS) (fun c_1 => absurd (by decide) c_1)
  · skip
    refine lv_iload_n hx hb dL_law_18 rfl (lv_at hl 0 rfl) ?_
    refine lv_aload_n hx hb dL_law_19 rfl (lv_at hl 3 rfl) ?_
    refine va_slen hx hb hX hbl hbA hS dL_law_20 ?_
    refine lv_bipush (v := 6) hx hb dL_law_21 (by decide) ?_
    refine lv_isub hx hb dL_law_23 ?_
    exact lv_icmp_gt (tgt := 1197) hx hb dL_law_24 (by decide) (fun _ => fin H locs ls hS) (fun c_1 => absurd (by decide) c_1)
  · skip
    refine lv_iload_n hx hb dL_law_18 rfl (lv_at hl 0 rfl) ?_
    refine lv_aload_n hx hb dL_law_19 rfl (lv_at hl 3 rfl) ?_
    refine va_slen hx hb hX hbl hbA hS dL_law_20 ?_
    refine lv_bipush (v := 6) hx hb dL_law_21 (by decide) ?_
    refine lv_isub hx hb dL_law_23 ?_
    exact lv_icmp_gt (tgt := 1197) hx hb dL_law_24 (by decide) (fun _ => fin H locs ls hS) (fun c_1 => absurd (by decide) c_1)
  · skip
    refine lv_iload_n hx hb dL_law_18 rfl (lv_at hl 0 rfl) ?_
    refine lv_aload_n hx hb dL_law_19 rfl (lv_at hl 3 rfl) ?_
    refine va_slen hx hb hX hbl hbA hS dL_law_20 ?_
    refine lv_bipush (v := 6) hx hb dL_law_21 (by decide) ?_
    refine lv_isub hx hb dL_law_23 ?_
    exact lv_icmp_gt (tgt := 1197) hx hb dL_law_24 (by decide) (fun _ => fin H locs ls hS) (fun c_1 => absurd (by decide) c_1)
  · skip
    refine lv_iload_n hx hb dL_law_18 rfl (lv_at hl 0 rfl) ?_
    refine lv_aload_n hx hb dL_law_19 rfl (lv_at hl 3 rfl) ?_
    refine va_slen hx hb hX hbl hbA hS dL_law_20 ?_
    refine lv_bipush (v := 6) hx hb dL_law_21 (by decide) ?_
    refine lv_isub hx hb dL_law_23 ?_
    exact lv_icmp_gt (tgt := 1197) hx hb dL_law_24 (by decide) (fun _ => fin H locs ls hS) (fun c_1 => absurd (by decide) c_1)
  · skip
    refine lv_iload_n hx hb dL_law_18 rfl (lv_at hl 0 rfl) ?_
    refine lv_aload_n hx hb dL_law_19 rfl (lv_at hl 3 rfl) ?_
    refine va_slen hx hb hX hbl hbA hS dL_law_20 ?_
    refine lv_bipush (v := 6) hx hb dL_law_21 (by decide) ?_
    refine lv_isub hx hb dL_law_23 ?_
    exact lv_icmp_gt (tgt := 1197) hx hb dL_law_24 (by decide) (fun _ => fin H locs ls hS) (fun c_1 => absurd (by decide) c_1)
  · skip
    refine lv_iload_n hx hb dL_law_18 rfl (lv_at hl 0 rfl) ?_
    refine lv_aload_n hx hb dL_law_19 rfl (lv_at hl 3 rfl) ?_
    refine va_slen hx hb hX hbl hbA hS dL_law_20 ?_
    refine lv_bipush (v := 6) hx hb dL_law_21 (by decide) ?_
    refine lv_isub hx hb dL_law_23 ?_
    refine lv_icmp_gt (tgt := 1197) hx hb dL_law_24 (by decide) (fun c_1 => absurd c_1 (by decide)) (fun _ => ?_)
    have back : ∀ (H : Heap) (locs : List Loc), va_S (fun q => s.heap.size ≤ q) s.heap H locs → W p l e room_1 s m #[Value.ref b] below meth c H locs 56 11906 (lw_Z below #[Value.ref b] s) (F0 m 1191 ls []) := by
      intro H locs hS
      refine lv_iinc (v := 6) (lv' := [(3, .int 6), (2, .ref (bd 0)), (1, .ref (ad 0)), (0, .ref b)]) hx hb dL_law_1191 hl (k := 0) rfl (by decide) (by decide) rfl (fun ls hl => ?_)
      refine lv_goto (tgt := 18) hx hb dL_law_1194 (by decide) ?_
      refine lv_iload_n hx hb dL_law_18 rfl (lv_at hl 0 rfl) ?_
      refine lv_aload_n hx hb dL_law_19 rfl (lv_at hl 3 rfl) ?_
      refine va_slen hx hb hX hbl hbA hS dL_law_20 ?_
      refine lv_bipush (v := 6) hx hb dL_law_21 (by decide) ?_
      refine lv_isub hx hb dL_law_23 ?_
      exact lv_icmp_gt (tgt := 1197) hx hb dL_law_24 (by decide) (fun _ => fin H locs ls hS) (fun c_1 => absurd (by decide) c_1)
    refine lv_aload_n hx hb dL_law_27 rfl (lv_at hl 3 rfl) ?_
    refine lv_iload_n hx hb dL_law_28 rfl (lv_at hl 0 rfl) ?_
    refine va_sld hx hb hX hbl hbA hS (vp_in_iff.mpr (by decide)) dL_law_29 ?_
    refine lv_bipush (v := 63) hx hb dL_law_30 (by decide) ?_
    refine lv_iand hx hb dL_law_32 ?_
    refine lv_topi (fun v ev => ?_)
    clear ev
    rcases sw_cases v 0 33 34 (by decide) with c_1 | ⟨j, hj, ej⟩
    · skip
      refine lv_tableOut (tgt := 1191) hx hb dL_law_33 c_1 (by decide) ?_
      exact back H locs hS
    · skip
      rcases (show j = 0 ∨ j = 1 ∨ j = 2 ∨ j = 3 ∨ j = 4 ∨ j = 5 ∨ j = 6 ∨ j = 7 ∨ j = 8 ∨ j = 9 ∨ j = 10 ∨ j = 11 ∨ j = 12 ∨ j = 13 ∨ j = 14 ∨ j = 15 ∨ j = 16 ∨ j = 17 ∨ j = 18 ∨ j = 19 ∨ j = 20 ∨ j = 21 ∨ j = 22 ∨ j = 23 ∨ j = 24 ∨ j = 25 ∨ j = 26 ∨ j = 27 ∨ j = 28 ∨ j = 29 ∨ j = 30 ∨ j = 31 ∨ j = 32 ∨ j = 33 by omega) with rfl | rfl | rfl | rfl | rfl | rfl | rfl | rfl | rfl | rfl | rfl | rfl | rfl | rfl | rfl | rfl | rfl | rfl | rfl | rfl | rfl | rfl | rfl | rfl | rfl | rfl | rfl | rfl | rfl | rfl | rfl | rfl | rfl | rfl
      · skip
        obtain rfl : v = 0 := ej.trans (by decide)
        refine lv_tableIn (off := 151) (tgt := 184) hx hb dL_law_33 (by decide) (by decide) (by decide) (by decide) ?_
        exact law_feed B hX hbl h hl back
      · skip
        obtain rfl : v = 1 := ej.trans (by decide)
        refine lv_tableIn (off := 214) (tgt := 247) hx hb dL_law_33 (by decide) (by decide) (by decide) (by decide) ?_
        exact law_end B hX hbl h hl back
      · skip
        obtain rfl : v = 2 := ej.trans (by decide)
        refine lv_tableIn (off := 237) (tgt := 270) hx hb dL_law_33 (by decide) (by decide) (by decide) (by decide) ?_
        exact law_complex B hX hbl h hl back
      · skip
        obtain rfl : v = 3 := ej.trans (by decide)
        refine lv_tableIn (off := 250) (tgt := 283) hx hb dL_law_33 (by decide) (by decide) (by decide) (by decide) ?_
        exact law_simplex B hX hbl h hl back
      · skip
        obtain rfl : v = 4 := ej.trans (by decide)
        refine lv_tableIn (off := 283) (tgt := 316) hx hb dL_law_33 (by decide) (by decide) (by decide) (by decide) ?_
        exact law_number B hX hbl h hl back
      · skip
        obtain rfl : v = 5 := ej.trans (by decide)
        refine lv_tableIn (off := 306) (tgt := 339) hx hb dL_law_33 (by decide) (by decide) (by decide) (by decide) ?_
        exact law_sign B hX hbl h hl back
      · skip
        obtain rfl : v = 6 := ej.trans (by decide)
        refine lv_tableIn (off := 339) (tgt := 372) hx hb dL_law_33 (by decide) (by decide) (by decide) (by decide) ?_
        exact law_pair B hX hbl h hl back
      · skip
        obtain rfl : v = 7 := ej.trans (by decide)
        refine lv_tableIn (off := 372) (tgt := 405) hx hb dL_law_33 (by decide) (by decide) (by decide) (by decide) ?_
        exact law_part B hX hbl h hl back
      · skip
        obtain rfl : v = 8 := ej.trans (by decide)
        refine lv_tableIn (off := 395) (tgt := 428) hx hb dL_law_33 (by decide) (by decide) (by decide) (by decide) ?_
        exact law_auto B hX hbl h hl back
      · skip
        obtain rfl : v = 9 := ej.trans (by decide)
        refine lv_tableIn (off := 418) (tgt := 451) hx hb dL_law_33 (by decide) (by decide) (by decide) (by decide) ?_
        exact law_cancel B hX hbl h hl back
      · skip
        obtain rfl : v = 10 := ej.trans (by decide)
        refine lv_tableIn (off := 451) (tgt := 484) hx hb dL_law_33 (by decide) (by decide) (by decide) (by decide) ?_
        exact law_collapse B hX hbl h hl back
      · skip
        obtain rfl : v = 11 := ej.trans (by decide)
        refine lv_tableIn (off := 474) (tgt := 507) hx hb dL_law_33 (by decide) (by decide) (by decide) (by decide) ?_
        exact law_undo B hX hbl h hl back
      · skip
        obtain rfl : v = 12 := ej.trans (by decide)
        refine lv_tableIn (off := 487) (tgt := 520) hx hb dL_law_33 (by decide) (by decide) (by decide) (by decide) ?_
        exact law_critical B hX hbl h hl back
      · skip
        obtain rfl : v = 13 := ej.trans (by decide)
        refine lv_tableIn (off := 520) (tgt := 553) hx hb dL_law_33 (by decide) (by decide) (by decide) (by decide) ?_
        exact law_paths B hX hbl h hl back
      · skip
        obtain rfl : v = 14 := ej.trans (by decide)
        refine lv_tableIn (off := 554) (tgt := 587) hx hb dL_law_33 (by decide) (by decide) (by decide) (by decide) ?_
        exact law_path B hX hbl h hl back
      · skip
        obtain rfl : v = 15 := ej.trans (by decide)
        refine lv_tableIn (off := 607) (tgt := 640) hx hb dL_law_33 (by decide) (by decide) (by decide) (by decide) ?_
        exact law_incidence B hX hbl h hl back
      · skip
        obtain rfl : v = 16 := ej.trans (by decide)
        refine lv_tableIn (off := 641) (tgt := 674) hx hb dL_law_33 (by decide) (by decide) (by decide) (by decide) ?_
        exact law_chain B hX hbl h hl back
      · skip
        obtain rfl : v = 17 := ej.trans (by decide)
        refine lv_tableIn (off := 675) (tgt := 708) hx hb dL_law_33 (by decide) (by decide) (by decide) (by decide) ?_
        exact law_root B hX hbl h hl back
      · skip
        obtain rfl : v = 18 := ej.trans (by decide)
        refine lv_tableIn (off := 708) (tgt := 741) hx hb dL_law_33 (by decide) (by decide) (by decide) (by decide) ?_
        exact law_through B hX hbl h hl back
      · skip
        obtain rfl : v = 19 := ej.trans (by decide)
        refine lv_tableIn (off := 752) (tgt := 785) hx hb dL_law_33 (by decide) (by decide) (by decide) (by decide) ?_
        exact law_squares B hX hbl h hl back
      · skip
        obtain rfl : v = 20 := ej.trans (by decide)
        refine lv_tableIn (off := 765) (tgt := 798) hx hb dL_law_33 (by decide) (by decide) (by decide) (by decide) ?_
        exact law_betti B hX hbl h hl back
      · skip
        obtain rfl : v = 21 := ej.trans (by decide)
        refine lv_tableIn (off := 798) (tgt := 831) hx hb dL_law_33 (by decide) (by decide) (by decide) (by decide) ?_
        exact law_torsion B hX hbl h hl back
      · skip
        obtain rfl : v = 22 := ej.trans (by decide)
        refine lv_tableIn (off := 842) (tgt := 875) hx hb dL_law_33 (by decide) (by decide) (by decide) (by decide) ?_
        exact law_slack B hX hbl h hl back
      · skip
        obtain rfl : v = 23 := ej.trans (by decide)
        refine lv_tableIn (off := 865) (tgt := 898) hx hb dL_law_33 (by decide) (by decide) (by decide) (by decide) ?_
        exact law_free B hX hbl h hl back
      · skip
        obtain rfl : v = 24 := ej.trans (by decide)
        refine lv_tableIn (off := 888) (tgt := 921) hx hb dL_law_33 (by decide) (by decide) (by decide) (by decide) ?_
        exact law_facet B hX hbl h hl back
      · skip
        obtain rfl : v = 25 := ej.trans (by decide)
        refine lv_tableIn (off := 911) (tgt := 944) hx hb dL_law_33 (by decide) (by decide) (by decide) (by decide) ?_
        exact law_link B hX hbl h hl back
      · skip
        obtain rfl : v = 26 := ej.trans (by decide)
        refine lv_tableIn (off := 944) (tgt := 977) hx hb dL_law_33 (by decide) (by decide) (by decide) (by decide) ?_
        exact law_room B hX hbl h hl back
      · skip
        obtain rfl : v = 27 := ej.trans (by decide)
        refine lv_tableIn (off := 967) (tgt := 1000) hx hb dL_law_33 (by decide) (by decide) (by decide) (by decide) ?_
        exact law_draws B hX hbl h hl back
      · skip
        obtain rfl : v = 28 := ej.trans (by decide)
        refine lv_tableIn (off := 990) (tgt := 1023) hx hb dL_law_33 (by decide) (by decide) (by decide) (by decide) ?_
        exact law_drawn B hX hbl h hl back
      · skip
        obtain rfl : v = 29 := ej.trans (by decide)
        refine lv_tableIn (off := 1023) (tgt := 1056) hx hb dL_law_33 (by decide) (by decide) (by decide) (by decide) ?_
        exact law_level B hX hbl h hl back
      · skip
        obtain rfl : v = 30 := ej.trans (by decide)
        refine lv_tableIn (off := 1056) (tgt := 1089) hx hb dL_law_33 (by decide) (by decide) (by decide) (by decide) ?_
        exact law_levelBetti B hX hbl h hl back
      · skip
        obtain rfl : v = 31 := ej.trans (by decide)
        refine lv_tableIn (off := 1089) (tgt := 1122) hx hb dL_law_33 (by decide) (by decide) (by decide) (by decide) ?_
        exact law_keep B hX hbl h hl back
      · skip
        obtain rfl : v = 32 := ej.trans (by decide)
        refine lv_tableIn (off := 1112) (tgt := 1145) hx hb dL_law_33 (by decide) (by decide) (by decide) (by decide) ?_
        exact law_same B hX hbl h hl back
      · skip
        obtain rfl : v = 33 := ej.trans (by decide)
        refine lv_tableIn (off := 1135) (tgt := 1168) hx hb dL_law_33 (by decide) (by decide) (by decide) (by decide) ?_
        exact law_count B hX hbl h hl back
set_option maxHeartbeats 4000000 in
theorem lw_walk (l : Launch) (hflags : l.flags = flags0) (b : Addr) (xs : List Int32) : MetFree l x (headSpec (Jvm.Cond.code x code maxLocals ret :: tables_1) room_1) (lw_P b xs) (fun _ _ _ _ _ => True) lw_Q := by
  refine MetFree.of_bodyS (code := code) (maxLocals := maxLocals) (ret := ret) (by decide) ?_ ?_
  · intro args s m h hn
    obtain ⟨meth, c, h1, h2, h3, h4, h5, h6, -, -⟩ := Cond.code_spec hn (atoms_spec (ws := Jvm.Cond.code x code maxLocals ret :: tables_1) h _ List.mem_cons_self)
    exact ⟨meth, c, h1, h2, h3, h4, h5, h6⟩
  · intro p e s m args below meth c s₁ B hml0 hP _
    obtain ⟨rfl, hx, hbd, hgv⟩ := hP
    obtain ⟨scr, harrAt, hlist, hof, hsmall⟩ := hx
    obtain ⟨hcb, hkn, -, -⟩ := State.arrayAt?_spec harrAt
    have hown : s.vm.findClass R_law = some m.cls := findClass_of_methodNamed B.named
    have hts0 : ∀ c ∈ (Jvm.Cond.code x code maxLocals ret :: tables_1), c.before #[Value.ref b] s = true := atoms_spec (ws := Jvm.Cond.code x code maxLocals ret :: tables_1) B.pre
    have hts : ∀ w ∈ lw_tbl, w.before #[Value.ref b] s = true := k2_hts_sels lw_privs (fun w hw => hts0 w (List.mem_cons_of_mem _ hw)) lw_privs_ok
    have hml : c.maxLocals = 4 := B.maxLocals_eq (hts0 _ List.mem_cons_self)
    have X₀ : Stand p l e room_1 s m #[Value.ref b] below meth c s₁ [] 0 0 := Stand.of_body B
    have hh0 : s₁.heap = s.heap := by rw [B.state]; rfl
    have hsz : scr.slots.size = xs.length := by rw [← Array.length_toList, hlist, List.length_map]
    have hval : ∀ j : Nat, j < xs.length → scr.slots[j]? = some (.int (xs.getD j 0)) := fun j hj => by
      rw [← Array.getElem?_toList, hlist]
      simp [hj]
    have hbl : b < s.heap.size := (Array.getElem?_eq_some_iff.mp hcb).1
    have hX : va_X b xs.length (fun j => xs.getD j 0) s s.heap := ⟨scr, hcb, hof, hkn, hsz, hval⟩
    have K : W p l e room_1 s m #[Value.ref b] below meth c s₁.heap [] 0 0 (lw_Z below #[Value.ref b] s) (entryFrame m ([Value.ref b] : List Value).toArray 4) := by
      rw [hh0]
      exact whole_start l hflags hbd ⟨B.exec, B.bytes, B.returns, hml, hown, hts, hX, hbl, B.notSynchronized, hgv⟩
    obtain ⟨t, a1, o, b1, b2, b3⟩ := K s₁ rfl X₀
    exact ⟨t, o, a1, b1, b2, b3⟩
theorem lw_pre_spec {args : Array Value} {s : State} (h : (Jvm.Cond.and given_1 narrow_1).before args s = true) (hr : rest_1_c.before args s = true) : ∃ (b : Addr) (xs : List Int32), lw_P b xs args s := by
  have hs := flat_of_before _ h
  have hq := flat_of_before _ hr
  have hc : (Cond.count 1).before args s = true := hs _ (by decide +kernel)
  have harr : (Cond.arrayOf (.arg 0) .int).before args s = true := hs _ (by decide +kernel)
  have hle : (Cond.le (.length (.arg 0)) (.int 6)).before args s = true := hs _ (by decide +kernel)
  have hlen : (Cond.isInt (.length (.arg 0))).before args s = true := hq _ (by decide +kernel)
  have hall : (Cond.all (.arg 0) (.isInt (.elem (.arg 0) (.index 0)))).before args s = true := hq _ (by decide +kernel)
  obtain ⟨b, xs, hb, hx⟩ := State.ints_of_pre rfl harr hlen hall
  have hsm : xs.length < 2 ^ 31 := hx.choose_spec.2.2.2
  have hev : (Term.length (.arg 0)).eval args s none [] s = some (.int xs.length.toInt32) := hx.length_eval hb
  have hv := Cond.le_ints hev (show (Term.int 6).eval args s none [] s = some (.int 6) from rfl)
  have hd : xs.length.toInt32 ≤ 6 := by
    simpa [Cond.before, Cond.holds, hv] using hle
  have hN : xs.length ≤ 6 := (Int32.ofNat_le_ofNat hsm (by decide)).mp (show Int32.ofNat xs.length ≤ Int32.ofNat 6 from hd)
  exact ⟨b, xs, Cond.one_arg hc (show args[0]? = some (.ref b) from hb), hx, hN, h⟩
theorem lw_comes (l : Launch) (hflags : l.flags = flags0) : Comes l x (Jvm.Cond.code x code maxLocals ret :: tables_1) room_1 (fun tb e args s => Calls_1 tb e args s ∧ rest_1 tb e args s ∧ Pre_1 tb e args s)
    (fun _ _ args s o t => lw_Q args s o t) := by
  intro p e ha hc hk s m args below hf hfit hheap happ hpre
  obtain ⟨b, xs, hP⟩ := lw_pre_spec hpre.2.2 hpre.2.1
  obtain ⟨k, o, h1, h2, h3, hQ⟩ := lw_walk l hflags b xs p e ha hc hk s m args below hf ((Spec.applies_iff_loose hf).mp happ).1 hP trivial
  exact ⟨k, o, h1, h2, h3, hQ⟩
theorem lw_frame {s t : State} {o : Outcome} {args : Array Value} (h : Framed s o t [] 56 11906) :
    Framed s o t (fieldLocs frame_1_writes args s ++ arrayLocs frame_1_arrays args s ++ staticLocs frame_1_statics s) 56 11906 := h
theorem lw_limb (L : Cond) (hL : ∀ (args : Array Value) (s t : State), L.after args s (.returned (some (.int 1))) t = true) :
    ArmFor flags0 classFile x code maxLocals ret World_1 tables_1 room_1 Calls_1 rest_1 Pre_1
      (fun tb e a s o t => postC L tb e a s o t ∧ Framed s o t (fieldLocs frame_1_writes a s ++ arrayLocs frame_1_arrays a s ++ staticLocs frame_1_statics s) 56 11906) := by
  intro l hflags _ _ p e ha hc hk s m args below hf hfit hheap happ hpre
  obtain ⟨k, o, h1, h2, h3, rfl, hF⟩ := lw_comes l hflags p e ha hc hk s m args below hf hfit hheap happ hpre
  exact ⟨k, _, h1, h2, h3, hL args s _, lw_frame hF⟩
theorem i_vc : Claimed_1_1 ∧ Claimed_1_2 := ⟨lw_limb limb_1_1 (fun args s t => by simp [limb_1_1, Cond.after, Cond.holds, Cond.value]), lw_limb limb_1_2 (fun args s t => Cond.after_iff.mpr (by
  first | (rw [show limb_1_2 = Cond.eq .result (.int 1) from rfl, Cond.eq_ints (x := 1) (y := 1) rfl rfl]; simp; done) | (simp [limb_1_2, Cond.value, Term.eval]; done)))⟩

