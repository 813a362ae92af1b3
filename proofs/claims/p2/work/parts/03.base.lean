/-! ===== contracts over a whole world of cells: what is said, how a body begins and ends, how a call goes on ===== -/
def nwL : List (String × Nat × MethodName × String) := [(RX11, 9, yX10_init, "MorseDesk"), (RX11, 18, yX8_init, "MorseDesk"), (RX0, 25, yX5_init, "MorseDesk"), (RX11, 75, yX3_init, "MorseDesk"), (RX11, 82, yX4_init, "MorseDesk"), (RX9, 41, yX11_bit, "MorseDesk"), (RX6, 61, yX11_isIn, "MorseDesk"), (RX2, 66, yX11_isIn, "MorseDesk"), (RX2, 36, yX11_bit, "MorseDesk"), (RX9, 58, yX11_isIn, "MorseDesk"), (RX6, 39, yX11_bit, "MorseDesk"), (RX6, 77, yX11_lowest, "MorseDesk"), (RX7, 41, yX11_lowest, "MorseDesk"), (RX7, 26, yX11_bit, "MorseDesk"), (RX1, 74, yX11_lowest, "MorseDesk"), (RX1, 45, yX11_isIn, "MorseDesk"), (RX0, 71, yX11_isIn, "MorseDesk"), (RX7, 48, yX11_isDim, "MorseDesk"), (RX4, 30, yX11_bit, "MorseDesk"), (RX9, 67, yX11_lowest, "MorseDesk")]
/-- the links between nest mates, as the tables have them -/
def NW (U : State) : Prop := ∀ q ∈ nwL, va_Nw (.methodLinkNest q.1 q.2.1 q.2.2.1 q.2.2.2) U
theorem NW.warm {s U : State} (hW : s.WarmedH U.vm) (h : NW s) : NW U := fun q hq => va_Nw.warmM hW (h q hq)
theorem NW.same {u U : State} (he : u.vm = U.vm) (h : NW u) : NW U := fun q hq => va_Nw.same rfl he (h q hq)
/-- what a method's body knows of the machine -/
def Bd (p : Program) (s : State) (m : MethodId) (args : Array Value) (meth : Method) (c : Code) (cc : ByteArray) (nL : Nat) (Ts : List Cond) (own : String) (D : va_G) (tys : List (ClassId × FieldType)) : Prop :=
  CallFix p m c cc nL s args Ts own ∧ va_K D vwCl tys s ∧ meth.locks = false ∧ NW s
/-- the heap holds the world; nothing outside A has changed since H0 -/
def Hp (D : va_G) (A : Nat → Prop) (H0 : Heap) (ws : va_W) (H : Heap) (locs : List Loc) : Prop :=
  va_P D vwCl ws H ∧ va_D A ws ∧ va_S A H0 H locs ∧ ∀ q, H0.size ≤ q → A q
def xPre (D : va_G) (tys : List (ClassId × FieldType)) (ws : va_W) (sz : Nat) (U : State) : Prop :=
  U.heap.size = sz ∧ va_P D vwCl ws U.heap ∧ va_K D vwCl tys U ∧ NW U ∧ va_D (fun _ => True) ws
def xEnd (D : va_G) (ws : va_W) (A : Nat → Prop) (t : State) : Prop := va_P D vwCl ws t.heap ∧ va_D A ws
def MetI (l : Launch) (y : MethodName) (wds : List Cond) (fr lo mc ms : Nat) (D : va_G) (tys : List (ClassId × FieldType)) (ws : va_W) (av : List Value) {S : Type} (post : Int32 → S → Prop) (w1 : S → va_W) : Prop :=
  ∀ sz, Met l y wds { frames := fr, cells := mc, slots := ms, locals := lo } (va_Pc av (xPre D tys ws sz)) (va_Qi post (fun u t => xEnd D (w1 u) (va_A ws sz) t) (va_A ws sz)) mc ms (va_A ws sz)
def MetL (l : Launch) (y : MethodName) (wds : List Cond) (fr lo mc ms : Nat) (D : va_G) (tys : List (ClassId × FieldType)) (ws : va_W) (av : List Value) {S : Type} (post : Int64 → S → Prop) (w1 : S → va_W) : Prop :=
  ∀ sz, Met l y wds { frames := fr, cells := mc, slots := ms, locals := lo } (va_Pc av (xPre D tys ws sz)) (va_Ql post (fun u t => xEnd D (w1 u) (va_A ws sz) t) (va_A ws sz)) mc ms (va_A ws sz)
def MetV (l : Launch) (y : MethodName) (wds : List Cond) (fr lo mc ms : Nat) (D : va_G) (tys : List (ClassId × FieldType)) (ws : va_W) (av : List Value) {S : Type} (post : S → Prop) (w1 : S → va_W) : Prop :=
  ∀ sz, Met l y wds { frames := fr, cells := mc, slots := ms, locals := lo } (va_Pc av (xPre D tys ws sz)) (va_Qv post (fun u t => xEnd D (w1 u) (va_A ws sz) t) (va_A ws sz)) mc ms (va_A ws sz)
theorem xPre_blind (D : va_G) (tys : List (ClassId × FieldType)) (ws : va_W) (sz : Nat) (av : List Value) : FrameBlind (va_Pc av (xPre D tys ws sz)) := fun a U g mk q => by
  obtain ⟨q0, q1, qP, qK, qN, qD⟩ := q
  exact ⟨q0, q1, qP, va_K.moved (u := U) (U := U.calling g mk a) (Vm.Alike.refl U.vm) qK, NW.same (u := U) (U := U.calling g mk a) rfl qN, qD⟩
theorem va_D_iff {A : Nat → Prop} {ws : va_W} : va_D A ws ↔ (ws.map (·.1)).Nodup ∧ ∀ q ∈ ws, A q.1 := by
  constructor
  · intro ⟨h1, h2⟩
    refine ⟨?_, fun q hq => ?_⟩
    · rw [List.nodup_iff_pairwise_ne, List.pairwise_iff_getElem]
      intro i j hi hj hij he
      simp only [List.length_map] at hi hj
      simp only [List.getElem_map] at he
      have := h1 i j ws[i] ws[j] (List.getElem?_eq_getElem hi) (List.getElem?_eq_getElem hj) he
      omega
    · obtain ⟨i, hi⟩ := List.getElem?_of_mem hq
      exact h2 i q hi
  · intro ⟨h1, h2⟩
    refine ⟨fun i j p q hp hq he => ?_, fun k q hq => h2 q (List.mem_of_getElem? hq)⟩
    obtain ⟨hi, rfl⟩ := List.getElem?_eq_some_iff.mp hp
    obtain ⟨hj, rfl⟩ := List.getElem?_eq_some_iff.mp hq
    rw [List.nodup_iff_pairwise_ne, List.pairwise_iff_getElem] at h1
    rcases Nat.lt_trichotomy i j with h | h | h
    · have h3 := h1 i j (by simpa using hi) (by simpa using hj) h
      simp only [List.getElem_map] at h3
      exact absurd he h3
    · exact h
    · have h3 := h1 j i (by simpa using hj) (by simpa using hi) h
      simp only [List.getElem_map] at h3
      exact absurd he.symm h3
theorem va_P_iff {D : va_G} {cl : List vw_C} {ws : va_W} {H : Heap} : va_P D cl ws H ↔ ∀ q ∈ ws, va_at D cl q H := by
  constructor
  · intro h q hq
    obtain ⟨i, hi⟩ := List.getElem?_of_mem hq
    exact h i q hi
  · intro h k q hq
    exact h q (List.mem_of_getElem? hq)
theorem va_A_iff {ws : va_W} {sz q : Nat} : va_A ws sz q ↔ (∃ x ∈ ws, x.1 = q) ∨ sz ≤ q := by
  unfold va_A
  constructor
  · rintro (⟨k, e, h⟩ | h)
    · exact Or.inl ⟨_, List.mem_of_getElem? h, rfl⟩
    · exact Or.inr h
  · rintro (⟨x, hx, rfl⟩ | h)
    · obtain ⟨i, hi⟩ := List.getElem?_of_mem hx
      exact Or.inl ⟨i, x.2, hi⟩
    · exact Or.inr h
/-- a callee's cells within the world: what it may write lies in A -/
theorem hp_free {D : va_G} {A : Nat → Prop} {H0 H : Heap} {pre wc post : va_W} {locs : List Loc} (h : Hp D A H0 (pre ++ (wc ++ post)) H locs) : ∀ q, va_A wc H.size q → A q := by
  obtain ⟨-, hD, hS, hA⟩ := h
  intro q hq
  rcases va_A_iff.mp hq with ⟨x, hx, rfl⟩ | h
  · exact (va_D_iff.mp hD).2 x (by simp [hx])
  · exact hA q (Nat.le_trans hS.1 h)
/-- the frame: what the callee gave back stands where its cells stood -/
theorem hp_frame {D : va_G} {A : Nat → Prop} {H0 H H1 : Heap} {pre wc post w1 : va_W} {locs locs1 : List Loc} (h : Hp D A H0 (pre ++ (wc ++ post)) H locs) (hP1 : va_P D vwCl w1 H1) (hD1 : va_D (va_A wc H.size) w1) (hk : ∀ q : Nat, q < H.size → ¬ va_A wc H.size q → H1[q]? = H[q]?) (hS1 : va_S A H0 H1 locs1) : Hp D A H0 (pre ++ (w1 ++ post)) H1 locs1 := by
  have hF := hp_free h
  obtain ⟨hP, hD, hS, hA⟩ := h
  rw [va_P_iff] at hP hP1
  rw [va_D_iff] at hD hD1
  obtain ⟨hn, ha⟩ := hD
  obtain ⟨hn1, ha1⟩ := hD1
  have key : ∀ x, (x ∈ pre ∨ x ∈ post) → x.1 < H.size ∧ ¬ va_A wc H.size x.1 := by
    intro x hx
    have hl : x.1 < H.size := (hP x (by rcases hx with h | h <;> simp [h])).lt
    refine ⟨hl, fun hq => ?_⟩
    rcases va_A_iff.mp hq with ⟨z, hz, he⟩ | h
    · simp only [List.map_append, List.nodup_append] at hn
      obtain ⟨n1, ⟨n2, n3, n4⟩, n5⟩ := hn
      rcases hx with h | h
      · exact n5 x.1 (List.mem_map.mpr ⟨x, h, rfl⟩) z.1 (List.mem_append_left _ (List.mem_map.mpr ⟨z, hz, rfl⟩)) he.symm
      · exact n4 z.1 (List.mem_map.mpr ⟨z, hz, rfl⟩) x.1 (List.mem_map.mpr ⟨x, h, rfl⟩) he
    · omega
  refine ⟨va_P_iff.mpr fun q hq => ?_, va_D_iff.mpr ⟨?_, fun q hq => ?_⟩, hS1, hA⟩
  · simp only [List.mem_append] at hq
    rcases hq with h | h | h
    · obtain ⟨k1, k2⟩ := key q (Or.inl h)
      exact (hP q (by simp [h])).kept (hk q.1 k1 k2)
    · exact hP1 q h
    · obtain ⟨k1, k2⟩ := key q (Or.inr h)
      exact (hP q (by simp [h])).kept (hk q.1 k1 k2)
  · simp only [List.map_append, List.nodup_append] at hn ⊢
    obtain ⟨n1, ⟨n2, n3, n4⟩, n5⟩ := hn
    refine ⟨n1, ⟨hn1, n3, fun a ha' b hb he => ?_⟩, fun a ha' b hb he => ?_⟩
    · obtain ⟨x, hx, rfl⟩ := List.mem_map.mp ha'
      obtain ⟨z, hz, rfl⟩ := List.mem_map.mp hb
      exact (key z (Or.inr hz)).2 (he ▸ ha1 x hx)
    · obtain ⟨x, hx, rfl⟩ := List.mem_map.mp ha'
      rcases List.mem_append.mp hb with h | h
      · obtain ⟨z, hz, rfl⟩ := List.mem_map.mp h
        exact (key x (Or.inl hx)).2 (he ▸ ha1 z hz)
      · exact n5 x.1 ha' b (List.mem_append_right _ h) he
  · simp only [List.mem_append] at hq
    rcases hq with h | h | h
    · exact ha q (by simp [h])
    · exact hF q.1 (ha1 q h)
    · exact ha q (by simp [h])

section BASE
variable {p : Program} {l : Launch} {e : Env} {R : Room} {s : State} {m : MethodId} {args : Array Value} {below : List Frame} {meth : Method} {c : Code} {H : Heap} {locs : List Loc} {cells slots : Nat} {Q : State → Prop}
variable {cc : ByteArray} {nL pc : Nat} {Ts : List Cond} {own : String} {D : va_G} {tys : List (ClassId × FieldType)} {A : Nat → Prop} {H0 : Heap} {ls : Array Slot} {rest st0 : List Value}
variable {y : MethodName} {bytes : ByteArray} {maxL mc ms n index fr lo : Nat} {ret : Option FieldType} {wds wds' : List Cond} {C host : String} {b : Addr} {As : List Value} {pre wc post ws : va_W} {q0 ci N : Nat} {T : u_T} {fs : List Value}
theorem x_preS (B : Bd p s m args meth c cc nL Ts own D tys) (hP : va_P D vwCl wc H) (hD : va_D A wc) (av : List Value) : PreS s H (va_Pc av (xPre D tys wc H.size)) av :=
  ⟨xPre_blind _ _ _ _ _, fun U hU hW => ⟨rfl, by rw [hU], by rw [hU]; exact hP, va_K.moved hW.alike B.2.1, NW.warm hW B.2.2.2, hD.weaken (fun _ _ _ _ => trivial)⟩⟩
theorem hp_part (h : Hp D A H0 (pre ++ (wc ++ post)) H locs) : va_P D vwCl wc H ∧ va_D A wc := by
  obtain ⟨hP, hD, -, -⟩ := h
  refine ⟨va_P_iff.mpr fun q hq => va_P_iff.mp hP q (by simp [hq]), va_D_iff.mpr ⟨?_, fun q hq => (va_D_iff.mp hD).2 q (by simp [hq])⟩⟩
  have hn := (va_D_iff.mp hD).1
  simp only [List.map_append, List.nodup_append] at hn
  exact hn.2.1.1
theorem x_goI {S : Type} {po : Int32 → S → Prop} {w1 : S → va_W} {a : Array Value} (h : Hp D A H0 (pre ++ (wc ++ post)) H locs)
    (hr : va_Run p l e R s m args below meth c H locs cells slots mc ms (F0 m pc ls st0) rest (va_Qi po (fun u t => xEnd D (w1 u) (va_A wc H.size) t) (va_A wc H.size) a) (va_A wc H.size))
    (kk : ∀ (r : Int32) (u : S) (H1 : Heap) (locs1 : List Loc), po r u → Hp D A H0 (pre ++ (w1 u ++ post)) H1 locs1 → W p l e R s m args below meth c H1 locs1 (cells + mc) (slots + ms) Q (F0 m (pc + 3) ls (.int r :: rest))) : W p l e R s m args below meth c H locs cells slots Q (F0 m pc ls st0) := by
  have hF := hp_free h
  refine va_calli hr h.2.2.1 (fun q _ hq => hF q hq) hF (fun r u t H1 locs1 ht hvm hw hB hz1 hk1 hS1 => ?_)
  obtain ⟨hP1, hD1⟩ := hB
  rw [ht] at hP1
  exact kk r u H1 locs1 hw (hp_frame h hP1 hD1 hk1 hS1)
theorem x_goL {S : Type} {po : Int64 → S → Prop} {w1 : S → va_W} {a : Array Value} (h : Hp D A H0 (pre ++ (wc ++ post)) H locs)
    (hr : va_Run p l e R s m args below meth c H locs cells slots mc ms (F0 m pc ls st0) rest (va_Ql po (fun u t => xEnd D (w1 u) (va_A wc H.size) t) (va_A wc H.size) a) (va_A wc H.size))
    (kk : ∀ (r : Int64) (u : S) (H1 : Heap) (locs1 : List Loc), po r u → Hp D A H0 (pre ++ (w1 u ++ post)) H1 locs1 → W p l e R s m args below meth c H1 locs1 (cells + mc) (slots + ms) Q (F0 m (pc + 3) ls (.long r :: rest))) : W p l e R s m args below meth c H locs cells slots Q (F0 m pc ls st0) := by
  have hF := hp_free h
  refine va_calll hr h.2.2.1 (fun q _ hq => hF q hq) hF (fun r u t H1 locs1 ht hvm hw hB hz1 hk1 hS1 => ?_)
  obtain ⟨hP1, hD1⟩ := hB
  rw [ht] at hP1
  exact kk r u H1 locs1 hw (hp_frame h hP1 hD1 hk1 hS1)
theorem x_goV {S : Type} {po : S → Prop} {w1 : S → va_W} {a : Array Value} (h : Hp D A H0 (pre ++ (wc ++ post)) H locs)
    (hr : va_Run p l e R s m args below meth c H locs cells slots mc ms (F0 m pc ls st0) rest (va_Qv po (fun u t => xEnd D (w1 u) (va_A wc H.size) t) (va_A wc H.size) a) (va_A wc H.size))
    (kk : ∀ (u : S) (H1 : Heap) (locs1 : List Loc), po u → Hp D A H0 (pre ++ (w1 u ++ post)) H1 locs1 → W p l e R s m args below meth c H1 locs1 (cells + mc) (slots + ms) Q (F0 m (pc + 3) ls rest)) : W p l e R s m args below meth c H locs cells slots Q (F0 m pc ls st0) := by
  have hF := hp_free h
  refine va_callv hr h.2.2.1 (fun q _ hq => hF q hq) hF (fun u t H1 locs1 ht hvm hw hB hz1 hk1 hS1 => ?_)
  obtain ⟨hP1, hD1⟩ := hB
  rw [ht] at hP1
  exact kk u H1 locs1 hw (hp_frame h hP1 hD1 hk1 hS1)
/-- what a call asks of its callee: name, room, code -/
def CW (R : Room) (y : MethodName) (wds : List Cond) (bytes : ByteArray) (maxL : Nat) (ret : Option FieldType) (fr lo n : Nat) : Prop :=
  (∃ wds', wds = Cond.code y bytes maxL ret :: wds') ∧ (y.cls ≠ "java/lang/invoke/MethodHandle" ∧ y.cls ≠ "java/lang/invoke/VarHandle" ∧ (parseMethodDescriptor y.desc).map (fun d => d.parameters.length) = some n) ∧ fr + 1 ≤ R.frames ∧ 8 + (maxL + 11) + lo ≤ R.locals
theorem x_cVI {S : Type} {po : Int32 → S → Prop} {w1 : S → va_W} (B : Bd p s m args meth c cc nL Ts own D tys) (h : Hp D A H0 (pre ++ (wc ++ post)) H locs) (hM : MetI l y wds fr lo mc ms D tys wc (.ref b :: As) po w1)
    (hcw : CW R y wds bytes maxL ret fr lo n) (hG : GoodIn Ts (wsV own index y.cls y wds)) (he : wc[q0]? = some (b, .inr (ci, fs))) (hc : vwCl[ci]? = some (y.cls, T, N)) (hn : As.length = n) (hsize : ls.size = nL) (hstack : st0 = As.reverse ++ .ref b :: rest) (hW : (rest.map fun v => v.category).sum ≤ 8) (hdg : decode cc pc = .ok (.invokevirtual index, 3)) (hf : cells + mc ≤ R.cells ∧ slots + ms ≤ R.slots)
    (kk : ∀ (r : Int32) (u : S) (H1 : Heap) (locs1 : List Loc), po r u → Hp D A H0 (pre ++ (w1 u ++ post)) H1 locs1 → W p l e R s m args below meth c H1 locs1 (cells + mc) (slots + ms) Q (F0 m (pc + 3) ls (.int r :: rest))) : W p l e R s m args below meth c H locs cells slots Q (F0 m pc ls st0) := by
  obtain ⟨⟨wds', hw⟩, hd, hR⟩ := hcw
  obtain ⟨hP, hD⟩ := hp_part h
  exact x_goI h (va_runV (C := y.cls) (rest := rest) B.1 (hM H.size) (cwV n B.1.2.2.2.2 hG hw rfl rfl ⟨rfl, hd⟩ hR) ⟨(x_preS B hP hD _).1, va_recv B.2.1 hP hc he, (x_preS B hP hD (.ref b :: As)).2⟩ rfl hn hsize hstack (lv_room hW) hdg hf) kk
theorem x_cVIF {S : Type} {po : Int32 → S → Prop} {w1 : S → va_W} (B : Bd p s m args meth c cc nL Ts own D tys) (h : Hp D A H0 wc H locs) (hM : MetI l y wds fr lo mc ms D tys wc (.ref b :: As) po w1)
    (hcw : CW R y wds bytes maxL ret fr lo n) (hG : GoodIn Ts (wsV own index y.cls y wds)) (he : wc[q0]? = some (b, .inr (ci, fs))) (hc : vwCl[ci]? = some (y.cls, T, N)) (hn : As.length = n) (hsize : ls.size = nL) (hstack : st0 = As.reverse ++ .ref b :: rest) (hW : (rest.map fun v => v.category).sum ≤ 8) (hdg : decode cc pc = .ok (.invokevirtual index, 3)) (hf : cells + mc ≤ R.cells ∧ slots + ms ≤ R.slots)
    (kk : ∀ (r : Int32) (u : S) (H1 : Heap) (locs1 : List Loc), po r u → Hp D A H0 (w1 u) H1 locs1 → W p l e R s m args below meth c H1 locs1 (cells + mc) (slots + ms) Q (F0 m (pc + 3) ls (.int r :: rest))) : W p l e R s m args below meth c H locs cells slots Q (F0 m pc ls st0) := by
  have h' : Hp D A H0 ([] ++ (wc ++ [])) H locs := by rw [List.nil_append, List.append_nil]; exact h
  refine x_cVI B h' hM hcw hG he hc hn hsize hstack hW hdg hf ?_
  intro r u H1 locs1 hp h1
  rw [List.nil_append, List.append_nil] at h1
  exact kk r u H1 locs1 hp h1
theorem x_cVL {S : Type} {po : Int64 → S → Prop} {w1 : S → va_W} (B : Bd p s m args meth c cc nL Ts own D tys) (h : Hp D A H0 (pre ++ (wc ++ post)) H locs) (hM : MetL l y wds fr lo mc ms D tys wc (.ref b :: As) po w1)
    (hcw : CW R y wds bytes maxL ret fr lo n) (hG : GoodIn Ts (wsV own index y.cls y wds)) (he : wc[q0]? = some (b, .inr (ci, fs))) (hc : vwCl[ci]? = some (y.cls, T, N)) (hn : As.length = n) (hsize : ls.size = nL) (hstack : st0 = As.reverse ++ .ref b :: rest) (hW : (rest.map fun v => v.category).sum ≤ 8) (hdg : decode cc pc = .ok (.invokevirtual index, 3)) (hf : cells + mc ≤ R.cells ∧ slots + ms ≤ R.slots)
    (kk : ∀ (r : Int64) (u : S) (H1 : Heap) (locs1 : List Loc), po r u → Hp D A H0 (pre ++ (w1 u ++ post)) H1 locs1 → W p l e R s m args below meth c H1 locs1 (cells + mc) (slots + ms) Q (F0 m (pc + 3) ls (.long r :: rest))) : W p l e R s m args below meth c H locs cells slots Q (F0 m pc ls st0) := by
  obtain ⟨⟨wds', hw⟩, hd, hR⟩ := hcw
  obtain ⟨hP, hD⟩ := hp_part h
  exact x_goL h (va_runV (C := y.cls) (rest := rest) B.1 (hM H.size) (cwV n B.1.2.2.2.2 hG hw rfl rfl ⟨rfl, hd⟩ hR) ⟨(x_preS B hP hD _).1, va_recv B.2.1 hP hc he, (x_preS B hP hD (.ref b :: As)).2⟩ rfl hn hsize hstack (lv_room hW) hdg hf) kk
theorem x_cVLF {S : Type} {po : Int64 → S → Prop} {w1 : S → va_W} (B : Bd p s m args meth c cc nL Ts own D tys) (h : Hp D A H0 wc H locs) (hM : MetL l y wds fr lo mc ms D tys wc (.ref b :: As) po w1)
    (hcw : CW R y wds bytes maxL ret fr lo n) (hG : GoodIn Ts (wsV own index y.cls y wds)) (he : wc[q0]? = some (b, .inr (ci, fs))) (hc : vwCl[ci]? = some (y.cls, T, N)) (hn : As.length = n) (hsize : ls.size = nL) (hstack : st0 = As.reverse ++ .ref b :: rest) (hW : (rest.map fun v => v.category).sum ≤ 8) (hdg : decode cc pc = .ok (.invokevirtual index, 3)) (hf : cells + mc ≤ R.cells ∧ slots + ms ≤ R.slots)
    (kk : ∀ (r : Int64) (u : S) (H1 : Heap) (locs1 : List Loc), po r u → Hp D A H0 (w1 u) H1 locs1 → W p l e R s m args below meth c H1 locs1 (cells + mc) (slots + ms) Q (F0 m (pc + 3) ls (.long r :: rest))) : W p l e R s m args below meth c H locs cells slots Q (F0 m pc ls st0) := by
  have h' : Hp D A H0 ([] ++ (wc ++ [])) H locs := by rw [List.nil_append, List.append_nil]; exact h
  refine x_cVL B h' hM hcw hG he hc hn hsize hstack hW hdg hf ?_
  intro r u H1 locs1 hp h1
  rw [List.nil_append, List.append_nil] at h1
  exact kk r u H1 locs1 hp h1
theorem x_cVV {S : Type} {po : S → Prop} {w1 : S → va_W} (B : Bd p s m args meth c cc nL Ts own D tys) (h : Hp D A H0 (pre ++ (wc ++ post)) H locs) (hM : MetV l y wds fr lo mc ms D tys wc (.ref b :: As) po w1)
    (hcw : CW R y wds bytes maxL none fr lo n) (hG : GoodIn Ts (wsV own index y.cls y wds)) (he : wc[q0]? = some (b, .inr (ci, fs))) (hc : vwCl[ci]? = some (y.cls, T, N)) (hn : As.length = n) (hsize : ls.size = nL) (hstack : st0 = As.reverse ++ .ref b :: rest) (hW : (rest.map fun v => v.category).sum ≤ 8) (hdg : decode cc pc = .ok (.invokevirtual index, 3)) (hf : cells + mc ≤ R.cells ∧ slots + ms ≤ R.slots)
    (kk : ∀ (u : S) (H1 : Heap) (locs1 : List Loc), po u → Hp D A H0 (pre ++ (w1 u ++ post)) H1 locs1 → W p l e R s m args below meth c H1 locs1 (cells + mc) (slots + ms) Q (F0 m (pc + 3) ls rest)) : W p l e R s m args below meth c H locs cells slots Q (F0 m pc ls st0) := by
  obtain ⟨⟨wds', hw⟩, hd, hR⟩ := hcw
  obtain ⟨hP, hD⟩ := hp_part h
  exact x_goV h (va_runV (C := y.cls) (rest := rest) B.1 (hM H.size) (cwV n B.1.2.2.2.2 hG hw rfl rfl ⟨rfl, hd⟩ hR) ⟨(x_preS B hP hD _).1, va_recv B.2.1 hP hc he, (x_preS B hP hD (.ref b :: As)).2⟩ rfl hn hsize hstack (lv_room hW) hdg hf) kk
theorem x_cVVF {S : Type} {po : S → Prop} {w1 : S → va_W} (B : Bd p s m args meth c cc nL Ts own D tys) (h : Hp D A H0 wc H locs) (hM : MetV l y wds fr lo mc ms D tys wc (.ref b :: As) po w1)
    (hcw : CW R y wds bytes maxL none fr lo n) (hG : GoodIn Ts (wsV own index y.cls y wds)) (he : wc[q0]? = some (b, .inr (ci, fs))) (hc : vwCl[ci]? = some (y.cls, T, N)) (hn : As.length = n) (hsize : ls.size = nL) (hstack : st0 = As.reverse ++ .ref b :: rest) (hW : (rest.map fun v => v.category).sum ≤ 8) (hdg : decode cc pc = .ok (.invokevirtual index, 3)) (hf : cells + mc ≤ R.cells ∧ slots + ms ≤ R.slots)
    (kk : ∀ (u : S) (H1 : Heap) (locs1 : List Loc), po u → Hp D A H0 (w1 u) H1 locs1 → W p l e R s m args below meth c H1 locs1 (cells + mc) (slots + ms) Q (F0 m (pc + 3) ls rest)) : W p l e R s m args below meth c H locs cells slots Q (F0 m pc ls st0) := by
  have h' : Hp D A H0 ([] ++ (wc ++ [])) H locs := by rw [List.nil_append, List.append_nil]; exact h
  refine x_cVV B h' hM hcw hG he hc hn hsize hstack hW hdg hf ?_
  intro u H1 locs1 hp h1
  rw [List.nil_append, List.append_nil] at h1
  exact kk u H1 locs1 hp h1
theorem x_cSI {S : Type} {po : Int32 → S → Prop} {w1 : S → va_W} (B : Bd p s m args meth c cc nL Ts own D tys) (h : Hp D A H0 (pre ++ (wc ++ post)) H locs) (hM : MetI l y wds fr lo mc ms D tys wc As po w1)
    (hcw : CW R y wds bytes maxL ret fr lo n) (hG : GoodIn Ts (va_wsS own index y wds)) (hn : As.length = n) (hsize : ls.size = nL) (hstack : st0 = As.reverse ++ rest) (hW : (rest.map fun v => v.category).sum ≤ 8) (hdg : decode cc pc = .ok (.invokestatic index, 3)) (hf : cells + mc ≤ R.cells ∧ slots + ms ≤ R.slots)
    (kk : ∀ (r : Int32) (u : S) (H1 : Heap) (locs1 : List Loc), po r u → Hp D A H0 (pre ++ (w1 u ++ post)) H1 locs1 → W p l e R s m args below meth c H1 locs1 (cells + mc) (slots + ms) Q (F0 m (pc + 3) ls (.int r :: rest))) : W p l e R s m args below meth c H locs cells slots Q (F0 m pc ls st0) := by
  obtain ⟨⟨wds', hw⟩, hd, hR⟩ := hcw
  obtain ⟨hP, hD⟩ := hp_part h
  exact x_goI h (va_runS (rest := rest) B.1 (hM H.size) (va_cwS n B.1.2.2.2.2 hG hw rfl rfl hd hR) (x_preS B hP hD As) rfl hn hsize hstack (lv_room hW) hdg hf) kk
theorem x_cSIF {S : Type} {po : Int32 → S → Prop} {w1 : S → va_W} (B : Bd p s m args meth c cc nL Ts own D tys) (h : Hp D A H0 wc H locs) (hM : MetI l y wds fr lo mc ms D tys wc As po w1)
    (hcw : CW R y wds bytes maxL ret fr lo n) (hG : GoodIn Ts (va_wsS own index y wds)) (hn : As.length = n) (hsize : ls.size = nL) (hstack : st0 = As.reverse ++ rest) (hW : (rest.map fun v => v.category).sum ≤ 8) (hdg : decode cc pc = .ok (.invokestatic index, 3)) (hf : cells + mc ≤ R.cells ∧ slots + ms ≤ R.slots)
    (kk : ∀ (r : Int32) (u : S) (H1 : Heap) (locs1 : List Loc), po r u → Hp D A H0 (w1 u) H1 locs1 → W p l e R s m args below meth c H1 locs1 (cells + mc) (slots + ms) Q (F0 m (pc + 3) ls (.int r :: rest))) : W p l e R s m args below meth c H locs cells slots Q (F0 m pc ls st0) := by
  have h' : Hp D A H0 ([] ++ (wc ++ [])) H locs := by rw [List.nil_append, List.append_nil]; exact h
  refine x_cSI B h' hM hcw hG hn hsize hstack hW hdg hf ?_
  intro r u H1 locs1 hp h1
  rw [List.nil_append, List.append_nil] at h1
  exact kk r u H1 locs1 hp h1
theorem x_cSIE {S : Type} {po : Int32 → S → Prop} (B : Bd p s m args meth c cc nL Ts own D tys) (h : Hp D A H0 ws H locs) (hM : MetI l y wds fr lo mc ms D tys [] As po (fun _ => []))
    (hcw : CW R y wds bytes maxL ret fr lo n) (hG : GoodIn Ts (va_wsS own index y wds)) (hn : As.length = n) (hsize : ls.size = nL) (hstack : st0 = As.reverse ++ rest) (hW : (rest.map fun v => v.category).sum ≤ 8) (hdg : decode cc pc = .ok (.invokestatic index, 3)) (hf : cells + mc ≤ R.cells ∧ slots + ms ≤ R.slots)
    (kk : ∀ (r : Int32) (u : S) (H1 : Heap) (locs1 : List Loc), po r u → Hp D A H0 ws H1 locs1 → W p l e R s m args below meth c H1 locs1 (cells + mc) (slots + ms) Q (F0 m (pc + 3) ls (.int r :: rest))) : W p l e R s m args below meth c H locs cells slots Q (F0 m pc ls st0) :=
  x_cSI (pre := []) (wc := []) (post := ws) B h hM hcw hG hn hsize hstack hW hdg hf kk
theorem x_cSL {S : Type} {po : Int64 → S → Prop} {w1 : S → va_W} (B : Bd p s m args meth c cc nL Ts own D tys) (h : Hp D A H0 (pre ++ (wc ++ post)) H locs) (hM : MetL l y wds fr lo mc ms D tys wc As po w1)
    (hcw : CW R y wds bytes maxL ret fr lo n) (hG : GoodIn Ts (va_wsS own index y wds)) (hn : As.length = n) (hsize : ls.size = nL) (hstack : st0 = As.reverse ++ rest) (hW : (rest.map fun v => v.category).sum ≤ 8) (hdg : decode cc pc = .ok (.invokestatic index, 3)) (hf : cells + mc ≤ R.cells ∧ slots + ms ≤ R.slots)
    (kk : ∀ (r : Int64) (u : S) (H1 : Heap) (locs1 : List Loc), po r u → Hp D A H0 (pre ++ (w1 u ++ post)) H1 locs1 → W p l e R s m args below meth c H1 locs1 (cells + mc) (slots + ms) Q (F0 m (pc + 3) ls (.long r :: rest))) : W p l e R s m args below meth c H locs cells slots Q (F0 m pc ls st0) := by
  obtain ⟨⟨wds', hw⟩, hd, hR⟩ := hcw
  obtain ⟨hP, hD⟩ := hp_part h
  exact x_goL h (va_runS (rest := rest) B.1 (hM H.size) (va_cwS n B.1.2.2.2.2 hG hw rfl rfl hd hR) (x_preS B hP hD As) rfl hn hsize hstack (lv_room hW) hdg hf) kk
theorem x_cSLF {S : Type} {po : Int64 → S → Prop} {w1 : S → va_W} (B : Bd p s m args meth c cc nL Ts own D tys) (h : Hp D A H0 wc H locs) (hM : MetL l y wds fr lo mc ms D tys wc As po w1)
    (hcw : CW R y wds bytes maxL ret fr lo n) (hG : GoodIn Ts (va_wsS own index y wds)) (hn : As.length = n) (hsize : ls.size = nL) (hstack : st0 = As.reverse ++ rest) (hW : (rest.map fun v => v.category).sum ≤ 8) (hdg : decode cc pc = .ok (.invokestatic index, 3)) (hf : cells + mc ≤ R.cells ∧ slots + ms ≤ R.slots)
    (kk : ∀ (r : Int64) (u : S) (H1 : Heap) (locs1 : List Loc), po r u → Hp D A H0 (w1 u) H1 locs1 → W p l e R s m args below meth c H1 locs1 (cells + mc) (slots + ms) Q (F0 m (pc + 3) ls (.long r :: rest))) : W p l e R s m args below meth c H locs cells slots Q (F0 m pc ls st0) := by
  have h' : Hp D A H0 ([] ++ (wc ++ [])) H locs := by rw [List.nil_append, List.append_nil]; exact h
  refine x_cSL B h' hM hcw hG hn hsize hstack hW hdg hf ?_
  intro r u H1 locs1 hp h1
  rw [List.nil_append, List.append_nil] at h1
  exact kk r u H1 locs1 hp h1
theorem x_cSLE {S : Type} {po : Int64 → S → Prop} (B : Bd p s m args meth c cc nL Ts own D tys) (h : Hp D A H0 ws H locs) (hM : MetL l y wds fr lo mc ms D tys [] As po (fun _ => []))
    (hcw : CW R y wds bytes maxL ret fr lo n) (hG : GoodIn Ts (va_wsS own index y wds)) (hn : As.length = n) (hsize : ls.size = nL) (hstack : st0 = As.reverse ++ rest) (hW : (rest.map fun v => v.category).sum ≤ 8) (hdg : decode cc pc = .ok (.invokestatic index, 3)) (hf : cells + mc ≤ R.cells ∧ slots + ms ≤ R.slots)
    (kk : ∀ (r : Int64) (u : S) (H1 : Heap) (locs1 : List Loc), po r u → Hp D A H0 ws H1 locs1 → W p l e R s m args below meth c H1 locs1 (cells + mc) (slots + ms) Q (F0 m (pc + 3) ls (.long r :: rest))) : W p l e R s m args below meth c H locs cells slots Q (F0 m pc ls st0) :=
  x_cSL (pre := []) (wc := []) (post := ws) B h hM hcw hG hn hsize hstack hW hdg hf kk
theorem x_cSV {S : Type} {po : S → Prop} {w1 : S → va_W} (B : Bd p s m args meth c cc nL Ts own D tys) (h : Hp D A H0 (pre ++ (wc ++ post)) H locs) (hM : MetV l y wds fr lo mc ms D tys wc As po w1)
    (hcw : CW R y wds bytes maxL none fr lo n) (hG : GoodIn Ts (va_wsS own index y wds)) (hn : As.length = n) (hsize : ls.size = nL) (hstack : st0 = As.reverse ++ rest) (hW : (rest.map fun v => v.category).sum ≤ 8) (hdg : decode cc pc = .ok (.invokestatic index, 3)) (hf : cells + mc ≤ R.cells ∧ slots + ms ≤ R.slots)
    (kk : ∀ (u : S) (H1 : Heap) (locs1 : List Loc), po u → Hp D A H0 (pre ++ (w1 u ++ post)) H1 locs1 → W p l e R s m args below meth c H1 locs1 (cells + mc) (slots + ms) Q (F0 m (pc + 3) ls rest)) : W p l e R s m args below meth c H locs cells slots Q (F0 m pc ls st0) := by
  obtain ⟨⟨wds', hw⟩, hd, hR⟩ := hcw
  obtain ⟨hP, hD⟩ := hp_part h
  exact x_goV h (va_runS (rest := rest) B.1 (hM H.size) (va_cwS n B.1.2.2.2.2 hG hw rfl rfl hd hR) (x_preS B hP hD As) rfl hn hsize hstack (lv_room hW) hdg hf) kk
theorem x_cSVF {S : Type} {po : S → Prop} {w1 : S → va_W} (B : Bd p s m args meth c cc nL Ts own D tys) (h : Hp D A H0 wc H locs) (hM : MetV l y wds fr lo mc ms D tys wc As po w1)
    (hcw : CW R y wds bytes maxL none fr lo n) (hG : GoodIn Ts (va_wsS own index y wds)) (hn : As.length = n) (hsize : ls.size = nL) (hstack : st0 = As.reverse ++ rest) (hW : (rest.map fun v => v.category).sum ≤ 8) (hdg : decode cc pc = .ok (.invokestatic index, 3)) (hf : cells + mc ≤ R.cells ∧ slots + ms ≤ R.slots)
    (kk : ∀ (u : S) (H1 : Heap) (locs1 : List Loc), po u → Hp D A H0 (w1 u) H1 locs1 → W p l e R s m args below meth c H1 locs1 (cells + mc) (slots + ms) Q (F0 m (pc + 3) ls rest)) : W p l e R s m args below meth c H locs cells slots Q (F0 m pc ls st0) := by
  have h' : Hp D A H0 ([] ++ (wc ++ [])) H locs := by rw [List.nil_append, List.append_nil]; exact h
  refine x_cSV B h' hM hcw hG hn hsize hstack hW hdg hf ?_
  intro u H1 locs1 hp h1
  rw [List.nil_append, List.append_nil] at h1
  exact kk u H1 locs1 hp h1
theorem x_cSVE {S : Type} {po : S → Prop} (B : Bd p s m args meth c cc nL Ts own D tys) (h : Hp D A H0 ws H locs) (hM : MetV l y wds fr lo mc ms D tys [] As po (fun _ => []))
    (hcw : CW R y wds bytes maxL none fr lo n) (hG : GoodIn Ts (va_wsS own index y wds)) (hn : As.length = n) (hsize : ls.size = nL) (hstack : st0 = As.reverse ++ rest) (hW : (rest.map fun v => v.category).sum ≤ 8) (hdg : decode cc pc = .ok (.invokestatic index, 3)) (hf : cells + mc ≤ R.cells ∧ slots + ms ≤ R.slots)
    (kk : ∀ (u : S) (H1 : Heap) (locs1 : List Loc), po u → Hp D A H0 ws H1 locs1 → W p l e R s m args below meth c H1 locs1 (cells + mc) (slots + ms) Q (F0 m (pc + 3) ls rest)) : W p l e R s m args below meth c H locs cells slots Q (F0 m pc ls st0) :=
  x_cSV (pre := []) (wc := []) (post := ws) B h hM hcw hG hn hsize hstack hW hdg hf kk
theorem x_cNI {S : Type} {po : Int32 → S → Prop} {w1 : S → va_W} (B : Bd p s m args meth c cc nL Ts own D tys) (h : Hp D A H0 (pre ++ (wc ++ post)) H locs) (hM : MetI l y wds fr lo mc ms D tys wc As po w1)
    (hcw : CW R y wds bytes maxL ret fr lo n) (hG : GoodIn Ts wds) (hst : Cond.static y ∈ Ts) (hini : Cond.initialized y.cls ∈ Ts) (hnl : (own, index, y, host) ∈ nwL) (hn : As.length = n) (hsize : ls.size = nL) (hstack : st0 = As.reverse ++ rest) (hW : (rest.map fun v => v.category).sum ≤ 8) (hdg : decode cc pc = .ok (.invokestatic index, 3)) (hf : cells + mc ≤ R.cells ∧ slots + ms ≤ R.slots)
    (kk : ∀ (r : Int32) (u : S) (H1 : Heap) (locs1 : List Loc), po r u → Hp D A H0 (pre ++ (w1 u ++ post)) H1 locs1 → W p l e R s m args below meth c H1 locs1 (cells + mc) (slots + ms) Q (F0 m (pc + 3) ls (.int r :: rest))) : W p l e R s m args below meth c H locs cells slots Q (F0 m pc ls st0) := by
  obtain ⟨⟨wds', hw⟩, hd, hR⟩ := hcw
  obtain ⟨hP, hD⟩ := hp_part h
  exact x_goI h (va_runSN (rest := rest) B.1 (hM H.size) ⟨va_cnB n B.1.2.2.2.2 hG hw rfl rfl (B.2.2.2 _ hnl) (B.1.2.2.2.2 _ hini) hd hR, B.1.2.2.2.2 _ hst, trivial⟩ (x_preS B hP hD As) rfl hn hsize hstack (lv_room hW) hdg hf) kk
theorem x_cNIF {S : Type} {po : Int32 → S → Prop} {w1 : S → va_W} (B : Bd p s m args meth c cc nL Ts own D tys) (h : Hp D A H0 wc H locs) (hM : MetI l y wds fr lo mc ms D tys wc As po w1)
    (hcw : CW R y wds bytes maxL ret fr lo n) (hG : GoodIn Ts wds) (hst : Cond.static y ∈ Ts) (hini : Cond.initialized y.cls ∈ Ts) (hnl : (own, index, y, host) ∈ nwL) (hn : As.length = n) (hsize : ls.size = nL) (hstack : st0 = As.reverse ++ rest) (hW : (rest.map fun v => v.category).sum ≤ 8) (hdg : decode cc pc = .ok (.invokestatic index, 3)) (hf : cells + mc ≤ R.cells ∧ slots + ms ≤ R.slots)
    (kk : ∀ (r : Int32) (u : S) (H1 : Heap) (locs1 : List Loc), po r u → Hp D A H0 (w1 u) H1 locs1 → W p l e R s m args below meth c H1 locs1 (cells + mc) (slots + ms) Q (F0 m (pc + 3) ls (.int r :: rest))) : W p l e R s m args below meth c H locs cells slots Q (F0 m pc ls st0) := by
  have h' : Hp D A H0 ([] ++ (wc ++ [])) H locs := by rw [List.nil_append, List.append_nil]; exact h
  refine x_cNI B h' hM hcw hG hst hini hnl hn hsize hstack hW hdg hf ?_
  intro r u H1 locs1 hp h1
  rw [List.nil_append, List.append_nil] at h1
  exact kk r u H1 locs1 hp h1
theorem x_cNIE {S : Type} {po : Int32 → S → Prop} (B : Bd p s m args meth c cc nL Ts own D tys) (h : Hp D A H0 ws H locs) (hM : MetI l y wds fr lo mc ms D tys [] As po (fun _ => []))
    (hcw : CW R y wds bytes maxL ret fr lo n) (hG : GoodIn Ts wds) (hst : Cond.static y ∈ Ts) (hini : Cond.initialized y.cls ∈ Ts) (hnl : (own, index, y, host) ∈ nwL) (hn : As.length = n) (hsize : ls.size = nL) (hstack : st0 = As.reverse ++ rest) (hW : (rest.map fun v => v.category).sum ≤ 8) (hdg : decode cc pc = .ok (.invokestatic index, 3)) (hf : cells + mc ≤ R.cells ∧ slots + ms ≤ R.slots)
    (kk : ∀ (r : Int32) (u : S) (H1 : Heap) (locs1 : List Loc), po r u → Hp D A H0 ws H1 locs1 → W p l e R s m args below meth c H1 locs1 (cells + mc) (slots + ms) Q (F0 m (pc + 3) ls (.int r :: rest))) : W p l e R s m args below meth c H locs cells slots Q (F0 m pc ls st0) :=
  x_cNI (pre := []) (wc := []) (post := ws) B h hM hcw hG hst hini hnl hn hsize hstack hW hdg hf kk
theorem x_cNL {S : Type} {po : Int64 → S → Prop} {w1 : S → va_W} (B : Bd p s m args meth c cc nL Ts own D tys) (h : Hp D A H0 (pre ++ (wc ++ post)) H locs) (hM : MetL l y wds fr lo mc ms D tys wc As po w1)
    (hcw : CW R y wds bytes maxL ret fr lo n) (hG : GoodIn Ts wds) (hst : Cond.static y ∈ Ts) (hini : Cond.initialized y.cls ∈ Ts) (hnl : (own, index, y, host) ∈ nwL) (hn : As.length = n) (hsize : ls.size = nL) (hstack : st0 = As.reverse ++ rest) (hW : (rest.map fun v => v.category).sum ≤ 8) (hdg : decode cc pc = .ok (.invokestatic index, 3)) (hf : cells + mc ≤ R.cells ∧ slots + ms ≤ R.slots)
    (kk : ∀ (r : Int64) (u : S) (H1 : Heap) (locs1 : List Loc), po r u → Hp D A H0 (pre ++ (w1 u ++ post)) H1 locs1 → W p l e R s m args below meth c H1 locs1 (cells + mc) (slots + ms) Q (F0 m (pc + 3) ls (.long r :: rest))) : W p l e R s m args below meth c H locs cells slots Q (F0 m pc ls st0) := by
  obtain ⟨⟨wds', hw⟩, hd, hR⟩ := hcw
  obtain ⟨hP, hD⟩ := hp_part h
  exact x_goL h (va_runSN (rest := rest) B.1 (hM H.size) ⟨va_cnB n B.1.2.2.2.2 hG hw rfl rfl (B.2.2.2 _ hnl) (B.1.2.2.2.2 _ hini) hd hR, B.1.2.2.2.2 _ hst, trivial⟩ (x_preS B hP hD As) rfl hn hsize hstack (lv_room hW) hdg hf) kk
theorem x_cNLF {S : Type} {po : Int64 → S → Prop} {w1 : S → va_W} (B : Bd p s m args meth c cc nL Ts own D tys) (h : Hp D A H0 wc H locs) (hM : MetL l y wds fr lo mc ms D tys wc As po w1)
    (hcw : CW R y wds bytes maxL ret fr lo n) (hG : GoodIn Ts wds) (hst : Cond.static y ∈ Ts) (hini : Cond.initialized y.cls ∈ Ts) (hnl : (own, index, y, host) ∈ nwL) (hn : As.length = n) (hsize : ls.size = nL) (hstack : st0 = As.reverse ++ rest) (hW : (rest.map fun v => v.category).sum ≤ 8) (hdg : decode cc pc = .ok (.invokestatic index, 3)) (hf : cells + mc ≤ R.cells ∧ slots + ms ≤ R.slots)
    (kk : ∀ (r : Int64) (u : S) (H1 : Heap) (locs1 : List Loc), po r u → Hp D A H0 (w1 u) H1 locs1 → W p l e R s m args below meth c H1 locs1 (cells + mc) (slots + ms) Q (F0 m (pc + 3) ls (.long r :: rest))) : W p l e R s m args below meth c H locs cells slots Q (F0 m pc ls st0) := by
  have h' : Hp D A H0 ([] ++ (wc ++ [])) H locs := by rw [List.nil_append, List.append_nil]; exact h
  refine x_cNL B h' hM hcw hG hst hini hnl hn hsize hstack hW hdg hf ?_
  intro r u H1 locs1 hp h1
  rw [List.nil_append, List.append_nil] at h1
  exact kk r u H1 locs1 hp h1
theorem x_cNLE {S : Type} {po : Int64 → S → Prop} (B : Bd p s m args meth c cc nL Ts own D tys) (h : Hp D A H0 ws H locs) (hM : MetL l y wds fr lo mc ms D tys [] As po (fun _ => []))
    (hcw : CW R y wds bytes maxL ret fr lo n) (hG : GoodIn Ts wds) (hst : Cond.static y ∈ Ts) (hini : Cond.initialized y.cls ∈ Ts) (hnl : (own, index, y, host) ∈ nwL) (hn : As.length = n) (hsize : ls.size = nL) (hstack : st0 = As.reverse ++ rest) (hW : (rest.map fun v => v.category).sum ≤ 8) (hdg : decode cc pc = .ok (.invokestatic index, 3)) (hf : cells + mc ≤ R.cells ∧ slots + ms ≤ R.slots)
    (kk : ∀ (r : Int64) (u : S) (H1 : Heap) (locs1 : List Loc), po r u → Hp D A H0 ws H1 locs1 → W p l e R s m args below meth c H1 locs1 (cells + mc) (slots + ms) Q (F0 m (pc + 3) ls (.long r :: rest))) : W p l e R s m args below meth c H locs cells slots Q (F0 m pc ls st0) :=
  x_cNL (pre := []) (wc := []) (post := ws) B h hM hcw hG hst hini hnl hn hsize hstack hW hdg hf kk
theorem x_cIV {S : Type} {po : S → Prop} {w1 : S → va_W} (B : Bd p s m args meth c cc nL Ts own D tys) (h : Hp D A H0 (pre ++ (wc ++ post)) H locs) (hM : MetV l y wds fr lo mc ms D tys wc (.ref b :: As) po w1)
    (hcw : CW R y wds bytes maxL none fr lo n) (hG : GoodIn Ts wds) (hini : Cond.initialized y.cls ∈ Ts) (hl : Cond.methodLink own index y ∈ Ts) (hin : Cond.instanceMethod y ∈ Ts) (hy1 : y.name = "<init>") (hn : As.length = n) (hsize : ls.size = nL) (hstack : st0 = As.reverse ++ .ref b :: rest) (hW : (rest.map fun v => v.category).sum ≤ 8) (hdg : decode cc pc = .ok (.invokespecial index, 3)) (hf : cells + mc ≤ R.cells ∧ slots + ms ≤ R.slots)
    (kk : ∀ (u : S) (H1 : Heap) (locs1 : List Loc), po u → Hp D A H0 (pre ++ (w1 u ++ post)) H1 locs1 → W p l e R s m args below meth c H1 locs1 (cells + mc) (slots + ms) Q (F0 m (pc + 3) ls rest)) : W p l e R s m args below meth c H locs cells slots Q (F0 m pc ls st0) := by
  obtain ⟨⟨wds', hw⟩, hd, hR⟩ := hcw
  obtain ⟨hP, hD⟩ := hp_part h
  exact x_goV h (va_runI (rest := rest) B.1 (hM H.size) (cwI n B.1.2.2.2.2 hG hw rfl rfl (B.1.2.2.2.2 _ hini) (B.1.2.2.2.2 _ hl) (B.1.2.2.2.2 _ hin) hy1 hd hR) (x_preS B hP hD (.ref b :: As)) rfl hn hsize hstack (lv_room hW) hdg hf) kk
theorem x_cIVF {S : Type} {po : S → Prop} {w1 : S → va_W} (B : Bd p s m args meth c cc nL Ts own D tys) (h : Hp D A H0 wc H locs) (hM : MetV l y wds fr lo mc ms D tys wc (.ref b :: As) po w1)
    (hcw : CW R y wds bytes maxL none fr lo n) (hG : GoodIn Ts wds) (hini : Cond.initialized y.cls ∈ Ts) (hl : Cond.methodLink own index y ∈ Ts) (hin : Cond.instanceMethod y ∈ Ts) (hy1 : y.name = "<init>") (hn : As.length = n) (hsize : ls.size = nL) (hstack : st0 = As.reverse ++ .ref b :: rest) (hW : (rest.map fun v => v.category).sum ≤ 8) (hdg : decode cc pc = .ok (.invokespecial index, 3)) (hf : cells + mc ≤ R.cells ∧ slots + ms ≤ R.slots)
    (kk : ∀ (u : S) (H1 : Heap) (locs1 : List Loc), po u → Hp D A H0 (w1 u) H1 locs1 → W p l e R s m args below meth c H1 locs1 (cells + mc) (slots + ms) Q (F0 m (pc + 3) ls rest)) : W p l e R s m args below meth c H locs cells slots Q (F0 m pc ls st0) := by
  have h' : Hp D A H0 ([] ++ (wc ++ [])) H locs := by rw [List.nil_append, List.append_nil]; exact h
  refine x_cIV B h' hM hcw hG hini hl hin hy1 hn hsize hstack hW hdg hf ?_
  intro u H1 locs1 hp h1
  rw [List.nil_append, List.append_nil] at h1
  exact kk u H1 locs1 hp h1
theorem x_cJV {S : Type} {po : S → Prop} {w1 : S → va_W} (B : Bd p s m args meth c cc nL Ts own D tys) (h : Hp D A H0 (pre ++ (wc ++ post)) H locs) (hM : MetV l y wds fr lo mc ms D tys wc (.ref b :: As) po w1)
    (hcw : CW R y wds bytes maxL none fr lo n) (hG : GoodIn Ts wds) (hini : Cond.initialized y.cls ∈ Ts) (hnl : (own, index, y, host) ∈ nwL) (hin : Cond.instanceMethod y ∈ Ts) (hy1 : y.name = "<init>") (hn : As.length = n) (hsize : ls.size = nL) (hstack : st0 = As.reverse ++ .ref b :: rest) (hW : (rest.map fun v => v.category).sum ≤ 8) (hdg : decode cc pc = .ok (.invokespecial index, 3)) (hf : cells + mc ≤ R.cells ∧ slots + ms ≤ R.slots)
    (kk : ∀ (u : S) (H1 : Heap) (locs1 : List Loc), po u → Hp D A H0 (pre ++ (w1 u ++ post)) H1 locs1 → W p l e R s m args below meth c H1 locs1 (cells + mc) (slots + ms) Q (F0 m (pc + 3) ls rest)) : W p l e R s m args below meth c H locs cells slots Q (F0 m pc ls st0) := by
  obtain ⟨⟨wds', hw⟩, hd, hR⟩ := hcw
  obtain ⟨hP, hD⟩ := hp_part h
  exact x_goV h (va_runIN (rest := rest) B.1 (hM H.size) ⟨va_cnB n B.1.2.2.2.2 hG hw rfl rfl (B.2.2.2 _ hnl) (B.1.2.2.2.2 _ hini) hd hR, hy1, B.1.2.2.2.2 _ hin⟩ (x_preS B hP hD (.ref b :: As)) rfl hn hsize hstack (lv_room hW) hdg hf) kk
theorem x_cJVF {S : Type} {po : S → Prop} {w1 : S → va_W} (B : Bd p s m args meth c cc nL Ts own D tys) (h : Hp D A H0 wc H locs) (hM : MetV l y wds fr lo mc ms D tys wc (.ref b :: As) po w1)
    (hcw : CW R y wds bytes maxL none fr lo n) (hG : GoodIn Ts wds) (hini : Cond.initialized y.cls ∈ Ts) (hnl : (own, index, y, host) ∈ nwL) (hin : Cond.instanceMethod y ∈ Ts) (hy1 : y.name = "<init>") (hn : As.length = n) (hsize : ls.size = nL) (hstack : st0 = As.reverse ++ .ref b :: rest) (hW : (rest.map fun v => v.category).sum ≤ 8) (hdg : decode cc pc = .ok (.invokespecial index, 3)) (hf : cells + mc ≤ R.cells ∧ slots + ms ≤ R.slots)
    (kk : ∀ (u : S) (H1 : Heap) (locs1 : List Loc), po u → Hp D A H0 (w1 u) H1 locs1 → W p l e R s m args below meth c H1 locs1 (cells + mc) (slots + ms) Q (F0 m (pc + 3) ls rest)) : W p l e R s m args below meth c H locs cells slots Q (F0 m pc ls st0) := by
  have h' : Hp D A H0 ([] ++ (wc ++ [])) H locs := by rw [List.nil_append, List.append_nil]; exact h
  refine x_cJV B h' hM hcw hG hini hnl hin hy1 hn hsize hstack hW hdg hf ?_
  intro u H1 locs1 hp h1
  rw [List.nil_append, List.append_nil] at h1
  exact kk u H1 locs1 hp h1
theorem x_startI {S : Type} {po : Int32 → S → Prop} {w1 : S → va_W} {ty : FieldType} {av : List Value} (hy : plainName y.cls = true) (hw : wds = Cond.code y cc maxL (some ty) :: wds') (hlen : (lg_sl av).length ≤ maxL)
    (body : ∀ (p : Program) (e : Env) (s : State) (m : MethodId) (args : Array Value) (below : List Frame) (meth : Method) (c : Code) (A : Nat → Prop) (ls : Array Slot), Bd p s m args meth c cc maxL wds y.cls D tys → meth.sig.returnType = (some ty) → meth.name = y.name → Hp D A s.heap ws s.heap [] → lv_has ls maxL (lv_args 0 av) →
      W p l e { frames := fr, cells := mc, slots := ms, locals := lo } s m args below meth c s.heap [] 0 0 (MQ below (va_Qi po (fun u t => xEnd D (w1 u) A t) A) args s mc ms A) (F0 m 0 ls [])) : MetI l y wds fr lo mc ms D tys ws av po w1 := by
  intro sz
  refine Met.ofW (cc := cc) (maxL := maxL) (ret := (some ty)) hy hw ?_
  intro p e s m args below meth c s₁ B hml hv
  obtain ⟨rfl, hsz, hP, hK, hN, hD0⟩ := hv
  subst hsz
  have hl := lv_entry av (n := maxL) hlen
  rw [lg_entry_eq]
  exact body p e s m _ below meth c _ _ ⟨⟨B.exec, B.bytes, hml, findClass_of_methodNamed B.named, atoms_spec (ws := wds) B.pre⟩, hK, B.notSynchronized, hN⟩ B.returns (name_of_methodNamed B.named B.method).1 ⟨hP, hD0.self (sz := s.heap.size), va_S.rf, fun q hq => Or.inr hq⟩ hl
theorem x_startL {S : Type} {po : Int64 → S → Prop} {w1 : S → va_W} {ty : FieldType} {av : List Value} (hy : plainName y.cls = true) (hw : wds = Cond.code y cc maxL (some .long) :: wds') (hlen : (lg_sl av).length ≤ maxL)
    (body : ∀ (p : Program) (e : Env) (s : State) (m : MethodId) (args : Array Value) (below : List Frame) (meth : Method) (c : Code) (A : Nat → Prop) (ls : Array Slot), Bd p s m args meth c cc maxL wds y.cls D tys → meth.sig.returnType = (some .long) → meth.name = y.name → Hp D A s.heap ws s.heap [] → lv_has ls maxL (lv_args 0 av) →
      W p l e { frames := fr, cells := mc, slots := ms, locals := lo } s m args below meth c s.heap [] 0 0 (MQ below (va_Ql po (fun u t => xEnd D (w1 u) A t) A) args s mc ms A) (F0 m 0 ls [])) : MetL l y wds fr lo mc ms D tys ws av po w1 := by
  intro sz
  refine Met.ofW (cc := cc) (maxL := maxL) (ret := (some .long)) hy hw ?_
  intro p e s m args below meth c s₁ B hml hv
  obtain ⟨rfl, hsz, hP, hK, hN, hD0⟩ := hv
  subst hsz
  have hl := lv_entry av (n := maxL) hlen
  rw [lg_entry_eq]
  exact body p e s m _ below meth c _ _ ⟨⟨B.exec, B.bytes, hml, findClass_of_methodNamed B.named, atoms_spec (ws := wds) B.pre⟩, hK, B.notSynchronized, hN⟩ B.returns (name_of_methodNamed B.named B.method).1 ⟨hP, hD0.self (sz := s.heap.size), va_S.rf, fun q hq => Or.inr hq⟩ hl
theorem x_startV {S : Type} {po : S → Prop} {w1 : S → va_W} {ty : FieldType} {av : List Value} (hy : plainName y.cls = true) (hw : wds = Cond.code y cc maxL none :: wds') (hlen : (lg_sl av).length ≤ maxL)
    (body : ∀ (p : Program) (e : Env) (s : State) (m : MethodId) (args : Array Value) (below : List Frame) (meth : Method) (c : Code) (A : Nat → Prop) (ls : Array Slot), Bd p s m args meth c cc maxL wds y.cls D tys → meth.sig.returnType = none → meth.name = y.name → Hp D A s.heap ws s.heap [] → lv_has ls maxL (lv_args 0 av) →
      W p l e { frames := fr, cells := mc, slots := ms, locals := lo } s m args below meth c s.heap [] 0 0 (MQ below (va_Qv po (fun u t => xEnd D (w1 u) A t) A) args s mc ms A) (F0 m 0 ls [])) : MetV l y wds fr lo mc ms D tys ws av po w1 := by
  intro sz
  refine Met.ofW (cc := cc) (maxL := maxL) (ret := none) hy hw ?_
  intro p e s m args below meth c s₁ B hml hv
  obtain ⟨rfl, hsz, hP, hK, hN, hD0⟩ := hv
  subst hsz
  have hl := lv_entry av (n := maxL) hlen
  rw [lg_entry_eq]
  exact body p e s m _ below meth c _ _ ⟨⟨B.exec, B.bytes, hml, findClass_of_methodNamed B.named, atoms_spec (ws := wds) B.pre⟩, hK, B.notSynchronized, hN⟩ B.returns (name_of_methodNamed B.named B.method).1 ⟨hP, hD0.self (sz := s.heap.size), va_S.rf, fun q hq => Or.inr hq⟩ hl
theorem x_iret {S : Type} {po : Int32 → S → Prop} {w1 : S → va_W} {ty : FieldType} {v : Int32} (u : S) (B : Bd p s m args meth c cc nL Ts own D tys) (h : Hp D A s.heap (w1 u) H locs) (hr : meth.sig.returnType = some ty) (hn : narrow ty (.int v) = .int v) (hp : po v u) (hdg : decode cc pc = .ok (.ireturn, 1)) :
    W p l e R s m args below meth c H locs cells slots (MQ below (va_Qi po (fun u t => xEnd D (w1 u) A t) A) args s cells slots A) (F0 m pc ls [.int v]) := by
  obtain ⟨hP, hD, hS, hA⟩ := h
  exact W.zret B.1.1 B.1.2.1 hr hn (fun t ht hW => ⟨⟨v, u, rfl, hp, by rw [ht]; exact hP, hD⟩, hS.F ht⟩) hS.2.2 hdg B.2.2.1
theorem x_lret {S : Type} {po : Int64 → S → Prop} {w1 : S → va_W} {v : Int64} (u : S) (B : Bd p s m args meth c cc nL Ts own D tys) (h : Hp D A s.heap (w1 u) H locs) (hr : meth.sig.returnType = some .long) (hp : po v u) (hdg : decode cc pc = .ok (.lreturn, 1)) :
    W p l e R s m args below meth c H locs cells slots (MQ below (va_Ql po (fun u t => xEnd D (w1 u) A t) A) args s cells slots A) (F0 m pc ls [.long v]) := by
  obtain ⟨hP, hD, hS, hA⟩ := h
  exact W.lret B.1.1 B.1.2.1 hr (fun t ht hW => ⟨⟨v, u, rfl, hp, by rw [ht]; exact hP, hD⟩, hS.F ht⟩) hS.2.2 hdg B.2.2.1
theorem x_vret {S : Type} {po : S → Prop} {w1 : S → va_W} (u : S) (B : Bd p s m args meth c cc nL Ts own D tys) (h : Hp D A s.heap (w1 u) H locs) (hr : meth.sig.returnType = none) (hp : po u) (hdg : decode cc pc = .ok (.return_, 1)) :
    W p l e R s m args below meth c H locs cells slots (MQ below (va_Qv po (fun u t => xEnd D (w1 u) A t) A) args s cells slots A) (F0 m pc ls []) := by
  obtain ⟨hP, hD, hS, hA⟩ := h
  exact W.vret B.1.1 B.1.2.1 hr (fun t ht hW => ⟨⟨u, rfl, hp, by rw [ht]; exact hP, hD⟩, hS.F ht⟩) hS.2.2 hdg B.2.2.1
theorem x_get {a : Nat} {v : Value} (B : Bd p s m args meth c cc nL Ts own D tys) (h : Hp D A H0 ws H locs) (hin : ∀ w ∈ u_ws C T N, w ∈ Ts) (q0 k : Nat) (he : ws[q0]? = some (a, .inr (ci, fs))) (hc : vwCl[ci]? = some (C, T, N)) (hk : k < N) (hl : Cond.fieldLink own index (T k).1 (T k).2.1 (T k).2.2.1 ∈ Ts) (hv : fs[k]? = some v) (hdg : decode cc pc = .ok (.getfield index, 3))
    (kk : W p l e R s m args below meth c H locs cells slots Q (F0 m (pc + 3) ls (v :: rest))) : W p l e R s m args below meth c H locs cells slots Q (F0 m pc ls (.ref a :: rest)) :=
  va_get (D := D) B.1.1 B.1.2.1 B.1.2.2.2.2 hin B.1.2.2.2.1 B.2.1 h.1 q0 he hc k hk (B.1.2.2.2.2 _ hl) (fun _ h9 => h9) hv hdg kk
theorem x_put {a : Nat} {v : Value} {ty : FieldType} (B : Bd p s m args meth c cc nL Ts own D tys) (h : Hp D A H0 ws H locs) (hin : ∀ w ∈ u_ws C T N, w ∈ Ts) (ty0 : Nat → FieldType) (hty : ∀ k, k < N → parseFieldDescriptor (T k).2.2.1 = some (ty0 k)) (hnm : ∀ a, a < N → ∀ b, b < N → a ≠ b → (T a).2.1 ≠ (T b).2.1) (q0 k : Nat) (he : ws[q0]? = some (a, .inr (ci, fs))) (hc : vwCl[ci]? = some (C, T, N)) (hk : k < N) (hl : Cond.fieldLink own index (T k).1 (T k).2.1 (T k).2.2.1 ∈ Ts) (hfin : (T k).2.2.2 = false) (hd : ty0 k = ty) (hn : narrow ty v = v) (hfit : fits ty v = true) (hlen : k < fs.length) (hdg : decode cc pc = .ok (.putfield index, 3))
    (kk : ∀ (H1 : Heap) (locs1 : List Loc), Hp D A H0 (ws.set q0 (a, .inr (ci, fs.set k v))) H1 locs1 → W p l e R s m args below meth c H1 locs1 cells slots Q (F0 m (pc + 3) ls rest)) : W p l e R s m args below meth c H locs cells slots Q (F0 m pc ls (v :: .ref a :: rest)) :=
  va_put (D := D) B.1.1 B.1.2.1 B.1.2.2.2.2 hin ty0 hty hnm B.1.2.2.2.1 B.2.1 h.1 h.2.1 h.2.2.1 q0 he hc k hk (B.1.2.2.2.2 _ hl) (fun _ h9 => h9) hfin (by rw [hty k hk, hd]) hn hfit hlen hdg (fun H1 locs1 hP hD hS => kk H1 locs1 ⟨hP, hD, hS, h.2.2.2⟩)
theorem x_putF {a : Nat} {v : Value} {ty : FieldType} (B : Bd p s m args meth c cc nL Ts own D tys) (h : Hp D A H0 ws H locs) (hin : ∀ w ∈ u_ws C T N, w ∈ Ts) (ty0 : Nat → FieldType) (hty : ∀ k, k < N → parseFieldDescriptor (T k).2.2.1 = some (ty0 k)) (hnm : ∀ a, a < N → ∀ b, b < N → a ≠ b → (T a).2.1 ≠ (T b).2.1) (q0 k : Nat) (he : ws[q0]? = some (a, .inr (ci, fs))) (hc : vwCl[ci]? = some (C, T, N)) (hk : k < N) (hl : Cond.fieldLink own index (T k).1 (T k).2.1 (T k).2.2.1 ∈ Ts) (hfin : (T k).2.2.2 = true) (hname : meth.name = "<init>") (hdecl : (T k).1 = own) (hd : ty0 k = ty) (hn : narrow ty v = v) (hfit : fits ty v = true) (hlen : k < fs.length) (hdg : decode cc pc = .ok (.putfield index, 3))
    (kk : ∀ (H1 : Heap) (locs1 : List Loc), Hp D A H0 (ws.set q0 (a, .inr (ci, fs.set k v))) H1 locs1 → W p l e R s m args below meth c H1 locs1 cells slots Q (F0 m (pc + 3) ls rest)) : W p l e R s m args below meth c H locs cells slots Q (F0 m pc ls (v :: .ref a :: rest)) :=
  va_putF (D := D) B.1.1 B.1.2.1 B.1.2.2.2.2 hin ty0 hty hnm B.1.2.2.2.1 B.2.1 h.1 h.2.1 h.2.2.1 q0 he hc k hk (B.1.2.2.2.2 _ hl) (fun _ h9 => h9) hfin hname hdecl (by rw [hty k hk, hd]) hn hfit hlen hdg (fun H1 locs1 hP hD hS => kk H1 locs1 ⟨hP, hD, hS, h.2.2.2⟩)
end BASE
