/-! ===== a method of a class of the library some of whose methods are run otherwise (Math): its own name has no such row ===== -/
theorem wF_ofW {l : Launch} {y : MethodName} {ws ws' : List Cond} {rm : Room} {Pc : Array Value → State → Prop} {Qc : Array Value → State → Outcome → State → Prop} {mc ms : Nat} {free : Addr → Prop} {cc : ByteArray} {maxL : Nat} {ret : Option FieldType}
    (hy : plainFor y = true) (hw : ws = Cond.code y cc maxL ret :: ws')
    (body : ∀ p e s m args below meth c s₁, BodyLoose p l y (headSpec ws rm) cc maxL ret e s m args below meth c s₁ → c.maxLocals = maxL → Pc args s →
      W p l e (headSpec ws rm).room s m args below meth c s.heap [] 0 0 (MQ below Qc args s mc ms free) (entryFrame m args maxL)) : Met l y ws rm Pc Qc mc ms free := by
  refine MetFree.of_bodySF (code := cc) (maxLocals := maxL) (ret := ret) hy ?_ ?_
  · intro args s m h hn
    obtain ⟨meth, c, h1, h2, h3, h4, h5, h6, -, -⟩ := Cond.code_spec hn (atoms_spec (ws := ws) h _ (by rw [hw]; exact List.mem_cons_self))
    exact ⟨meth, c, h1, h2, h3, h4, h5, h6⟩
  · intro p e s m args below meth c s₁ B hml hP _
    have hh0 : s₁.heap = s.heap := by rw [B.state]; rfl
    obtain ⟨t, a1, o, b1, b2, b3⟩ := body p e s m args below meth c s₁ B hml hP s₁ hh0 (Stand.of_body B)
    exact ⟨t, o, a1, b1, b2, ⟨b3.1, b3.2⟩⟩
theorem xF_startL {l : Launch} {y : MethodName} {wds wds' : List Cond} {cc : ByteArray} {maxL fr lo mc ms : Nat} {D : va_G} {tys : List (ClassId × FieldType)} {ws : va_W} {S : Type} {po : Int64 → S → Prop} {w1 : S → va_W} {ty : FieldType} {av : List Value} (hy : plainFor y = true) (hw : wds = Cond.code y cc maxL (some .long) :: wds') (hlen : (lg_sl av).length ≤ maxL)
    (body : ∀ (p : Program) (e : Env) (s : State) (m : MethodId) (args : Array Value) (below : List Frame) (meth : Method) (c : Code) (A : Nat → Prop) (ls : Array Slot), Bd p s m args meth c cc maxL wds y.cls D tys → meth.sig.returnType = (some .long) → meth.name = y.name → Hp D A s.heap ws s.heap [] → lv_has ls maxL (lv_args 0 av) →
      W p l e { frames := fr, cells := mc, slots := ms, locals := lo } s m args below meth c s.heap [] 0 0 (MQ below (va_Ql po (fun u t => xEnd D (w1 u) A t) A) args s mc ms A) (F0 m 0 ls [])) : MetL l y wds fr lo mc ms D tys ws av po w1 := by
  intro sz
  refine wF_ofW (cc := cc) (maxL := maxL) (ret := (some .long)) hy hw ?_
  intro p e s m args below meth c s₁ B hml hv
  obtain ⟨rfl, hsz, hP, hK, hN, hD0⟩ := hv
  subst hsz
  have hl := lv_entry av (n := maxL) hlen
  rw [lg_entry_eq]
  exact body p e s m _ below meth c _ _ ⟨⟨B.exec, B.bytes, hml, findClass_of_methodNamed B.named, atoms_spec (ws := wds) B.pre⟩, hK, B.notSynchronized, hN⟩ B.returns (name_of_methodNamed B.named B.method).1 ⟨hP, hD0.self (sz := s.heap.size), va_S.rf, fun q hq => Or.inr hq⟩ hl
def wbJ9_floorMod_f86c9_0 (rec : Nat → (Nat → Int32) → (Nat → Int64) → (Int64 → Prop) → Prop) (k : Nat) (li : Nat → Int32) (lj : Nat → Int64) (Q : Int64 → Prop) : Prop :=
  ((¬ (lj 2) = 0) ∧ (∀ v_1 : Int64, v_1 = ((lj 0) - (lj 0) / (lj 2) * (lj 2)) → (∀ v_2 : Int64, v_2 = ((lj 0) ^^^ (lj 2)) → (∀ v_3 : Int32, v_3 = (lg_cmp v_2 0) → (((0 : Int32) ≤ v_3) → rec 1 li (uI lj 4 v_1) Q) ∧ (¬ ((0 : Int32) ≤ v_3) → (∀ v_5 : Int32, v_5 = (lg_cmp v_1 0) → ((v_5 = 0) → rec 1 li (uI lj 4 v_1) Q) ∧ (¬ (v_5 = 0) → (∀ v_7 : Int64, v_7 = (v_1 + (lj 2)) → Q v_7))))))))
def wbJ9_floorMod_f86c9_1 (rec : Nat → (Nat → Int32) → (Nat → Int64) → (Int64 → Prop) → Prop) (k : Nat) (li : Nat → Int32) (lj : Nat → Int64) (Q : Int64 → Prop) : Prop :=
  Q (lj 4)
def wpJ9_floorMod_f86c9 : Nat → Nat → (Nat → Int32) → (Nat → Int64) → (Int64 → Prop) → Prop
  | 0, _, _, _, _ => False
  | k + 1, 0, li, lj, Q => wbJ9_floorMod_f86c9_0 (wpJ9_floorMod_f86c9 k) k li lj Q
  | k + 1, 1, li, lj, Q => wbJ9_floorMod_f86c9_1 (wpJ9_floorMod_f86c9 k) k li lj Q
  | _ + 1, _, _, _, _ => False
def wqJ9_floorMod_f86c9 (k : Nat) (a0 : Int64) (a1 : Int64) (Q : Int64 → Prop) : Prop := wpJ9_floorMod_f86c9 k 0 (fun _ => 0) (uI (uI (fun _ => 0) 0 a0) 2 a1) Q
set_option maxHeartbeats 8000000 in
set_option maxRecDepth 100000 in
theorem wkJ9_floorMod_f86c9 (l : Launch) (D : va_G) (cI cJ cB cZ : ClassId) (ad : Nat → Nat) (k : Nat) (a0 : Int64) (a1 : Int64) (Q : Int64 → Prop) (hR : wqJ9_floorMod_f86c9 k a0 a1 Q) : MetL l yJ9_floorMod_f86c9 wsJ9_floorMod_f86c9 0 0 0 0 D (TYS cI cJ cB cZ) [] [.long a0, .long a1] (fun r _ => Q r) (fun _ : Unit => []) := by
  refine xF_startL (ty := .long) (cc := cJ9_floorMod_f86c9) (by decide +kernel) rfl (Nat.le_of_ble_eq_true rfl) ?_
  intro p e s m args below meth c A ls B hr hnm h hl
  have hx := B.1.1
  have hb := B.1.2.1
  have hml := B.1.2.2.1
  have hts := B.1.2.2.2.2
  have hown : s.vm.findClass RJ9 = some m.cls := B.1.2.2.2.1
  have main : ∀ k : Nat, (∀ (li : Nat → Int32) (lj : Nat → Int64) (H : Heap) (locs : List Loc) (ls : Array Slot), wpJ9_floorMod_f86c9 k 0 li lj Q → lv_has ls 6 [(0, .long (lj 0)), (2, .long (lj 2))] → Hp D A s.heap [] H locs → W p l e { frames := 0, cells := 0, slots := 0, locals := 0 } s m args below meth c H locs 0 0 (MQ below (va_Ql (fun r _ => Q r) (fun u t => xEnd D ((fun _ : Unit => []) u) A t) A) args s 0 0 A) (F0 m 0 ls [])) ∧
      (∀ (li : Nat → Int32) (lj : Nat → Int64) (H : Heap) (locs : List Loc) (ls : Array Slot), wpJ9_floorMod_f86c9 k 1 li lj Q → lv_has ls 6 [(0, .long (lj 0)), (2, .long (lj 2)), (4, .long (lj 4))] → Hp D A s.heap [] H locs → W p l e { frames := 0, cells := 0, slots := 0, locals := 0 } s m args below meth c H locs 0 0 (MQ below (va_Ql (fun r _ => Q r) (fun u t => xEnd D ((fun _ : Unit => []) u) A t) A) args s 0 0 A) (F0 m 25 ls [])) := by
    intro k
    induction k with
    | zero => exact ⟨fun _ _ _ _ _ hR => False.elim hR, fun _ _ _ _ _ hR => False.elim hR⟩
    | succ k ih =>
      refine ⟨?_, ?_⟩
      · intro li lj H locs ls hR hl h
        have hR : wbJ9_floorMod_f86c9_0 (wpJ9_floorMod_f86c9 k) k li lj Q := hR
        unfold wbJ9_floorMod_f86c9_0 at hR
        refine lv_lload_n hx hb dJ9_floorMod_f86c9_0 rfl (lv_at hl 0 rfl) ?_
        refine lv_lload_n hx hb dJ9_floorMod_f86c9_1 rfl (lv_at hl 1 rfl) ?_
        obtain ⟨hd_1, hR⟩ := hR
        refine lv_lrem hx hb dJ9_floorMod_f86c9_2 hd_1 ?_
        refine lv_topl (fun v_1 ev_1 => ?_)
        have hR := hR v_1 ev_1
        refine lv_lstore (lv' := [(4, .long v_1), (0, .long (lj 0)), (2, .long (lj 2))]) hx hb dJ9_floorMod_f86c9_3 hl (by decide) rfl (fun ls hl => ?_)
        refine lv_lload_n hx hb dJ9_floorMod_f86c9_5 rfl (lv_at hl 1 rfl) ?_
        refine lv_lload_n hx hb dJ9_floorMod_f86c9_6 rfl (lv_at hl 2 rfl) ?_
        refine lv_lxor hx hb dJ9_floorMod_f86c9_7 ?_
        refine lv_topl (fun v_2 ev_2 => ?_)
        have hR := hR v_2 ev_2
        refine lv_lconst (v := 0) hx hb dJ9_floorMod_f86c9_8 (by decide) ?_
        refine W.lcmp hx hb dJ9_floorMod_f86c9_9 ?_
        refine lv_topi (fun v_3 ev_3 => ?_)
        have hR := hR v_3 ev_3
        refine lv_if_ge (tgt := 25) hx hb dJ9_floorMod_f86c9_10 (by decide) (fun c_4 => ?_) (fun c_4 => ?_)
        · have hR := hR.1 c_4
          exact ih.2 li (uI lj 4 v_1) H locs ls hR (lv_sub hl [1, 2, 0] rfl) h
        · have hR := hR.2 c_4
          refine lv_lload hx hb dJ9_floorMod_f86c9_13 (lv_at hl 0 rfl) ?_
          refine lv_lconst (v := 0) hx hb dJ9_floorMod_f86c9_15 (by decide) ?_
          refine W.lcmp hx hb dJ9_floorMod_f86c9_16 ?_
          refine lv_topi (fun v_5 ev_5 => ?_)
          have hR := hR v_5 ev_5
          refine lv_if_eq (tgt := 25) hx hb dJ9_floorMod_f86c9_17 (by decide) (fun c_6 => ?_) (fun c_6 => ?_)
          · have hR := hR.1 c_6
            exact ih.2 li (uI lj 4 v_1) H locs ls hR (lv_sub hl [1, 2, 0] rfl) h
          · have hR := hR.2 c_6
            refine lv_lload hx hb dJ9_floorMod_f86c9_20 (lv_at hl 0 rfl) ?_
            refine lv_lload_n hx hb dJ9_floorMod_f86c9_22 rfl (lv_at hl 2 rfl) ?_
            refine lv_ladd hx hb dJ9_floorMod_f86c9_23 ?_
            refine lv_topl (fun v_7 ev_7 => ?_)
            have hR := hR v_7 ev_7
            exact x_lret (w1 := (fun _ : Unit => [])) () B h hr hR dJ9_floorMod_f86c9_24
      · intro li lj H locs ls hR hl h
        have hR : wbJ9_floorMod_f86c9_1 (wpJ9_floorMod_f86c9 k) k li lj Q := hR
        unfold wbJ9_floorMod_f86c9_1 at hR
        refine lv_lload hx hb dJ9_floorMod_f86c9_25 (lv_at hl 2 rfl) ?_
        exact x_lret (w1 := (fun _ : Unit => [])) () B h hr hR dJ9_floorMod_f86c9_27
  exact (main k).1 _ _ s.heap [] ls hR hl h
set_option maxRecDepth 20000 in
theorem ggX5_remainder_J9_floorMod_f86c9 : GoodIn wsX5_remainder wsJ9_floorMod_f86c9 := goodIn_r _ [6] (by decide +kernel) (by decide +kernel)
set_option maxRecDepth 20000 in
theorem gX5_remainder_J9_floorMod_f86c9 : GoodIn wsX5_remainder (va_wsS RX5 94 yJ9_floorMod_f86c9 wsJ9_floorMod_f86c9) := goodIn_app (goodIn_of _ (by decide +kernel)) ggX5_remainder_J9_floorMod_f86c9
def wbX5_remainder_0 (rec : Nat → XT → (Nat → Int32) → (Nat → Int64) → (Int64 → XT → Prop) → Prop) (k : Nat) (t : XT) (li : Nat → Int32) (lj : Nat → Int64) (Q : Int64 → XT → Prop) : Prop :=
  (∀ v_1 : Int32, v_1 = (lg_cmp (t.2.1 7) 0) → (((0 : Int32) < v_1) → (wqJ9_floorMod_f86c9 k (lj 1) (t.2.1 7) (fun r_3 => (∀ v_4 : Int64, v_4 = (2 * r_3) → (∀ v_5 : Int32, v_5 = (lg_cmp v_4 (t.2.1 7)) → ((v_5 ≤ 0) → Q r_3 t) ∧ (¬ (v_5 ≤ 0) → (∀ v_7 : Int64, v_7 = (r_3 - (t.2.1 7)) → Q v_7 t))))))) ∧ (¬ ((0 : Int32) < v_1) → Q (lj 1) t))
def wpX5_remainder : Nat → Nat → XT → (Nat → Int32) → (Nat → Int64) → (Int64 → XT → Prop) → Prop
  | 0, _, _, _, _, _ => False
  | k + 1, 0, t, li, lj, Q => wbX5_remainder_0 (wpX5_remainder k) k t li lj Q
  | _ + 1, _, _, _, _, _ => False
def wqX5_remainder (k : Nat) (t : XT) (a1 : Int64) (Q : Int64 → XT → Prop) : Prop := wpX5_remainder k 0 t (fun _ => 0) (uI (fun _ => 0) 1 a1) Q
set_option maxHeartbeats 8000000 in
set_option maxRecDepth 100000 in
theorem wkX5_remainder (l : Launch) (D : va_G) (cI cJ cB cZ : ClassId) (ad : Nat → Nat) (k : Nat) (t : XT) (a1 : Int64) (Q : Int64 → XT → Prop) (hR : wqX5_remainder k t a1 Q) : MetL l yX5_remainder wsX5_remainder 1 25 0 0 D (TYS cI cJ cB cZ) (wX cI cJ cB cZ ad t) [.ref (ad 11), .long a1] (fun r u => Q r u) (fun u : XT => (wX cI cJ cB cZ ad u)) := by
  refine x_startL (ty := .long) (cc := cX5_remainder) (by decide) rfl (Nat.le_of_ble_eq_true rfl) ?_
  intro p e s m args below meth c A ls B hr hnm h hl
  have hx := B.1.1
  have hb := B.1.2.1
  have hml := B.1.2.2.1
  have hts := B.1.2.2.2.2
  have hown : s.vm.findClass RX5 = some m.cls := B.1.2.2.2.1
  have hin5 : ∀ w ∈ u_ws RX5 TX5 6, w ∈ wsX5_remainder := by decide +kernel
  have main : ∀ k : Nat, (∀ (t : XT) (li : Nat → Int32) (lj : Nat → Int64) (H : Heap) (locs : List Loc) (ls : Array Slot), wpX5_remainder k 0 t li lj Q → lv_has ls 5 [(0, .ref (ad 11)), (1, .long (lj 1))] → Hp D A s.heap (wX cI cJ cB cZ ad t) H locs → W p l e { frames := 1, cells := 0, slots := 0, locals := 25 } s m args below meth c H locs 0 0 (MQ below (va_Ql (fun r u => Q r u) (fun u t => xEnd D ((fun u : XT => (wX cI cJ cB cZ ad u)) u) A t) A) args s 0 0 A) (F0 m 0 ls [])) := by
    intro k
    induction k with
    | zero => exact fun _ _ _ _ _ _ hR => False.elim hR
    | succ k ih =>
      intro t li lj H locs ls hR hl h
      have hR : wbX5_remainder_0 (wpX5_remainder k) k t li lj Q := hR
      unfold wbX5_remainder_0 at hR
      refine lv_aload_n hx hb dX5_remainder_0 rfl (lv_at hl 0 rfl) ?_
      refine x_get (ci := 5) (C := RX5) (T := TX5) (N := 6) (v := .long (t.2.1 7)) B h hin5 11 5 rfl rfl (by decide) (by decide +kernel) rfl dX5_remainder_1 ?_
      refine lv_lconst (v := 0) hx hb dX5_remainder_4 (by decide) ?_
      refine W.lcmp hx hb dX5_remainder_5 ?_
      refine lv_topi (fun v_1 ev_1 => ?_)
      have hR := hR v_1 ev_1
      refine lv_if_gt (tgt := 11) hx hb dX5_remainder_6 (by decide) (fun c_2 => ?_) (fun c_2 => ?_)
      · have hR := hR.1 c_2
        refine lv_lload_n hx hb dX5_remainder_11 rfl (lv_at hl 1 rfl) ?_
        refine lv_aload_n hx hb dX5_remainder_12 rfl (lv_at hl 0 rfl) ?_
        refine x_get (ci := 5) (C := RX5) (T := TX5) (N := 6) (v := .long (t.2.1 7)) B h hin5 11 5 rfl rfl (by decide) (by decide +kernel) rfl dX5_remainder_13 ?_
        refine x_cSLE (n := 2) (As := [.long (lj 1), .long (t.2.1 7)]) (rest := []) B h (wkJ9_floorMod_f86c9 l D cI cJ cB cZ ad k (lj 1) (t.2.1 7) _ hR) ⟨⟨_, rfl⟩, by decide +kernel, Nat.le_of_ble_eq_true rfl, Nat.le_of_ble_eq_true rfl⟩ gX5_remainder_J9_floorMod_f86c9 rfl hl.1 rfl (Nat.le_of_ble_eq_true rfl) dX5_remainder_16 ⟨Nat.le_of_ble_eq_true rfl, Nat.le_of_ble_eq_true rfl⟩ (fun r_3 _ H locs hR h => ?_)
        refine lv_lstore_n (lv' := [(3, .long r_3), (0, .ref (ad 11)), (1, .long (lj 1))]) hx hb dX5_remainder_19 rfl hl (by decide) rfl (fun ls hl => ?_)
        refine lv_ldc2 (v := 2) hx hb hown (hts (.constantLong RX5 97 2) (by decide +kernel)) dX5_remainder_20 ?_
        refine lv_lload_n hx hb dX5_remainder_23 rfl (lv_at hl 0 rfl) ?_
        refine lv_lmul hx hb dX5_remainder_24 ?_
        refine lv_topl (fun v_4 ev_4 => ?_)
        have hR := hR v_4 ev_4
        refine lv_aload_n hx hb dX5_remainder_25 rfl (lv_at hl 1 rfl) ?_
        refine x_get (ci := 5) (C := RX5) (T := TX5) (N := 6) (v := .long (t.2.1 7)) B h hin5 11 5 rfl rfl (by decide) (by decide +kernel) rfl dX5_remainder_26 ?_
        refine W.lcmp hx hb dX5_remainder_29 ?_
        refine lv_topi (fun v_5 ev_5 => ?_)
        have hR := hR v_5 ev_5
        refine lv_if_le (tgt := 42) hx hb dX5_remainder_30 (by decide) (fun c_6 => ?_) (fun c_6 => ?_)
        · have hR := hR.1 c_6
          refine lv_lload_n hx hb dX5_remainder_42 rfl (lv_at hl 0 rfl) ?_
          exact x_lret (w1 := (fun u : XT => (wX cI cJ cB cZ ad u))) t B h hr hR dX5_remainder_43
        · have hR := hR.2 c_6
          refine lv_lload_n hx hb dX5_remainder_33 rfl (lv_at hl 0 rfl) ?_
          refine lv_aload_n hx hb dX5_remainder_34 rfl (lv_at hl 1 rfl) ?_
          refine x_get (ci := 5) (C := RX5) (T := TX5) (N := 6) (v := .long (t.2.1 7)) B h hin5 11 5 rfl rfl (by decide) (by decide +kernel) rfl dX5_remainder_35 ?_
          refine lv_lsub hx hb dX5_remainder_38 ?_
          refine lv_topl (fun v_7 ev_7 => ?_)
          have hR := hR v_7 ev_7
          refine lv_goto (tgt := 43) hx hb dX5_remainder_39 (by decide) ?_
          exact x_lret (w1 := (fun u : XT => (wX cI cJ cB cZ ad u))) t B h hr hR dX5_remainder_43
      · have hR := hR.2 c_2
        refine lv_lload_n hx hb dX5_remainder_9 rfl (lv_at hl 1 rfl) ?_
        exact x_lret (w1 := (fun u : XT => (wX cI cJ cB cZ ad u))) t B h hr hR dX5_remainder_10
  exact (main k) t _ _ s.heap [] ls hR hl h
def wbX5_leastCell_0 (rec : Nat → XT → (Nat → Int32) → (Nat → Int64) → (Int32 → XT → Prop) → Prop) (k : Nat) (t : XT) (li : Nat → Int32) (lj : Nat → Int64) (Q : Int32 → XT → Prop) : Prop :=
  rec 1 t (uI (uI li 2 (-1)) 3 (li 1)) lj Q
def wbX5_leastCell_1 (rec : Nat → XT → (Nat → Int32) → (Nat → Int64) → (Int32 → XT → Prop) → Prop) (k : Nat) (t : XT) (li : Nat → Int32) (lj : Nat → Int64) (Q : Int32 → XT → Prop) : Prop :=
  ((((t.1 10) : Int32) ≤ (li 3)) → Q (li 2) t) ∧ (¬ (((t.1 10) : Int32) ≤ (li 3)) → rec 2 t (uI li 4 (li 1)) lj Q)
def wbX5_leastCell_2 (rec : Nat → XT → (Nat → Int32) → (Nat → Int64) → (Int32 → XT → Prop) → Prop) (k : Nat) (t : XT) (li : Nat → Int32) (lj : Nat → Int64) (Q : Int32 → XT → Prop) : Prop :=
  ((((t.1 11) : Int32) ≤ (li 4)) → (∀ v_3 : Int32, v_3 = (li 3) + Int32.ofInt 1 → rec 1 t (uI li 3 v_3) lj Q)) ∧ (¬ (((t.1 11) : Int32) ≤ (li 4)) → (∀ v_4 : Int32, v_4 = ((li 3) * (t.1 11)) → (∀ v_5 : Int32, v_5 = (v_4 + (li 4)) → (((li 2) = (-1)) → rec 3 t (uI li 5 v_5) lj Q) ∧ (¬ ((li 2) = (-1)) → (vp_in v_5 900 ∧ (∀ v_7 : Int64, v_7 = (t.2.2.2 7) v_5.toNatClampNeg → (∀ v_8 : Int64, v_8 = (if 0 < v_7 then v_7 else -v_7) → (vp_in (li 2) 900 ∧ (∀ v_9 : Int64, v_9 = (t.2.2.2 7) (li 2).toNatClampNeg → (∀ v_10 : Int64, v_10 = (if 0 < v_9 then v_9 else -v_9) → (∀ v_11 : Int32, v_11 = (lg_cmp v_8 v_10) → (((0 : Int32) ≤ v_11) → rec 4 t (uI (uI li 5 v_5) 100 0) lj Q) ∧ (¬ ((0 : Int32) ≤ v_11) → rec 3 t (uI li 5 v_5) lj Q))))))))))))
def wbX5_leastCell_3 (rec : Nat → XT → (Nat → Int32) → (Nat → Int64) → (Int32 → XT → Prop) → Prop) (k : Nat) (t : XT) (li : Nat → Int32) (lj : Nat → Int64) (Q : Int32 → XT → Prop) : Prop :=
  rec 4 t (uI li 100 1) lj Q
def wbX5_leastCell_4 (rec : Nat → XT → (Nat → Int32) → (Nat → Int64) → (Int32 → XT → Prop) → Prop) (k : Nat) (t : XT) (li : Nat → Int32) (lj : Nat → Int64) (Q : Int32 → XT → Prop) : Prop :=
  (vp_in (li 5) 900 ∧ (∀ v_13 : Int64, v_13 = (t.2.2.2 7) (li 5).toNatClampNeg → (∀ v_14 : Int32, v_14 = (lg_cmp v_13 0) → ((v_14 = 0) → rec 5 t (uI li 6 (li 100)) lj Q) ∧ (¬ (v_14 = 0) → (((li 100) = 0) → rec 5 t (uI li 6 (li 100)) lj Q) ∧ (¬ ((li 100) = 0) → rec 5 t (uI (uI li 2 (li 5)) 6 (li 100)) lj Q)))))
def wbX5_leastCell_5 (rec : Nat → XT → (Nat → Int32) → (Nat → Int64) → (Int32 → XT → Prop) → Prop) (k : Nat) (t : XT) (li : Nat → Int32) (lj : Nat → Int64) (Q : Int32 → XT → Prop) : Prop :=
  (∀ v_17 : Int32, v_17 = (li 4) + Int32.ofInt 1 → rec 2 t (uI li 4 v_17) lj Q)
def wpX5_leastCell : Nat → Nat → XT → (Nat → Int32) → (Nat → Int64) → (Int32 → XT → Prop) → Prop
  | 0, _, _, _, _, _ => False
  | k + 1, 0, t, li, lj, Q => wbX5_leastCell_0 (wpX5_leastCell k) k t li lj Q
  | k + 1, 1, t, li, lj, Q => wbX5_leastCell_1 (wpX5_leastCell k) k t li lj Q
  | k + 1, 2, t, li, lj, Q => wbX5_leastCell_2 (wpX5_leastCell k) k t li lj Q
  | k + 1, 3, t, li, lj, Q => wbX5_leastCell_3 (wpX5_leastCell k) k t li lj Q
  | k + 1, 4, t, li, lj, Q => wbX5_leastCell_4 (wpX5_leastCell k) k t li lj Q
  | k + 1, 5, t, li, lj, Q => wbX5_leastCell_5 (wpX5_leastCell k) k t li lj Q
  | _ + 1, _, _, _, _, _ => False
def wqX5_leastCell (k : Nat) (t : XT) (a1 : Int32) (Q : Int32 → XT → Prop) : Prop := wpX5_leastCell k 0 t (uI (fun _ => 0) 1 a1) (fun _ => 0) Q
set_option maxHeartbeats 8000000 in
set_option maxRecDepth 100000 in
theorem wkX5_leastCell (l : Launch) (D : va_G) (cI cJ cB cZ : ClassId) (ad : Nat → Nat) (k : Nat) (t : XT) (a1 : Int32) (Q : Int32 → XT → Prop) (hR : wqX5_leastCell k t a1 Q) : MetI l yX5_leastCell wsX5_leastCell 1 24 0 0 D (TYS cI cJ cB cZ) (wX cI cJ cB cZ ad t) [.ref (ad 11), .int a1] (fun r u => Q r u) (fun u : XT => (wX cI cJ cB cZ ad u)) := by
  refine x_startI (ty := .int) (cc := cX5_leastCell) (by decide) rfl (Nat.le_of_ble_eq_true rfl) ?_
  intro p e s m args below meth c A ls B hr hnm h hl
  have hx := B.1.1
  have hb := B.1.2.1
  have hml := B.1.2.2.1
  have hts := B.1.2.2.2.2
  have hown : s.vm.findClass RX5 = some m.cls := B.1.2.2.2.1
  have hin5 : ∀ w ∈ u_ws RX5 TX5 6, w ∈ wsX5_leastCell := by decide +kernel
  have main : ∀ k : Nat, (∀ (t : XT) (li : Nat → Int32) (lj : Nat → Int64) (H : Heap) (locs : List Loc) (ls : Array Slot), wpX5_leastCell k 0 t li lj Q → lv_has ls 7 [(0, .ref (ad 11)), (1, .int (li 1))] → Hp D A s.heap (wX cI cJ cB cZ ad t) H locs → W p l e { frames := 1, cells := 0, slots := 0, locals := 24 } s m args below meth c H locs 0 0 (MQ below (va_Qi (fun r u => Q r u) (fun u t => xEnd D ((fun u : XT => (wX cI cJ cB cZ ad u)) u) A t) A) args s 0 0 A) (F0 m 0 ls [])) ∧
      (∀ (t : XT) (li : Nat → Int32) (lj : Nat → Int64) (H : Heap) (locs : List Loc) (ls : Array Slot), wpX5_leastCell k 1 t li lj Q → lv_has ls 7 [(0, .ref (ad 11)), (1, .int (li 1)), (2, .int (li 2)), (3, .int (li 3))] → Hp D A s.heap (wX cI cJ cB cZ ad t) H locs → W p l e { frames := 1, cells := 0, slots := 0, locals := 24 } s m args below meth c H locs 0 0 (MQ below (va_Qi (fun r u => Q r u) (fun u t => xEnd D ((fun u : XT => (wX cI cJ cB cZ ad u)) u) A t) A) args s 0 0 A) (F0 m 4 ls [])) ∧
      (∀ (t : XT) (li : Nat → Int32) (lj : Nat → Int64) (H : Heap) (locs : List Loc) (ls : Array Slot), wpX5_leastCell k 2 t li lj Q → lv_has ls 7 [(0, .ref (ad 11)), (1, .int (li 1)), (2, .int (li 2)), (3, .int (li 3)), (4, .int (li 4))] → Hp D A s.heap (wX cI cJ cB cZ ad t) H locs → W p l e { frames := 1, cells := 0, slots := 0, locals := 24 } s m args below meth c H locs 0 0 (MQ below (va_Qi (fun r u => Q r u) (fun u t => xEnd D ((fun u : XT => (wX cI cJ cB cZ ad u)) u) A t) A) args s 0 0 A) (F0 m 15 ls [])) ∧
      (∀ (t : XT) (li : Nat → Int32) (lj : Nat → Int64) (H : Heap) (locs : List Loc) (ls : Array Slot), wpX5_leastCell k 3 t li lj Q → lv_has ls 7 [(0, .ref (ad 11)), (1, .int (li 1)), (2, .int (li 2)), (3, .int (li 3)), (4, .int (li 4)), (5, .int (li 5))] → Hp D A s.heap (wX cI cJ cB cZ ad t) H locs → W p l e { frames := 1, cells := 0, slots := 0, locals := 24 } s m args below meth c H locs 0 0 (MQ below (va_Qi (fun r u => Q r u) (fun u t => xEnd D ((fun u : XT => (wX cI cJ cB cZ ad u)) u) A t) A) args s 0 0 A) (F0 m 63 ls [])) ∧
      (∀ (t : XT) (li : Nat → Int32) (lj : Nat → Int64) (H : Heap) (locs : List Loc) (ls : Array Slot), wpX5_leastCell k 4 t li lj Q → lv_has ls 7 [(0, .ref (ad 11)), (1, .int (li 1)), (2, .int (li 2)), (3, .int (li 3)), (4, .int (li 4)), (5, .int (li 5))] → Hp D A s.heap (wX cI cJ cB cZ ad t) H locs → W p l e { frames := 1, cells := 0, slots := 0, locals := 24 } s m args below meth c H locs 0 0 (MQ below (va_Qi (fun r u => Q r u) (fun u t => xEnd D ((fun u : XT => (wX cI cJ cB cZ ad u)) u) A t) A) args s 0 0 A) (F0 m 68 ls [.int (li 100)])) ∧
      (∀ (t : XT) (li : Nat → Int32) (lj : Nat → Int64) (H : Heap) (locs : List Loc) (ls : Array Slot), wpX5_leastCell k 5 t li lj Q → lv_has ls 7 [(0, .ref (ad 11)), (1, .int (li 1)), (2, .int (li 2)), (3, .int (li 3)), (4, .int (li 4)), (5, .int (li 5)), (6, .int (li 6))] → Hp D A s.heap (wX cI cJ cB cZ ad t) H locs → W p l e { frames := 1, cells := 0, slots := 0, locals := 24 } s m args below meth c H locs 0 0 (MQ below (va_Qi (fun r u => Q r u) (fun u t => xEnd D ((fun u : XT => (wX cI cJ cB cZ ad u)) u) A t) A) args s 0 0 A) (F0 m 90 ls [])) := by
    intro k
    induction k with
    | zero => exact ⟨fun _ _ _ _ _ _ hR => False.elim hR, fun _ _ _ _ _ _ hR => False.elim hR, fun _ _ _ _ _ _ hR => False.elim hR, fun _ _ _ _ _ _ hR => False.elim hR, fun _ _ _ _ _ _ hR => False.elim hR, fun _ _ _ _ _ _ hR => False.elim hR⟩
    | succ k ih =>
      refine ⟨?_, ?_, ?_, ?_, ?_, ?_⟩
      · intro t li lj H locs ls hR hl h
        have hR : wbX5_leastCell_0 (wpX5_leastCell k) k t li lj Q := hR
        unfold wbX5_leastCell_0 at hR
        refine lv_iconst (v := (-1)) hx hb dX5_leastCell_0 (by decide) ?_
        refine lv_istore_n (lv' := [(2, .int (-1)), (0, .ref (ad 11)), (1, .int (li 1))]) hx hb dX5_leastCell_1 rfl hl (by decide) rfl (fun ls hl => ?_)
        refine lv_iload_n hx hb dX5_leastCell_2 rfl (lv_at hl 2 rfl) ?_
        refine lv_istore_n (lv' := [(3, .int (li 1)), (2, .int (-1)), (0, .ref (ad 11)), (1, .int (li 1))]) hx hb dX5_leastCell_3 rfl hl (by decide) rfl (fun ls hl => ?_)
        exact ih.2.1 t (uI (uI li 2 (-1)) 3 (li 1)) lj H locs ls hR (lv_sub hl [2, 3, 1, 0] rfl) h
      · intro t li lj H locs ls hR hl h
        have hR : wbX5_leastCell_1 (wpX5_leastCell k) k t li lj Q := hR
        unfold wbX5_leastCell_1 at hR
        refine lv_iload_n hx hb dX5_leastCell_4 rfl (lv_at hl 3 rfl) ?_
        refine lv_aload_n hx hb dX5_leastCell_5 rfl (lv_at hl 0 rfl) ?_
        refine x_get (ci := 5) (C := RX5) (T := TX5) (N := 6) (v := .int (t.1 10)) B h hin5 11 3 rfl rfl (by decide) (by decide +kernel) rfl dX5_leastCell_6 ?_
        refine lv_icmp_ge (tgt := 102) hx hb dX5_leastCell_9 (by decide) (fun c_1 => ?_) (fun c_1 => ?_)
        · have hR := hR.1 c_1
          refine lv_iload_n hx hb dX5_leastCell_102 rfl (lv_at hl 2 rfl) ?_
          exact x_iret (w1 := (fun u : XT => (wX cI cJ cB cZ ad u))) t B h hr rfl hR dX5_leastCell_103
        · have hR := hR.2 c_1
          refine lv_iload_n hx hb dX5_leastCell_12 rfl (lv_at hl 1 rfl) ?_
          refine lv_istore (lv' := [(4, .int (li 1)), (0, .ref (ad 11)), (1, .int (li 1)), (2, .int (li 2)), (3, .int (li 3))]) hx hb dX5_leastCell_13 hl (by decide) rfl (fun ls hl => ?_)
          exact ih.2.2.1 t (uI li 4 (li 1)) lj H locs ls hR (lv_sub hl [1, 2, 3, 4, 0] rfl) h
      · intro t li lj H locs ls hR hl h
        have hR : wbX5_leastCell_2 (wpX5_leastCell k) k t li lj Q := hR
        unfold wbX5_leastCell_2 at hR
        refine lv_iload hx hb dX5_leastCell_15 (lv_at hl 4 rfl) ?_
        refine lv_aload_n hx hb dX5_leastCell_17 rfl (lv_at hl 0 rfl) ?_
        refine x_get (ci := 5) (C := RX5) (T := TX5) (N := 6) (v := .int (t.1 11)) B h hin5 11 4 rfl rfl (by decide) (by decide +kernel) rfl dX5_leastCell_18 ?_
        refine lv_icmp_ge (tgt := 96) hx hb dX5_leastCell_21 (by decide) (fun c_2 => ?_) (fun c_2 => ?_)
        · have hR := hR.1 c_2
          obtain ⟨v_3, ev_3⟩ : ∃ v : Int32, v = (li 3) + Int32.ofInt 1 := ⟨_, rfl⟩
          have hR := hR v_3 ev_3
          refine lv_iinc (v := v_3) (lv' := [(3, .int v_3), (0, .ref (ad 11)), (1, .int (li 1)), (2, .int (li 2)), (4, .int (li 4))]) hx hb dX5_leastCell_96 hl (k := 3) rfl ev_3.symm (by decide) rfl (fun ls hl => ?_)
          refine lv_goto (tgt := 4) hx hb dX5_leastCell_99 (by decide) ?_
          exact ih.2.1 t (uI li 3 v_3) lj H locs ls hR (lv_sub hl [1, 2, 3, 0] rfl) h
        · have hR := hR.2 c_2
          refine lv_iload_n hx hb dX5_leastCell_24 rfl (lv_at hl 3 rfl) ?_
          refine lv_aload_n hx hb dX5_leastCell_25 rfl (lv_at hl 0 rfl) ?_
          refine x_get (ci := 5) (C := RX5) (T := TX5) (N := 6) (v := .int (t.1 11)) B h hin5 11 4 rfl rfl (by decide) (by decide +kernel) rfl dX5_leastCell_26 ?_
          refine lv_imul hx hb dX5_leastCell_29 ?_
          refine lv_topi (fun v_4 ev_4 => ?_)
          have hR := hR v_4 ev_4
          refine lv_iload hx hb dX5_leastCell_30 (lv_at hl 4 rfl) ?_
          refine lv_iadd hx hb dX5_leastCell_32 ?_
          refine lv_topi (fun v_5 ev_5 => ?_)
          have hR := hR v_5 ev_5
          refine lv_istore (lv' := [(5, .int v_5), (0, .ref (ad 11)), (1, .int (li 1)), (2, .int (li 2)), (3, .int (li 3)), (4, .int (li 4))]) hx hb dX5_leastCell_33 hl (by decide) rfl (fun ls hl => ?_)
          refine lv_iload_n hx hb dX5_leastCell_35 rfl (lv_at hl 3 rfl) ?_
          refine lv_iconst (v := (-1)) hx hb dX5_leastCell_36 (by decide) ?_
          refine lv_icmp_eq (tgt := 63) hx hb dX5_leastCell_37 (by decide) (fun c_6 => ?_) (fun c_6 => ?_)
          · have hR := hR.1 c_6
            exact ih.2.2.2.1 t (uI li 5 v_5) lj H locs ls hR (lv_sub hl [1, 2, 3, 4, 5, 0] rfl) h
          · have hR := hR.2 c_6
            refine lv_aload_n hx hb dX5_leastCell_40 rfl (lv_at hl 1 rfl) ?_
            refine x_get (ci := 5) (C := RX5) (T := TX5) (N := 6) (v := .ref (ad 30)) B h hin5 11 0 rfl rfl (by decide) (by decide +kernel) rfl dX5_leastCell_41 ?_
            refine lv_iload hx hb dX5_leastCell_44 (lv_at hl 0 rfl) ?_
            obtain ⟨hb_7, hR⟩ := hR
            refine va_lald (f := (t.2.2.2 7)) hx hb B.2.1 h.1 30 1 rfl rfl hb_7 dX5_leastCell_46 ?_
            refine lv_topl (fun v_7 ev_7 => ?_)
            have hR := hR v_7 ev_7
            refine va_mabs_long hx hb (hml.trans hl.1.symm) hown (hts (.methodLink RX5 88 Lib.MathLoose.abs_long.x) (by decide +kernel)) (hts (.static Lib.MathLoose.abs_long.x) (by decide +kernel)) (hts (.initialized "java/lang/Math") (by decide +kernel)) (hts (.code Lib.MathLoose.abs_long.x Lib.MathLoose.abs_long.code 2 (some .long)) (by decide +kernel)) (Nat.le_of_ble_eq_true rfl) (Nat.le_of_ble_eq_true rfl) (Nat.le_of_ble_eq_true rfl) (Nat.le_of_ble_eq_true rfl) dX5_leastCell_47 ?_
            refine lv_topl (fun v_8 ev_8 => ?_)
            have hR := hR v_8 ev_8
            refine lv_aload_n hx hb dX5_leastCell_50 rfl (lv_at hl 1 rfl) ?_
            refine x_get (ci := 5) (C := RX5) (T := TX5) (N := 6) (v := .ref (ad 30)) B h hin5 11 0 rfl rfl (by decide) (by decide +kernel) rfl dX5_leastCell_51 ?_
            refine lv_iload_n hx hb dX5_leastCell_54 rfl (lv_at hl 3 rfl) ?_
            obtain ⟨hb_9, hR⟩ := hR
            refine va_lald (f := (t.2.2.2 7)) hx hb B.2.1 h.1 30 1 rfl rfl hb_9 dX5_leastCell_55 ?_
            refine lv_topl (fun v_9 ev_9 => ?_)
            have hR := hR v_9 ev_9
            refine va_mabs_long hx hb (hml.trans hl.1.symm) hown (hts (.methodLink RX5 88 Lib.MathLoose.abs_long.x) (by decide +kernel)) (hts (.static Lib.MathLoose.abs_long.x) (by decide +kernel)) (hts (.initialized "java/lang/Math") (by decide +kernel)) (hts (.code Lib.MathLoose.abs_long.x Lib.MathLoose.abs_long.code 2 (some .long)) (by decide +kernel)) (Nat.le_of_ble_eq_true rfl) (Nat.le_of_ble_eq_true rfl) (Nat.le_of_ble_eq_true rfl) (Nat.le_of_ble_eq_true rfl) dX5_leastCell_56 ?_
            refine lv_topl (fun v_10 ev_10 => ?_)
            have hR := hR v_10 ev_10
            refine W.lcmp hx hb dX5_leastCell_59 ?_
            refine lv_topi (fun v_11 ev_11 => ?_)
            have hR := hR v_11 ev_11
            refine lv_if_ge (tgt := 67) hx hb dX5_leastCell_60 (by decide) (fun c_12 => ?_) (fun c_12 => ?_)
            · have hR := hR.1 c_12
              refine lv_iconst (v := 0) hx hb dX5_leastCell_67 (by decide) ?_
              exact ih.2.2.2.2.1 t (uI (uI li 5 v_5) 100 0) lj H locs ls hR (lv_sub hl [1, 2, 3, 4, 5, 0] rfl) h
            · have hR := hR.2 c_12
              exact ih.2.2.2.1 t (uI li 5 v_5) lj H locs ls hR (lv_sub hl [1, 2, 3, 4, 5, 0] rfl) h
      · intro t li lj H locs ls hR hl h
        have hR : wbX5_leastCell_3 (wpX5_leastCell k) k t li lj Q := hR
        unfold wbX5_leastCell_3 at hR
        refine lv_iconst (v := 1) hx hb dX5_leastCell_63 (by decide) ?_
        refine lv_goto (tgt := 68) hx hb dX5_leastCell_64 (by decide) ?_
        exact ih.2.2.2.2.1 t (uI li 100 1) lj H locs ls hR (lv_sub hl [0, 1, 2, 3, 4, 5] rfl) h
      · intro t li lj H locs ls hR hl h
        have hR : wbX5_leastCell_4 (wpX5_leastCell k) k t li lj Q := hR
        unfold wbX5_leastCell_4 at hR
        refine lv_istore (lv' := [(6, .int (li 100)), (0, .ref (ad 11)), (1, .int (li 1)), (2, .int (li 2)), (3, .int (li 3)), (4, .int (li 4)), (5, .int (li 5))]) hx hb dX5_leastCell_68 hl (by decide) rfl (fun ls hl => ?_)
        refine lv_aload_n hx hb dX5_leastCell_70 rfl (lv_at hl 1 rfl) ?_
        refine x_get (ci := 5) (C := RX5) (T := TX5) (N := 6) (v := .ref (ad 30)) B h hin5 11 0 rfl rfl (by decide) (by decide +kernel) rfl dX5_leastCell_71 ?_
        refine lv_iload hx hb dX5_leastCell_74 (lv_at hl 6 rfl) ?_
        obtain ⟨hb_13, hR⟩ := hR
        refine va_lald (f := (t.2.2.2 7)) hx hb B.2.1 h.1 30 1 rfl rfl hb_13 dX5_leastCell_76 ?_
        refine lv_topl (fun v_13 ev_13 => ?_)
        have hR := hR v_13 ev_13
        refine lv_lconst (v := 0) hx hb dX5_leastCell_77 (by decide) ?_
        refine W.lcmp hx hb dX5_leastCell_78 ?_
        refine lv_topi (fun v_14 ev_14 => ?_)
        have hR := hR v_14 ev_14
        refine lv_if_eq (tgt := 90) hx hb dX5_leastCell_79 (by decide) (fun c_15 => ?_) (fun c_15 => ?_)
        · have hR := hR.1 c_15
          exact ih.2.2.2.2.2 t (uI li 6 (li 100)) lj H locs ls hR (lv_sub hl [1, 2, 3, 4, 5, 6, 0] rfl) h
        · have hR := hR.2 c_15
          refine lv_iload hx hb dX5_leastCell_82 (lv_at hl 0 rfl) ?_
          refine lv_if_eq (tgt := 90) hx hb dX5_leastCell_84 (by decide) (fun c_16 => ?_) (fun c_16 => ?_)
          · have hR := hR.1 c_16
            exact ih.2.2.2.2.2 t (uI li 6 (li 100)) lj H locs ls hR (lv_sub hl [1, 2, 3, 4, 5, 6, 0] rfl) h
          · have hR := hR.2 c_16
            refine lv_iload hx hb dX5_leastCell_87 (lv_at hl 6 rfl) ?_
            refine lv_istore_n (lv' := [(2, .int (li 5)), (6, .int (li 100)), (0, .ref (ad 11)), (1, .int (li 1)), (3, .int (li 3)), (4, .int (li 4)), (5, .int (li 5))]) hx hb dX5_leastCell_89 rfl hl (by decide) rfl (fun ls hl => ?_)
            exact ih.2.2.2.2.2 t (uI (uI li 2 (li 5)) 6 (li 100)) lj H locs ls hR (lv_sub hl [2, 3, 0, 4, 5, 6, 1] rfl) h
      · intro t li lj H locs ls hR hl h
        have hR : wbX5_leastCell_5 (wpX5_leastCell k) k t li lj Q := hR
        unfold wbX5_leastCell_5 at hR
        obtain ⟨v_17, ev_17⟩ : ∃ v : Int32, v = (li 4) + Int32.ofInt 1 := ⟨_, rfl⟩
        have hR := hR v_17 ev_17
        refine lv_iinc (v := v_17) (lv' := [(4, .int v_17), (0, .ref (ad 11)), (1, .int (li 1)), (2, .int (li 2)), (3, .int (li 3)), (5, .int (li 5)), (6, .int (li 6))]) hx hb dX5_leastCell_90 hl (k := 4) rfl ev_17.symm (by decide) rfl (fun ls hl => ?_)
        refine lv_goto (tgt := 15) hx hb dX5_leastCell_93 (by decide) ?_
        exact ih.2.2.1 t (uI li 4 v_17) lj H locs ls hR (lv_sub hl [1, 2, 3, 4, 0] rfl) h
  exact (main k).1 t _ _ s.heap [] ls hR hl h
def wbX5_swapRows_c30_0 (rec : Nat → XT → (Nat → Int32) → (Nat → Int64) → (XT → Prop) → Prop) (k : Nat) (t : XT) (li : Nat → Int32) (lj : Nat → Int64) (Q : XT → Prop) : Prop :=
  rec 1 t (uI li 4 0) lj Q
def wbX5_swapRows_c30_1 (rec : Nat → XT → (Nat → Int32) → (Nat → Int64) → (XT → Prop) → Prop) (k : Nat) (t : XT) (li : Nat → Int32) (lj : Nat → Int64) (Q : XT → Prop) : Prop :=
  ((((t.1 11) : Int32) ≤ (li 4)) → Q t) ∧ (¬ (((t.1 11) : Int32) ≤ (li 4)) → (((li 2) = (li 3)) → Q t) ∧ (¬ ((li 2) = (li 3)) → (∀ v_3 : Int32, v_3 = ((li 2) * (t.1 11)) → (∀ v_4 : Int32, v_4 = (v_3 + (li 4)) → (vp_in v_4 900 ∧ (∀ v_5 : Int64, v_5 = (t.2.2.2 7) v_4.toNatClampNeg → (∀ v_6 : Int32, v_6 = ((li 2) * (t.1 11)) → (∀ v_7 : Int32, v_7 = (v_6 + (li 4)) → (∀ v_8 : Int32, v_8 = ((li 3) * (t.1 11)) → (∀ v_9 : Int32, v_9 = (v_8 + (li 4)) → (vp_in v_9 900 ∧ (∀ v_10 : Int64, v_10 = (t.2.2.2 7) v_9.toNatClampNeg → (vp_in v_7 900 ∧ (∀ t_11 : XT, t_11 = sB t 7 (vp_updL (t.2.2.2 7) v_7.toNatClampNeg v_10) → (∀ v_12 : Int32, v_12 = ((li 3) * (t_11.1 11)) → (∀ v_13 : Int32, v_13 = (v_12 + (li 4)) → (vp_in v_13 900 ∧ (∀ t_14 : XT, t_14 = sB t_11 7 (vp_updL (t_11.2.2.2 7) v_13.toNatClampNeg v_5) → (∀ v_15 : Int32, v_15 = (li 4) + Int32.ofInt 1 → rec 1 t_14 (uI li 4 v_15) lj Q)))))))))))))))))))
def wpX5_swapRows_c30 : Nat → Nat → XT → (Nat → Int32) → (Nat → Int64) → (XT → Prop) → Prop
  | 0, _, _, _, _, _ => False
  | k + 1, 0, t, li, lj, Q => wbX5_swapRows_c30_0 (wpX5_swapRows_c30 k) k t li lj Q
  | k + 1, 1, t, li, lj, Q => wbX5_swapRows_c30_1 (wpX5_swapRows_c30 k) k t li lj Q
  | _ + 1, _, _, _, _, _ => False
def wqX5_swapRows_c30 (k : Nat) (t : XT) (a2 : Int32) (a3 : Int32) (Q : XT → Prop) : Prop := wpX5_swapRows_c30 k 0 t (uI (uI (fun _ => 0) 2 a2) 3 a3) (fun _ => 0) Q
set_option maxHeartbeats 8000000 in
set_option maxRecDepth 100000 in
theorem wkX5_swapRows_c30 (l : Launch) (D : va_G) (cI cJ cB cZ : ClassId) (ad : Nat → Nat) (k : Nat) (t : XT) (a2 : Int32) (a3 : Int32) (Q : XT → Prop) (hR : wqX5_swapRows_c30 k t a2 a3 Q) : MetV l yX5_swapRows wsX5_swapRows 0 0 0 0 D (TYS cI cJ cB cZ) (wX cI cJ cB cZ ad t) [.ref (ad 11), .ref (ad 30), .int a2, .int a3] (fun u => Q u) (fun u : XT => (wX cI cJ cB cZ ad u)) := by
  refine x_startV (ty := .int) (cc := cX5_swapRows) (by decide) rfl (Nat.le_of_ble_eq_true rfl) ?_
  intro p e s m args below meth c A ls B hr hnm h hl
  have hx := B.1.1
  have hb := B.1.2.1
  have hml := B.1.2.2.1
  have hts := B.1.2.2.2.2
  have hown : s.vm.findClass RX5 = some m.cls := B.1.2.2.2.1
  have hin5 : ∀ w ∈ u_ws RX5 TX5 6, w ∈ wsX5_swapRows := by decide +kernel
  have main : ∀ k : Nat, (∀ (t : XT) (li : Nat → Int32) (lj : Nat → Int64) (H : Heap) (locs : List Loc) (ls : Array Slot), wpX5_swapRows_c30 k 0 t li lj Q → lv_has ls 7 [(0, .ref (ad 11)), (1, .ref (ad 30)), (2, .int (li 2)), (3, .int (li 3))] → Hp D A s.heap (wX cI cJ cB cZ ad t) H locs → W p l e { frames := 0, cells := 0, slots := 0, locals := 0 } s m args below meth c H locs 0 0 (MQ below (va_Qv (fun u => Q u) (fun u t => xEnd D ((fun u : XT => (wX cI cJ cB cZ ad u)) u) A t) A) args s 0 0 A) (F0 m 0 ls [])) ∧
      (∀ (t : XT) (li : Nat → Int32) (lj : Nat → Int64) (H : Heap) (locs : List Loc) (ls : Array Slot), wpX5_swapRows_c30 k 1 t li lj Q → lv_has ls 7 [(0, .ref (ad 11)), (1, .ref (ad 30)), (2, .int (li 2)), (3, .int (li 3)), (4, .int (li 4))] → Hp D A s.heap (wX cI cJ cB cZ ad t) H locs → W p l e { frames := 0, cells := 0, slots := 0, locals := 0 } s m args below meth c H locs 0 0 (MQ below (va_Qv (fun u => Q u) (fun u t => xEnd D ((fun u : XT => (wX cI cJ cB cZ ad u)) u) A t) A) args s 0 0 A) (F0 m 3 ls [])) := by
    intro k
    induction k with
    | zero => exact ⟨fun _ _ _ _ _ _ hR => False.elim hR, fun _ _ _ _ _ _ hR => False.elim hR⟩
    | succ k ih =>
      refine ⟨?_, ?_⟩
      · intro t li lj H locs ls hR hl h
        have hR : wbX5_swapRows_c30_0 (wpX5_swapRows_c30 k) k t li lj Q := hR
        unfold wbX5_swapRows_c30_0 at hR
        refine lv_iconst (v := 0) hx hb dX5_swapRows_0 (by decide) ?_
        refine lv_istore (lv' := [(4, .int 0), (0, .ref (ad 11)), (1, .ref (ad 30)), (2, .int (li 2)), (3, .int (li 3))]) hx hb dX5_swapRows_1 hl (by decide) rfl (fun ls hl => ?_)
        exact ih.2 t (uI li 4 0) lj H locs ls hR (lv_sub hl [1, 2, 3, 4, 0] rfl) h
      · intro t li lj H locs ls hR hl h
        have hR : wbX5_swapRows_c30_1 (wpX5_swapRows_c30 k) k t li lj Q := hR
        unfold wbX5_swapRows_c30_1 at hR
        refine lv_iload hx hb dX5_swapRows_3 (lv_at hl 4 rfl) ?_
        refine lv_aload_n hx hb dX5_swapRows_5 rfl (lv_at hl 0 rfl) ?_
        refine x_get (ci := 5) (C := RX5) (T := TX5) (N := 6) (v := .int (t.1 11)) B h hin5 11 4 rfl rfl (by decide) (by decide +kernel) rfl dX5_swapRows_6 ?_
        refine lv_icmp_ge (tgt := 71) hx hb dX5_swapRows_9 (by decide) (fun c_1 => ?_) (fun c_1 => ?_)
        · have hR := hR.1 c_1
          exact x_vret (w1 := (fun u : XT => (wX cI cJ cB cZ ad u))) t B h hr hR dX5_swapRows_71
        · have hR := hR.2 c_1
          refine lv_iload_n hx hb dX5_swapRows_12 rfl (lv_at hl 2 rfl) ?_
          refine lv_iload_n hx hb dX5_swapRows_13 rfl (lv_at hl 3 rfl) ?_
          refine lv_icmp_eq (tgt := 71) hx hb dX5_swapRows_14 (by decide) (fun c_2 => ?_) (fun c_2 => ?_)
          · have hR := hR.1 c_2
            exact x_vret (w1 := (fun u : XT => (wX cI cJ cB cZ ad u))) t B h hr hR dX5_swapRows_71
          · have hR := hR.2 c_2
            refine lv_aload_n hx hb dX5_swapRows_17 rfl (lv_at hl 1 rfl) ?_
            refine lv_iload_n hx hb dX5_swapRows_18 rfl (lv_at hl 2 rfl) ?_
            refine lv_aload_n hx hb dX5_swapRows_19 rfl (lv_at hl 0 rfl) ?_
            refine x_get (ci := 5) (C := RX5) (T := TX5) (N := 6) (v := .int (t.1 11)) B h hin5 11 4 rfl rfl (by decide) (by decide +kernel) rfl dX5_swapRows_20 ?_
            refine lv_imul hx hb dX5_swapRows_23 ?_
            refine lv_topi (fun v_3 ev_3 => ?_)
            have hR := hR v_3 ev_3
            refine lv_iload hx hb dX5_swapRows_24 (lv_at hl 4 rfl) ?_
            refine lv_iadd hx hb dX5_swapRows_26 ?_
            refine lv_topi (fun v_4 ev_4 => ?_)
            have hR := hR v_4 ev_4
            obtain ⟨hb_5, hR⟩ := hR
            refine va_lald (f := (t.2.2.2 7)) hx hb B.2.1 h.1 30 1 rfl rfl hb_5 dX5_swapRows_27 ?_
            refine lv_topl (fun v_5 ev_5 => ?_)
            have hR := hR v_5 ev_5
            refine lv_lstore (lv' := [(5, .long v_5), (0, .ref (ad 11)), (1, .ref (ad 30)), (2, .int (li 2)), (3, .int (li 3)), (4, .int (li 4))]) hx hb dX5_swapRows_28 hl (by decide) rfl (fun ls hl => ?_)
            refine lv_aload_n hx hb dX5_swapRows_30 rfl (lv_at hl 2 rfl) ?_
            refine lv_iload_n hx hb dX5_swapRows_31 rfl (lv_at hl 3 rfl) ?_
            refine lv_aload_n hx hb dX5_swapRows_32 rfl (lv_at hl 1 rfl) ?_
            refine x_get (ci := 5) (C := RX5) (T := TX5) (N := 6) (v := .int (t.1 11)) B h hin5 11 4 rfl rfl (by decide) (by decide +kernel) rfl dX5_swapRows_33 ?_
            refine lv_imul hx hb dX5_swapRows_36 ?_
            refine lv_topi (fun v_6 ev_6 => ?_)
            have hR := hR v_6 ev_6
            refine lv_iload hx hb dX5_swapRows_37 (lv_at hl 5 rfl) ?_
            refine lv_iadd hx hb dX5_swapRows_39 ?_
            refine lv_topi (fun v_7 ev_7 => ?_)
            have hR := hR v_7 ev_7
            refine lv_aload_n hx hb dX5_swapRows_40 rfl (lv_at hl 2 rfl) ?_
            refine lv_iload_n hx hb dX5_swapRows_41 rfl (lv_at hl 4 rfl) ?_
            refine lv_aload_n hx hb dX5_swapRows_42 rfl (lv_at hl 1 rfl) ?_
            refine x_get (ci := 5) (C := RX5) (T := TX5) (N := 6) (v := .int (t.1 11)) B h hin5 11 4 rfl rfl (by decide) (by decide +kernel) rfl dX5_swapRows_43 ?_
            refine lv_imul hx hb dX5_swapRows_46 ?_
            refine lv_topi (fun v_8 ev_8 => ?_)
            have hR := hR v_8 ev_8
            refine lv_iload hx hb dX5_swapRows_47 (lv_at hl 5 rfl) ?_
            refine lv_iadd hx hb dX5_swapRows_49 ?_
            refine lv_topi (fun v_9 ev_9 => ?_)
            have hR := hR v_9 ev_9
            obtain ⟨hb_10, hR⟩ := hR
            refine va_lald (f := (t.2.2.2 7)) hx hb B.2.1 h.1 30 1 rfl rfl hb_10 dX5_swapRows_50 ?_
            refine lv_topl (fun v_10 ev_10 => ?_)
            have hR := hR v_10 ev_10
            obtain ⟨hb_11, hR⟩ := hR
            refine z_last (f := (t.2.2.2 7)) B h 30 1 rfl rfl hb_11 dX5_swapRows_51 (fun H locs h => ?_)
            obtain ⟨t_11, et_11⟩ : ∃ v : XT, v = sB t 7 (vp_updL (t.2.2.2 7) v_7.toNatClampNeg v_10) := ⟨_, rfl⟩
            have hR := hR t_11 et_11
            have h : Hp D A s.heap (wX cI cJ cB cZ ad t_11) H locs := by rw [et_11]; exact h
            refine lv_aload_n hx hb dX5_swapRows_52 rfl (lv_at hl 2 rfl) ?_
            refine lv_iload_n hx hb dX5_swapRows_53 rfl (lv_at hl 4 rfl) ?_
            refine lv_aload_n hx hb dX5_swapRows_54 rfl (lv_at hl 1 rfl) ?_
            refine x_get (ci := 5) (C := RX5) (T := TX5) (N := 6) (v := .int (t_11.1 11)) B h hin5 11 4 rfl rfl (by decide) (by decide +kernel) rfl dX5_swapRows_55 ?_
            refine lv_imul hx hb dX5_swapRows_58 ?_
            refine lv_topi (fun v_12 ev_12 => ?_)
            have hR := hR v_12 ev_12
            refine lv_iload hx hb dX5_swapRows_59 (lv_at hl 5 rfl) ?_
            refine lv_iadd hx hb dX5_swapRows_61 ?_
            refine lv_topi (fun v_13 ev_13 => ?_)
            have hR := hR v_13 ev_13
            refine lv_lload hx hb dX5_swapRows_62 (lv_at hl 0 rfl) ?_
            obtain ⟨hb_14, hR⟩ := hR
            refine z_last (f := (t_11.2.2.2 7)) B h 30 1 rfl rfl hb_14 dX5_swapRows_64 (fun H locs h => ?_)
            obtain ⟨t_14, et_14⟩ : ∃ v : XT, v = sB t_11 7 (vp_updL (t_11.2.2.2 7) v_13.toNatClampNeg v_5) := ⟨_, rfl⟩
            have hR := hR t_14 et_14
            have h : Hp D A s.heap (wX cI cJ cB cZ ad t_14) H locs := by rw [et_14]; exact h
            obtain ⟨v_15, ev_15⟩ : ∃ v : Int32, v = (li 4) + Int32.ofInt 1 := ⟨_, rfl⟩
            have hR := hR v_15 ev_15
            refine lv_iinc (v := v_15) (lv' := [(4, .int v_15), (5, .long v_5), (0, .ref (ad 11)), (1, .ref (ad 30)), (2, .int (li 2)), (3, .int (li 3))]) hx hb dX5_swapRows_65 hl (k := 5) rfl ev_15.symm (by decide) rfl (fun ls hl => ?_)
            refine lv_goto (tgt := 3) hx hb dX5_swapRows_68 (by decide) ?_
            exact ih.2 t_14 (uI li 4 v_15) lj H locs ls hR (lv_sub hl [2, 3, 4, 5, 0] rfl) h
  exact (main k).1 t _ _ s.heap [] ls hR hl h
def wbX5_swapColumns_0 (rec : Nat → XT → (Nat → Int32) → (Nat → Int64) → (XT → Prop) → Prop) (k : Nat) (t : XT) (li : Nat → Int32) (lj : Nat → Int64) (Q : XT → Prop) : Prop :=
  rec 1 t (uI li 3 0) lj Q
def wbX5_swapColumns_1 (rec : Nat → XT → (Nat → Int32) → (Nat → Int64) → (XT → Prop) → Prop) (k : Nat) (t : XT) (li : Nat → Int32) (lj : Nat → Int64) (Q : XT → Prop) : Prop :=
  ((((t.1 10) : Int32) ≤ (li 3)) → Q t) ∧ (¬ (((t.1 10) : Int32) ≤ (li 3)) → (((li 1) = (li 2)) → Q t) ∧ (¬ ((li 1) = (li 2)) → (∀ v_3 : Int32, v_3 = ((li 3) * (t.1 11)) → (∀ v_4 : Int32, v_4 = (v_3 + (li 1)) → (vp_in v_4 900 ∧ (∀ v_5 : Int64, v_5 = (t.2.2.2 7) v_4.toNatClampNeg → (∀ v_6 : Int32, v_6 = ((li 3) * (t.1 11)) → (∀ v_7 : Int32, v_7 = (v_6 + (li 1)) → (∀ v_8 : Int32, v_8 = ((li 3) * (t.1 11)) → (∀ v_9 : Int32, v_9 = (v_8 + (li 2)) → (vp_in v_9 900 ∧ (∀ v_10 : Int64, v_10 = (t.2.2.2 7) v_9.toNatClampNeg → (vp_in v_7 900 ∧ (∀ t_11 : XT, t_11 = sB t 7 (vp_updL (t.2.2.2 7) v_7.toNatClampNeg v_10) → (∀ v_12 : Int32, v_12 = ((li 3) * (t_11.1 11)) → (∀ v_13 : Int32, v_13 = (v_12 + (li 2)) → (vp_in v_13 900 ∧ (∀ t_14 : XT, t_14 = sB t_11 7 (vp_updL (t_11.2.2.2 7) v_13.toNatClampNeg v_5) → (∀ v_15 : Int32, v_15 = (li 3) + Int32.ofInt 1 → rec 1 t_14 (uI li 3 v_15) lj Q)))))))))))))))))))
def wpX5_swapColumns : Nat → Nat → XT → (Nat → Int32) → (Nat → Int64) → (XT → Prop) → Prop
  | 0, _, _, _, _, _ => False
  | k + 1, 0, t, li, lj, Q => wbX5_swapColumns_0 (wpX5_swapColumns k) k t li lj Q
  | k + 1, 1, t, li, lj, Q => wbX5_swapColumns_1 (wpX5_swapColumns k) k t li lj Q
  | _ + 1, _, _, _, _, _ => False
def wqX5_swapColumns (k : Nat) (t : XT) (a1 : Int32) (a2 : Int32) (Q : XT → Prop) : Prop := wpX5_swapColumns k 0 t (uI (uI (fun _ => 0) 1 a1) 2 a2) (fun _ => 0) Q
set_option maxHeartbeats 8000000 in
set_option maxRecDepth 100000 in
theorem wkX5_swapColumns (l : Launch) (D : va_G) (cI cJ cB cZ : ClassId) (ad : Nat → Nat) (k : Nat) (t : XT) (a1 : Int32) (a2 : Int32) (Q : XT → Prop) (hR : wqX5_swapColumns k t a1 a2 Q) : MetV l yX5_swapColumns wsX5_swapColumns 0 0 0 0 D (TYS cI cJ cB cZ) (wX cI cJ cB cZ ad t) [.ref (ad 11), .int a1, .int a2] (fun u => Q u) (fun u : XT => (wX cI cJ cB cZ ad u)) := by
  refine x_startV (ty := .int) (cc := cX5_swapColumns) (by decide) rfl (Nat.le_of_ble_eq_true rfl) ?_
  intro p e s m args below meth c A ls B hr hnm h hl
  have hx := B.1.1
  have hb := B.1.2.1
  have hml := B.1.2.2.1
  have hts := B.1.2.2.2.2
  have hown : s.vm.findClass RX5 = some m.cls := B.1.2.2.2.1
  have hin5 : ∀ w ∈ u_ws RX5 TX5 6, w ∈ wsX5_swapColumns := by decide +kernel
  have main : ∀ k : Nat, (∀ (t : XT) (li : Nat → Int32) (lj : Nat → Int64) (H : Heap) (locs : List Loc) (ls : Array Slot), wpX5_swapColumns k 0 t li lj Q → lv_has ls 6 [(0, .ref (ad 11)), (1, .int (li 1)), (2, .int (li 2))] → Hp D A s.heap (wX cI cJ cB cZ ad t) H locs → W p l e { frames := 0, cells := 0, slots := 0, locals := 0 } s m args below meth c H locs 0 0 (MQ below (va_Qv (fun u => Q u) (fun u t => xEnd D ((fun u : XT => (wX cI cJ cB cZ ad u)) u) A t) A) args s 0 0 A) (F0 m 0 ls [])) ∧
      (∀ (t : XT) (li : Nat → Int32) (lj : Nat → Int64) (H : Heap) (locs : List Loc) (ls : Array Slot), wpX5_swapColumns k 1 t li lj Q → lv_has ls 6 [(0, .ref (ad 11)), (1, .int (li 1)), (2, .int (li 2)), (3, .int (li 3))] → Hp D A s.heap (wX cI cJ cB cZ ad t) H locs → W p l e { frames := 0, cells := 0, slots := 0, locals := 0 } s m args below meth c H locs 0 0 (MQ below (va_Qv (fun u => Q u) (fun u t => xEnd D ((fun u : XT => (wX cI cJ cB cZ ad u)) u) A t) A) args s 0 0 A) (F0 m 2 ls [])) := by
    intro k
    induction k with
    | zero => exact ⟨fun _ _ _ _ _ _ hR => False.elim hR, fun _ _ _ _ _ _ hR => False.elim hR⟩
    | succ k ih =>
      refine ⟨?_, ?_⟩
      · intro t li lj H locs ls hR hl h
        have hR : wbX5_swapColumns_0 (wpX5_swapColumns k) k t li lj Q := hR
        unfold wbX5_swapColumns_0 at hR
        refine lv_iconst (v := 0) hx hb dX5_swapColumns_0 (by decide) ?_
        refine lv_istore_n (lv' := [(3, .int 0), (0, .ref (ad 11)), (1, .int (li 1)), (2, .int (li 2))]) hx hb dX5_swapColumns_1 rfl hl (by decide) rfl (fun ls hl => ?_)
        exact ih.2 t (uI li 3 0) lj H locs ls hR (lv_sub hl [1, 2, 3, 0] rfl) h
      · intro t li lj H locs ls hR hl h
        have hR : wbX5_swapColumns_1 (wpX5_swapColumns k) k t li lj Q := hR
        unfold wbX5_swapColumns_1 at hR
        refine lv_iload_n hx hb dX5_swapColumns_2 rfl (lv_at hl 3 rfl) ?_
        refine lv_aload_n hx hb dX5_swapColumns_3 rfl (lv_at hl 0 rfl) ?_
        refine x_get (ci := 5) (C := RX5) (T := TX5) (N := 6) (v := .int (t.1 10)) B h hin5 11 3 rfl rfl (by decide) (by decide +kernel) rfl dX5_swapColumns_4 ?_
        refine lv_icmp_ge (tgt := 77) hx hb dX5_swapColumns_7 (by decide) (fun c_1 => ?_) (fun c_1 => ?_)
        · have hR := hR.1 c_1
          exact x_vret (w1 := (fun u : XT => (wX cI cJ cB cZ ad u))) t B h hr hR dX5_swapColumns_77
        · have hR := hR.2 c_1
          refine lv_iload_n hx hb dX5_swapColumns_10 rfl (lv_at hl 1 rfl) ?_
          refine lv_iload_n hx hb dX5_swapColumns_11 rfl (lv_at hl 2 rfl) ?_
          refine lv_icmp_eq (tgt := 77) hx hb dX5_swapColumns_12 (by decide) (fun c_2 => ?_) (fun c_2 => ?_)
          · have hR := hR.1 c_2
            exact x_vret (w1 := (fun u : XT => (wX cI cJ cB cZ ad u))) t B h hr hR dX5_swapColumns_77
          · have hR := hR.2 c_2
            refine lv_aload_n hx hb dX5_swapColumns_15 rfl (lv_at hl 0 rfl) ?_
            refine x_get (ci := 5) (C := RX5) (T := TX5) (N := 6) (v := .ref (ad 30)) B h hin5 11 0 rfl rfl (by decide) (by decide +kernel) rfl dX5_swapColumns_16 ?_
            refine lv_iload_n hx hb dX5_swapColumns_19 rfl (lv_at hl 3 rfl) ?_
            refine lv_aload_n hx hb dX5_swapColumns_20 rfl (lv_at hl 0 rfl) ?_
            refine x_get (ci := 5) (C := RX5) (T := TX5) (N := 6) (v := .int (t.1 11)) B h hin5 11 4 rfl rfl (by decide) (by decide +kernel) rfl dX5_swapColumns_21 ?_
            refine lv_imul hx hb dX5_swapColumns_24 ?_
            refine lv_topi (fun v_3 ev_3 => ?_)
            have hR := hR v_3 ev_3
            refine lv_iload_n hx hb dX5_swapColumns_25 rfl (lv_at hl 1 rfl) ?_
            refine lv_iadd hx hb dX5_swapColumns_26 ?_
            refine lv_topi (fun v_4 ev_4 => ?_)
            have hR := hR v_4 ev_4
            obtain ⟨hb_5, hR⟩ := hR
            refine va_lald (f := (t.2.2.2 7)) hx hb B.2.1 h.1 30 1 rfl rfl hb_5 dX5_swapColumns_27 ?_
            refine lv_topl (fun v_5 ev_5 => ?_)
            have hR := hR v_5 ev_5
            refine lv_lstore (lv' := [(4, .long v_5), (0, .ref (ad 11)), (1, .int (li 1)), (2, .int (li 2)), (3, .int (li 3))]) hx hb dX5_swapColumns_28 hl (by decide) rfl (fun ls hl => ?_)
            refine lv_aload_n hx hb dX5_swapColumns_30 rfl (lv_at hl 1 rfl) ?_
            refine x_get (ci := 5) (C := RX5) (T := TX5) (N := 6) (v := .ref (ad 30)) B h hin5 11 0 rfl rfl (by decide) (by decide +kernel) rfl dX5_swapColumns_31 ?_
            refine lv_iload_n hx hb dX5_swapColumns_34 rfl (lv_at hl 4 rfl) ?_
            refine lv_aload_n hx hb dX5_swapColumns_35 rfl (lv_at hl 1 rfl) ?_
            refine x_get (ci := 5) (C := RX5) (T := TX5) (N := 6) (v := .int (t.1 11)) B h hin5 11 4 rfl rfl (by decide) (by decide +kernel) rfl dX5_swapColumns_36 ?_
            refine lv_imul hx hb dX5_swapColumns_39 ?_
            refine lv_topi (fun v_6 ev_6 => ?_)
            have hR := hR v_6 ev_6
            refine lv_iload_n hx hb dX5_swapColumns_40 rfl (lv_at hl 2 rfl) ?_
            refine lv_iadd hx hb dX5_swapColumns_41 ?_
            refine lv_topi (fun v_7 ev_7 => ?_)
            have hR := hR v_7 ev_7
            refine lv_aload_n hx hb dX5_swapColumns_42 rfl (lv_at hl 1 rfl) ?_
            refine x_get (ci := 5) (C := RX5) (T := TX5) (N := 6) (v := .ref (ad 30)) B h hin5 11 0 rfl rfl (by decide) (by decide +kernel) rfl dX5_swapColumns_43 ?_
            refine lv_iload_n hx hb dX5_swapColumns_46 rfl (lv_at hl 4 rfl) ?_
            refine lv_aload_n hx hb dX5_swapColumns_47 rfl (lv_at hl 1 rfl) ?_
            refine x_get (ci := 5) (C := RX5) (T := TX5) (N := 6) (v := .int (t.1 11)) B h hin5 11 4 rfl rfl (by decide) (by decide +kernel) rfl dX5_swapColumns_48 ?_
            refine lv_imul hx hb dX5_swapColumns_51 ?_
            refine lv_topi (fun v_8 ev_8 => ?_)
            have hR := hR v_8 ev_8
            refine lv_iload_n hx hb dX5_swapColumns_52 rfl (lv_at hl 3 rfl) ?_
            refine lv_iadd hx hb dX5_swapColumns_53 ?_
            refine lv_topi (fun v_9 ev_9 => ?_)
            have hR := hR v_9 ev_9
            obtain ⟨hb_10, hR⟩ := hR
            refine va_lald (f := (t.2.2.2 7)) hx hb B.2.1 h.1 30 1 rfl rfl hb_10 dX5_swapColumns_54 ?_
            refine lv_topl (fun v_10 ev_10 => ?_)
            have hR := hR v_10 ev_10
            obtain ⟨hb_11, hR⟩ := hR
            refine z_last (f := (t.2.2.2 7)) B h 30 1 rfl rfl hb_11 dX5_swapColumns_55 (fun H locs h => ?_)
            obtain ⟨t_11, et_11⟩ : ∃ v : XT, v = sB t 7 (vp_updL (t.2.2.2 7) v_7.toNatClampNeg v_10) := ⟨_, rfl⟩
            have hR := hR t_11 et_11
            have h : Hp D A s.heap (wX cI cJ cB cZ ad t_11) H locs := by rw [et_11]; exact h
            refine lv_aload_n hx hb dX5_swapColumns_56 rfl (lv_at hl 1 rfl) ?_
            refine x_get (ci := 5) (C := RX5) (T := TX5) (N := 6) (v := .ref (ad 30)) B h hin5 11 0 rfl rfl (by decide) (by decide +kernel) rfl dX5_swapColumns_57 ?_
            refine lv_iload_n hx hb dX5_swapColumns_60 rfl (lv_at hl 4 rfl) ?_
            refine lv_aload_n hx hb dX5_swapColumns_61 rfl (lv_at hl 1 rfl) ?_
            refine x_get (ci := 5) (C := RX5) (T := TX5) (N := 6) (v := .int (t_11.1 11)) B h hin5 11 4 rfl rfl (by decide) (by decide +kernel) rfl dX5_swapColumns_62 ?_
            refine lv_imul hx hb dX5_swapColumns_65 ?_
            refine lv_topi (fun v_12 ev_12 => ?_)
            have hR := hR v_12 ev_12
            refine lv_iload_n hx hb dX5_swapColumns_66 rfl (lv_at hl 3 rfl) ?_
            refine lv_iadd hx hb dX5_swapColumns_67 ?_
            refine lv_topi (fun v_13 ev_13 => ?_)
            have hR := hR v_13 ev_13
            refine lv_lload hx hb dX5_swapColumns_68 (lv_at hl 0 rfl) ?_
            obtain ⟨hb_14, hR⟩ := hR
            refine z_last (f := (t_11.2.2.2 7)) B h 30 1 rfl rfl hb_14 dX5_swapColumns_70 (fun H locs h => ?_)
            obtain ⟨t_14, et_14⟩ : ∃ v : XT, v = sB t_11 7 (vp_updL (t_11.2.2.2 7) v_13.toNatClampNeg v_5) := ⟨_, rfl⟩
            have hR := hR t_14 et_14
            have h : Hp D A s.heap (wX cI cJ cB cZ ad t_14) H locs := by rw [et_14]; exact h
            obtain ⟨v_15, ev_15⟩ : ∃ v : Int32, v = (li 3) + Int32.ofInt 1 := ⟨_, rfl⟩
            have hR := hR v_15 ev_15
            refine lv_iinc (v := v_15) (lv' := [(3, .int v_15), (4, .long v_5), (0, .ref (ad 11)), (1, .int (li 1)), (2, .int (li 2))]) hx hb dX5_swapColumns_71 hl (k := 4) rfl ev_15.symm (by decide) rfl (fun ls hl => ?_)
            refine lv_goto (tgt := 2) hx hb dX5_swapColumns_74 (by decide) ?_
            exact ih.2 t_14 (uI li 3 v_15) lj H locs ls hR (lv_sub hl [2, 3, 4, 0] rfl) h
  exact (main k).1 t _ _ s.heap [] ls hR hl h
def wbJ9_floorDiv_f86c9_0 (rec : Nat → (Nat → Int32) → (Nat → Int64) → (Int64 → Prop) → Prop) (k : Nat) (li : Nat → Int32) (lj : Nat → Int64) (Q : Int64 → Prop) : Prop :=
  ((¬ (lj 2) = 0) ∧ (∀ v_1 : Int64, v_1 = ((lj 0) / (lj 2)) → (∀ v_2 : Int64, v_2 = ((lj 0) ^^^ (lj 2)) → (∀ v_3 : Int32, v_3 = (lg_cmp v_2 0) → (((0 : Int32) ≤ v_3) → rec 1 li (uI lj 4 v_1) Q) ∧ (¬ ((0 : Int32) ≤ v_3) → (∀ v_5 : Int64, v_5 = (v_1 * (lj 2)) → (∀ v_6 : Int32, v_6 = (lg_cmp v_5 (lj 0)) → ((v_6 = 0) → rec 1 li (uI lj 4 v_1) Q) ∧ (¬ (v_6 = 0) → (∀ v_8 : Int64, v_8 = (v_1 - 1) → Q v_8)))))))))
def wbJ9_floorDiv_f86c9_1 (rec : Nat → (Nat → Int32) → (Nat → Int64) → (Int64 → Prop) → Prop) (k : Nat) (li : Nat → Int32) (lj : Nat → Int64) (Q : Int64 → Prop) : Prop :=
  Q (lj 4)
def wpJ9_floorDiv_f86c9 : Nat → Nat → (Nat → Int32) → (Nat → Int64) → (Int64 → Prop) → Prop
  | 0, _, _, _, _ => False
  | k + 1, 0, li, lj, Q => wbJ9_floorDiv_f86c9_0 (wpJ9_floorDiv_f86c9 k) k li lj Q
  | k + 1, 1, li, lj, Q => wbJ9_floorDiv_f86c9_1 (wpJ9_floorDiv_f86c9 k) k li lj Q
  | _ + 1, _, _, _, _ => False
def wqJ9_floorDiv_f86c9 (k : Nat) (a0 : Int64) (a1 : Int64) (Q : Int64 → Prop) : Prop := wpJ9_floorDiv_f86c9 k 0 (fun _ => 0) (uI (uI (fun _ => 0) 0 a0) 2 a1) Q
set_option maxHeartbeats 8000000 in
set_option maxRecDepth 100000 in
theorem wkJ9_floorDiv_f86c9 (l : Launch) (D : va_G) (cI cJ cB cZ : ClassId) (ad : Nat → Nat) (k : Nat) (a0 : Int64) (a1 : Int64) (Q : Int64 → Prop) (hR : wqJ9_floorDiv_f86c9 k a0 a1 Q) : MetL l yJ9_floorDiv_f86c9 wsJ9_floorDiv_f86c9 0 0 0 0 D (TYS cI cJ cB cZ) [] [.long a0, .long a1] (fun r _ => Q r) (fun _ : Unit => []) := by
  refine xF_startL (ty := .long) (cc := cJ9_floorDiv_f86c9) (by decide +kernel) rfl (Nat.le_of_ble_eq_true rfl) ?_
  intro p e s m args below meth c A ls B hr hnm h hl
  have hx := B.1.1
  have hb := B.1.2.1
  have hml := B.1.2.2.1
  have hts := B.1.2.2.2.2
  have hown : s.vm.findClass RJ9 = some m.cls := B.1.2.2.2.1
  have main : ∀ k : Nat, (∀ (li : Nat → Int32) (lj : Nat → Int64) (H : Heap) (locs : List Loc) (ls : Array Slot), wpJ9_floorDiv_f86c9 k 0 li lj Q → lv_has ls 6 [(0, .long (lj 0)), (2, .long (lj 2))] → Hp D A s.heap [] H locs → W p l e { frames := 0, cells := 0, slots := 0, locals := 0 } s m args below meth c H locs 0 0 (MQ below (va_Ql (fun r _ => Q r) (fun u t => xEnd D ((fun _ : Unit => []) u) A t) A) args s 0 0 A) (F0 m 0 ls [])) ∧
      (∀ (li : Nat → Int32) (lj : Nat → Int64) (H : Heap) (locs : List Loc) (ls : Array Slot), wpJ9_floorDiv_f86c9 k 1 li lj Q → lv_has ls 6 [(0, .long (lj 0)), (2, .long (lj 2)), (4, .long (lj 4))] → Hp D A s.heap [] H locs → W p l e { frames := 0, cells := 0, slots := 0, locals := 0 } s m args below meth c H locs 0 0 (MQ below (va_Ql (fun r _ => Q r) (fun u t => xEnd D ((fun _ : Unit => []) u) A t) A) args s 0 0 A) (F0 m 27 ls [])) := by
    intro k
    induction k with
    | zero => exact ⟨fun _ _ _ _ _ hR => False.elim hR, fun _ _ _ _ _ hR => False.elim hR⟩
    | succ k ih =>
      refine ⟨?_, ?_⟩
      · intro li lj H locs ls hR hl h
        have hR : wbJ9_floorDiv_f86c9_0 (wpJ9_floorDiv_f86c9 k) k li lj Q := hR
        unfold wbJ9_floorDiv_f86c9_0 at hR
        refine lv_lload_n hx hb dJ9_floorDiv_f86c9_0 rfl (lv_at hl 0 rfl) ?_
        refine lv_lload_n hx hb dJ9_floorDiv_f86c9_1 rfl (lv_at hl 1 rfl) ?_
        obtain ⟨hd_1, hR⟩ := hR
        refine lv_ldiv hx hb dJ9_floorDiv_f86c9_2 hd_1 ?_
        refine lv_topl (fun v_1 ev_1 => ?_)
        have hR := hR v_1 ev_1
        refine lv_lstore (lv' := [(4, .long v_1), (0, .long (lj 0)), (2, .long (lj 2))]) hx hb dJ9_floorDiv_f86c9_3 hl (by decide) rfl (fun ls hl => ?_)
        refine lv_lload_n hx hb dJ9_floorDiv_f86c9_5 rfl (lv_at hl 1 rfl) ?_
        refine lv_lload_n hx hb dJ9_floorDiv_f86c9_6 rfl (lv_at hl 2 rfl) ?_
        refine lv_lxor hx hb dJ9_floorDiv_f86c9_7 ?_
        refine lv_topl (fun v_2 ev_2 => ?_)
        have hR := hR v_2 ev_2
        refine lv_lconst (v := 0) hx hb dJ9_floorDiv_f86c9_8 (by decide) ?_
        refine W.lcmp hx hb dJ9_floorDiv_f86c9_9 ?_
        refine lv_topi (fun v_3 ev_3 => ?_)
        have hR := hR v_3 ev_3
        refine lv_if_ge (tgt := 27) hx hb dJ9_floorDiv_f86c9_10 (by decide) (fun c_4 => ?_) (fun c_4 => ?_)
        · have hR := hR.1 c_4
          exact ih.2 li (uI lj 4 v_1) H locs ls hR (lv_sub hl [1, 2, 0] rfl) h
        · have hR := hR.2 c_4
          refine lv_lload hx hb dJ9_floorDiv_f86c9_13 (lv_at hl 0 rfl) ?_
          refine lv_lload_n hx hb dJ9_floorDiv_f86c9_15 rfl (lv_at hl 2 rfl) ?_
          refine lv_lmul hx hb dJ9_floorDiv_f86c9_16 ?_
          refine lv_topl (fun v_5 ev_5 => ?_)
          have hR := hR v_5 ev_5
          refine lv_lload_n hx hb dJ9_floorDiv_f86c9_17 rfl (lv_at hl 1 rfl) ?_
          refine W.lcmp hx hb dJ9_floorDiv_f86c9_18 ?_
          refine lv_topi (fun v_6 ev_6 => ?_)
          have hR := hR v_6 ev_6
          refine lv_if_eq (tgt := 27) hx hb dJ9_floorDiv_f86c9_19 (by decide) (fun c_7 => ?_) (fun c_7 => ?_)
          · have hR := hR.1 c_7
            exact ih.2 li (uI lj 4 v_1) H locs ls hR (lv_sub hl [1, 2, 0] rfl) h
          · have hR := hR.2 c_7
            refine lv_lload hx hb dJ9_floorDiv_f86c9_22 (lv_at hl 0 rfl) ?_
            refine lv_lconst (v := 1) hx hb dJ9_floorDiv_f86c9_24 (by decide) ?_
            refine lv_lsub hx hb dJ9_floorDiv_f86c9_25 ?_
            refine lv_topl (fun v_8 ev_8 => ?_)
            have hR := hR v_8 ev_8
            exact x_lret (w1 := (fun _ : Unit => [])) () B h hr hR dJ9_floorDiv_f86c9_26
      · intro li lj H locs ls hR hl h
        have hR : wbJ9_floorDiv_f86c9_1 (wpJ9_floorDiv_f86c9 k) k li lj Q := hR
        unfold wbJ9_floorDiv_f86c9_1 at hR
        refine lv_lload hx hb dJ9_floorDiv_f86c9_27 (lv_at hl 2 rfl) ?_
        exact x_lret (w1 := (fun _ : Unit => [])) () B h hr hR dJ9_floorDiv_f86c9_29
  exact (main k).1 _ _ s.heap [] ls hR hl h
set_option maxRecDepth 20000 in
theorem ggX5_nearest_J9_floorDiv_f86c9 : GoodIn wsX5_nearest wsJ9_floorDiv_f86c9 := goodIn_r _ [9] (by decide +kernel) (by decide +kernel)
set_option maxRecDepth 20000 in
theorem gX5_nearest_J9_floorDiv_f86c9 : GoodIn wsX5_nearest (va_wsS RX5 99 yJ9_floorDiv_f86c9 wsJ9_floorDiv_f86c9) := goodIn_app (goodIn_of _ (by decide +kernel)) ggX5_nearest_J9_floorDiv_f86c9
def wbX5_nearest_0 (rec : Nat → (Nat → Int32) → (Nat → Int64) → (Int64 → Prop) → Prop) (k : Nat) (li : Nat → Int32) (lj : Nat → Int64) (Q : Int64 → Prop) : Prop :=
  (∀ v_1 : Int32, v_1 = (lg_cmp (lj 2) 0) → ((¬ v_1 = 0) → (∀ v_3 : Int64, v_3 = (if 0 < (lj 2) then (lj 2) else -(lj 2)) → (∀ v_4 : Int64, v_4 = (2 * (lj 0)) → (∀ v_5 : Int64, v_5 = (v_4 + v_3) → (∀ v_6 : Int64, v_6 = (2 * v_3) → (wqJ9_floorDiv_f86c9 k v_5 v_6 (fun r_7 => (∀ v_8 : Int32, v_8 = (lg_cmp (lj 2) 0) → (((0 : Int32) ≤ v_8) → Q r_7) ∧ (¬ ((0 : Int32) ≤ v_8) → (∀ v_10 : Int64, v_10 = (-r_7) → Q v_10)))))))))) ∧ ((v_1 = 0) → Q 0))
def wpX5_nearest : Nat → Nat → (Nat → Int32) → (Nat → Int64) → (Int64 → Prop) → Prop
  | 0, _, _, _, _ => False
  | k + 1, 0, li, lj, Q => wbX5_nearest_0 (wpX5_nearest k) k li lj Q
  | _ + 1, _, _, _, _ => False
def wqX5_nearest (k : Nat) (a0 : Int64) (a1 : Int64) (Q : Int64 → Prop) : Prop := wpX5_nearest k 0 (fun _ => 0) (uI (uI (fun _ => 0) 0 a0) 2 a1) Q
set_option maxHeartbeats 8000000 in
set_option maxRecDepth 100000 in
theorem wkX5_nearest (l : Launch) (D : va_G) (cI cJ cB cZ : ClassId) (ad : Nat → Nat) (k : Nat) (a0 : Int64) (a1 : Int64) (Q : Int64 → Prop) (hR : wqX5_nearest k a0 a1 Q) : MetL l yX5_nearest wsX5_nearest 1 25 0 0 D (TYS cI cJ cB cZ) [] [.long a0, .long a1] (fun r _ => Q r) (fun _ : Unit => []) := by
  refine x_startL (ty := .long) (cc := cX5_nearest) (by decide) rfl (Nat.le_of_ble_eq_true rfl) ?_
  intro p e s m args below meth c A ls B hr hnm h hl
  have hx := B.1.1
  have hb := B.1.2.1
  have hml := B.1.2.2.1
  have hts := B.1.2.2.2.2
  have hown : s.vm.findClass RX5 = some m.cls := B.1.2.2.2.1
  have main : ∀ k : Nat, (∀ (li : Nat → Int32) (lj : Nat → Int64) (H : Heap) (locs : List Loc) (ls : Array Slot), wpX5_nearest k 0 li lj Q → lv_has ls 8 [(0, .long (lj 0)), (2, .long (lj 2))] → Hp D A s.heap [] H locs → W p l e { frames := 1, cells := 0, slots := 0, locals := 25 } s m args below meth c H locs 0 0 (MQ below (va_Ql (fun r _ => Q r) (fun u t => xEnd D ((fun _ : Unit => []) u) A t) A) args s 0 0 A) (F0 m 0 ls [])) := by
    intro k
    induction k with
    | zero => exact fun _ _ _ _ _ hR => False.elim hR
    | succ k ih =>
      intro li lj H locs ls hR hl h
      have hR : wbX5_nearest_0 (wpX5_nearest k) k li lj Q := hR
      unfold wbX5_nearest_0 at hR
      refine lv_lload_n hx hb dX5_nearest_0 rfl (lv_at hl 1 rfl) ?_
      refine lv_lconst (v := 0) hx hb dX5_nearest_1 (by decide) ?_
      refine W.lcmp hx hb dX5_nearest_2 ?_
      refine lv_topi (fun v_1 ev_1 => ?_)
      have hR := hR v_1 ev_1
      refine lv_if_ne (tgt := 8) hx hb dX5_nearest_3 (by decide) (fun c_2 => ?_) (fun c_2 => ?_)
      · have hR := hR.1 c_2
        refine lv_lload_n hx hb dX5_nearest_8 rfl (lv_at hl 1 rfl) ?_
        refine va_mabs_long hx hb (hml.trans hl.1.symm) hown (hts (.methodLink RX5 88 Lib.MathLoose.abs_long.x) (by decide +kernel)) (hts (.static Lib.MathLoose.abs_long.x) (by decide +kernel)) (hts (.initialized "java/lang/Math") (by decide +kernel)) (hts (.code Lib.MathLoose.abs_long.x Lib.MathLoose.abs_long.code 2 (some .long)) (by decide +kernel)) (Nat.le_of_ble_eq_true rfl) (Nat.le_of_ble_eq_true rfl) (Nat.le_of_ble_eq_true rfl) (Nat.le_of_ble_eq_true rfl) dX5_nearest_9 ?_
        refine lv_topl (fun v_3 ev_3 => ?_)
        have hR := hR v_3 ev_3
        refine lv_lstore (lv' := [(4, .long v_3), (0, .long (lj 0)), (2, .long (lj 2))]) hx hb dX5_nearest_12 hl (by decide) rfl (fun ls hl => ?_)
        refine lv_ldc2 (v := 2) hx hb hown (hts (.constantLong RX5 97 2) (by decide +kernel)) dX5_nearest_14 ?_
        refine lv_lload_n hx hb dX5_nearest_17 rfl (lv_at hl 1 rfl) ?_
        refine lv_lmul hx hb dX5_nearest_18 ?_
        refine lv_topl (fun v_4 ev_4 => ?_)
        have hR := hR v_4 ev_4
        refine lv_lload hx hb dX5_nearest_19 (lv_at hl 0 rfl) ?_
        refine lv_ladd hx hb dX5_nearest_21 ?_
        refine lv_topl (fun v_5 ev_5 => ?_)
        have hR := hR v_5 ev_5
        refine lv_ldc2 (v := 2) hx hb hown (hts (.constantLong RX5 97 2) (by decide +kernel)) dX5_nearest_22 ?_
        refine lv_lload hx hb dX5_nearest_25 (lv_at hl 0 rfl) ?_
        refine lv_lmul hx hb dX5_nearest_27 ?_
        refine lv_topl (fun v_6 ev_6 => ?_)
        have hR := hR v_6 ev_6
        refine x_cSLE (n := 2) (As := [.long v_5, .long v_6]) (rest := []) B h (wkJ9_floorDiv_f86c9 l D cI cJ cB cZ ad k v_5 v_6 _ hR) ⟨⟨_, rfl⟩, by decide +kernel, Nat.le_of_ble_eq_true rfl, Nat.le_of_ble_eq_true rfl⟩ gX5_nearest_J9_floorDiv_f86c9 rfl hl.1 rfl (Nat.le_of_ble_eq_true rfl) dX5_nearest_28 ⟨Nat.le_of_ble_eq_true rfl, Nat.le_of_ble_eq_true rfl⟩ (fun r_7 _ H locs hR h => ?_)
        refine lv_lstore (lv' := [(6, .long r_7), (4, .long v_3), (0, .long (lj 0)), (2, .long (lj 2))]) hx hb dX5_nearest_31 hl (by decide) rfl (fun ls hl => ?_)
        refine lv_lload_n hx hb dX5_nearest_33 rfl (lv_at hl 3 rfl) ?_
        refine lv_lconst (v := 0) hx hb dX5_nearest_34 (by decide) ?_
        refine W.lcmp hx hb dX5_nearest_35 ?_
        refine lv_topi (fun v_8 ev_8 => ?_)
        have hR := hR v_8 ev_8
        refine lv_if_ge (tgt := 45) hx hb dX5_nearest_36 (by decide) (fun c_9 => ?_) (fun c_9 => ?_)
        · have hR := hR.1 c_9
          refine lv_lload hx hb dX5_nearest_45 (lv_at hl 0 rfl) ?_
          exact x_lret (w1 := (fun _ : Unit => [])) () B h hr hR dX5_nearest_47
        · have hR := hR.2 c_9
          refine lv_lload hx hb dX5_nearest_39 (lv_at hl 0 rfl) ?_
          refine lv_lneg hx hb dX5_nearest_41 ?_
          refine lv_topl (fun v_10 ev_10 => ?_)
          have hR := hR v_10 ev_10
          refine lv_goto (tgt := 47) hx hb dX5_nearest_42 (by decide) ?_
          exact x_lret (w1 := (fun _ : Unit => [])) () B h hr hR dX5_nearest_47
      · have hR := hR.2 c_2
        refine lv_lconst (v := 0) hx hb dX5_nearest_6 (by decide) ?_
        exact x_lret (w1 := (fun _ : Unit => [])) () B h hr hR dX5_nearest_7
  exact (main k) _ _ s.heap [] ls hR hl h
