/-! ===== any method from any state: states, how they change ===== -/
abbrev XT : Type := (Nat → Int32) × (Nat → Int64) × (Nat → Nat → Int32) × (Nat → Nat → Int64)
def wX (cI cJ cB cZ : ClassId) (ad : Nat → Nat) (t : XT) : va_W := GX cI cJ cB cZ ad t.1 t.2.1 t.2.2.1 t.2.2.2
def wM (cI cJ cB cZ : ClassId) (bd : Nat → Nat) (t : XT) : va_W := GM cI cJ cB cZ bd t.1 t.2.1 t.2.2.1 t.2.2.2
def sI (t : XT) (k : Nat) (v : Int32) : XT := (uI t.1 k v, t.2)
def sJ (t : XT) (k : Nat) (v : Int64) : XT := (t.1, uI t.2.1 k v, t.2.2)
def sA (t : XT) (k : Nat) (f : Nat → Int32) : XT := (t.1, t.2.1, uI t.2.2.1 k f, t.2.2.2)
def sB (t : XT) (k : Nat) (f : Nat → Int64) : XT := (t.1, t.2.1, t.2.2.1, uI t.2.2.2 k f)
section ROWS5
variable {p : Program} {l : Launch} {e : Env} {R : Room} {s : State} {m : MethodId} {args : Array Value} {below : List Frame} {meth : Method} {c : Code} {H : Heap} {locs : List Loc} {cells slots : Nat} {Q : State → Prop}
variable {cc : ByteArray} {nL pc : Nat} {Ts : List Cond} {own : String} {D : va_G} {tys : List (ClassId × FieldType)} {A : Nat → Prop} {H0 : Heap} {ls : Array Slot} {rest : List Value} {ws : va_W} {a : Nat} {cA : ClassId} {n : Nat} {i : Int32}
theorem z_iast {f : Nat → Int32} {x : Int32} (B : Bd p s m args meth c cc nL Ts own D tys) (h : Hp D A H0 ws H locs) (q0 t0 : Nat) (ha : ws[q0]? = some (a, .inl (cA, n, .inl f))) (ht : tys[t0]? = some (cA, .int)) (hin : vp_in i n) (hdg : decode cc pc = .ok (.iastore, 1))
    (kk : ∀ (H1 : Heap) (locs1 : List Loc), Hp D A H0 (ws.set q0 (a, .inl (cA, n, .inl (upd f i.toNatClampNeg x)))) H1 locs1 → W p l e R s m args below meth c H1 locs1 cells slots Q (F0 m (pc + 1) ls rest)) : W p l e R s m args below meth c H locs cells slots Q (F0 m pc ls (.int x :: .int i :: .ref a :: rest)) :=
  va_iast (D := D) B.1.1 B.1.2.1 B.2.1 h.1 h.2.1 h.2.2.1 q0 t0 ha ht hin hdg (fun H1 locs1 hP hD hS => kk H1 locs1 ⟨hP, hD, hS, h.2.2.2⟩)
theorem z_bast {f : Nat → Int32} {x : Int32} (B : Bd p s m args meth c cc nL Ts own D tys) (h : Hp D A H0 ws H locs) (q0 t0 : Nat) (ha : ws[q0]? = some (a, .inl (cA, n, .inl f))) (ht : tys[t0]? = some (cA, .byte)) (hin : vp_in i n) (hdg : decode cc pc = .ok (.bastore, 1))
    (kk : ∀ (H1 : Heap) (locs1 : List Loc), Hp D A H0 (ws.set q0 (a, .inl (cA, n, .inl (upd f i.toNatClampNeg (vp_nar .byte x))))) H1 locs1 → W p l e R s m args below meth c H1 locs1 cells slots Q (F0 m (pc + 1) ls rest)) : W p l e R s m args below meth c H locs cells slots Q (F0 m pc ls (.int x :: .int i :: .ref a :: rest)) :=
  va_bast (D := D) B.1.1 B.1.2.1 B.2.1 h.1 h.2.1 h.2.2.1 q0 t0 ha ht hin hdg (fun H1 locs1 hP hD hS => kk H1 locs1 ⟨hP, hD, hS, h.2.2.2⟩)
theorem z_zast {f : Nat → Int32} {x : Int32} (B : Bd p s m args meth c cc nL Ts own D tys) (h : Hp D A H0 ws H locs) (q0 t0 : Nat) (ha : ws[q0]? = some (a, .inl (cA, n, .inl f))) (ht : tys[t0]? = some (cA, .boolean)) (hin : vp_in i n) (hdg : decode cc pc = .ok (.bastore, 1))
    (kk : ∀ (H1 : Heap) (locs1 : List Loc), Hp D A H0 (ws.set q0 (a, .inl (cA, n, .inl (upd f i.toNatClampNeg (vp_nar .boolean x))))) H1 locs1 → W p l e R s m args below meth c H1 locs1 cells slots Q (F0 m (pc + 1) ls rest)) : W p l e R s m args below meth c H locs cells slots Q (F0 m pc ls (.int x :: .int i :: .ref a :: rest)) :=
  va_zast (D := D) B.1.1 B.1.2.1 B.2.1 h.1 h.2.1 h.2.2.1 q0 t0 ha ht hin hdg (fun H1 locs1 hP hD hS => kk H1 locs1 ⟨hP, hD, hS, h.2.2.2⟩)
theorem z_last {f : Nat → Int64} {x : Int64} (B : Bd p s m args meth c cc nL Ts own D tys) (h : Hp D A H0 ws H locs) (q0 t0 : Nat) (ha : ws[q0]? = some (a, .inl (cA, n, .inr (.inl f)))) (ht : tys[t0]? = some (cA, .long)) (hin : vp_in i n) (hdg : decode cc pc = .ok (.lastore, 1))
    (kk : ∀ (H1 : Heap) (locs1 : List Loc), Hp D A H0 (ws.set q0 (a, .inl (cA, n, .inr (.inl (vp_updL f i.toNatClampNeg x))))) H1 locs1 → W p l e R s m args below meth c H1 locs1 cells slots Q (F0 m (pc + 1) ls rest)) : W p l e R s m args below meth c H locs cells slots Q (F0 m pc ls (.long x :: .int i :: .ref a :: rest)) :=
  va_last (D := D) B.1.1 B.1.2.1 B.2.1 h.1 h.2.1 h.2.2.1 q0 t0 ha ht hin hdg (fun H1 locs1 hP hD hS => kk H1 locs1 ⟨hP, hD, hS, h.2.2.2⟩)
end ROWS5
theorem dX12_in_0 : decode cX12_in 0 = .ok (.iload_n 0, 1) := by decide +kernel
theorem dX12_in_1 : decode cX12_in 1 = .ok (.iload_n 1, 1) := by decide +kernel
theorem dX12_in_2 : decode cX12_in 2 = .ok (.if_icmp .lt 12, 3) := by decide +kernel
theorem dX12_in_5 : decode cX12_in 5 = .ok (.iload_n 0, 1) := by decide +kernel
theorem dX12_in_6 : decode cX12_in 6 = .ok (.iload_n 2, 1) := by decide +kernel
theorem dX12_in_7 : decode cX12_in 7 = .ok (.if_icmp .gt 7, 3) := by decide +kernel
theorem dX12_in_10 : decode cX12_in 10 = .ok (.iconst 1, 1) := by decide +kernel
theorem dX12_in_11 : decode cX12_in 11 = .ok (.goto 4, 3) := by decide +kernel
theorem dX12_in_14 : decode cX12_in 14 = .ok (.iconst 0, 1) := by decide +kernel
theorem dX12_in_15 : decode cX12_in 15 = .ok (.ireturn, 1) := by decide +kernel
theorem dX12_truth_0 : decode cX12_truth 0 = .ok (.iload_n 0, 1) := by decide +kernel
theorem dX12_truth_1 : decode cX12_truth 1 = .ok (.ifCond .eq 7, 3) := by decide +kernel
theorem dX12_truth_4 : decode cX12_truth 4 = .ok (.iconst 1, 1) := by decide +kernel
theorem dX12_truth_5 : decode cX12_truth 5 = .ok (.goto 4, 3) := by decide +kernel
theorem dX12_truth_8 : decode cX12_truth 8 = .ok (.iconst 0, 1) := by decide +kernel
theorem dX12_truth_9 : decode cX12_truth 9 = .ok (.ireturn, 1) := by decide +kernel
theorem dX12_byteNow_0 : decode cX12_byteNow 0 = .ok (.aload_n 0, 1) := by decide +kernel
theorem dX12_byteNow_1 : decode cX12_byteNow 1 = .ok (.getfield 91, 3) := by decide +kernel
theorem dX12_byteNow_4 : decode cX12_byteNow 4 = .ok (.aload_n 0, 1) := by decide +kernel
theorem dX12_byteNow_5 : decode cX12_byteNow 5 = .ok (.getfield 83, 3) := by decide +kernel
theorem dX12_byteNow_8 : decode cX12_byteNow 8 = .ok (.if_icmp .ge 19, 3) := by decide +kernel
theorem dX12_byteNow_11 : decode cX12_byteNow 11 = .ok (.aload_n 0, 1) := by decide +kernel
theorem dX12_byteNow_12 : decode cX12_byteNow 12 = .ok (.getfield 13, 3) := by decide +kernel
theorem dX12_byteNow_15 : decode cX12_byteNow 15 = .ok (.aload_n 0, 1) := by decide +kernel
theorem dX12_byteNow_16 : decode cX12_byteNow 16 = .ok (.getfield 91, 3) := by decide +kernel
theorem dX12_byteNow_19 : decode cX12_byteNow 19 = .ok (.baload, 1) := by decide +kernel
theorem dX12_byteNow_20 : decode cX12_byteNow 20 = .ok (.sipush 255, 3) := by decide +kernel
theorem dX12_byteNow_23 : decode cX12_byteNow 23 = .ok (.iand, 1) := by decide +kernel
theorem dX12_byteNow_24 : decode cX12_byteNow 24 = .ok (.goto 4, 3) := by decide +kernel
theorem dX12_byteNow_27 : decode cX12_byteNow 27 = .ok (.iconst (-1), 1) := by decide +kernel
theorem dX12_byteNow_28 : decode cX12_byteNow 28 = .ok (.ireturn, 1) := by decide +kernel
theorem dX12_blanks_0 : decode cX12_blanks 0 = .ok (.aload_n 0, 1) := by decide +kernel
theorem dX12_blanks_1 : decode cX12_blanks 1 = .ok (.invokevirtual 94, 3) := by decide +kernel
theorem dX12_blanks_4 : decode cX12_blanks 4 = .ok (.bipush 32, 2) := by decide +kernel
theorem dX12_blanks_6 : decode cX12_blanks 6 = .ok (.if_icmp .ne 16, 3) := by decide +kernel
theorem dX12_blanks_9 : decode cX12_blanks 9 = .ok (.aload_n 0, 1) := by decide +kernel
theorem dX12_blanks_10 : decode cX12_blanks 10 = .ok (.dup, 1) := by decide +kernel
theorem dX12_blanks_11 : decode cX12_blanks 11 = .ok (.getfield 91, 3) := by decide +kernel
theorem dX12_blanks_14 : decode cX12_blanks 14 = .ok (.iconst 1, 1) := by decide +kernel
theorem dX12_blanks_15 : decode cX12_blanks 15 = .ok (.iadd, 1) := by decide +kernel
theorem dX12_blanks_16 : decode cX12_blanks 16 = .ok (.putfield 91, 3) := by decide +kernel
theorem dX12_blanks_19 : decode cX12_blanks 19 = .ok (.goto (-19), 3) := by decide +kernel
theorem dX12_blanks_22 : decode cX12_blanks 22 = .ok (.return_, 1) := by decide +kernel
theorem dX12_fails_0 : decode cX12_fails 0 = .ok (.aload_n 0, 1) := by decide +kernel
theorem dX12_fails_1 : decode cX12_fails 1 = .ok (.getfield 98, 3) := by decide +kernel
theorem dX12_fails_4 : decode cX12_fails 4 = .ok (.iconst (-1), 1) := by decide +kernel
theorem dX12_fails_5 : decode cX12_fails 5 = .ok (.if_icmp .ne 13, 3) := by decide +kernel
theorem dX12_fails_8 : decode cX12_fails 8 = .ok (.aload_n 0, 1) := by decide +kernel
theorem dX12_fails_9 : decode cX12_fails 9 = .ok (.bipush 8, 2) := by decide +kernel
theorem dX12_fails_11 : decode cX12_fails 11 = .ok (.iload_n 2, 1) := by decide +kernel
theorem dX12_fails_12 : decode cX12_fails 12 = .ok (.imul, 1) := by decide +kernel
theorem dX12_fails_13 : decode cX12_fails 13 = .ok (.iload_n 1, 1) := by decide +kernel
theorem dX12_fails_14 : decode cX12_fails 14 = .ok (.iadd, 1) := by decide +kernel
theorem dX12_fails_15 : decode cX12_fails 15 = .ok (.putfield 98, 3) := by decide +kernel
theorem dX12_fails_18 : decode cX12_fails 18 = .ok (.return_, 1) := by decide +kernel
theorem dX12_isRight_0 : decode cX12_isRight 0 = .ok (.aload_n 0, 1) := by decide +kernel
theorem dX12_isRight_1 : decode cX12_isRight 1 = .ok (.getfield 98, 3) := by decide +kernel
theorem dX12_isRight_4 : decode cX12_isRight 4 = .ok (.iconst (-1), 1) := by decide +kernel
theorem dX12_isRight_5 : decode cX12_isRight 5 = .ok (.if_icmp .ne 7, 3) := by decide +kernel
theorem dX12_isRight_8 : decode cX12_isRight 8 = .ok (.iconst 1, 1) := by decide +kernel
theorem dX12_isRight_9 : decode cX12_isRight 9 = .ok (.goto 4, 3) := by decide +kernel
theorem dX12_isRight_12 : decode cX12_isRight 12 = .ok (.iconst 0, 1) := by decide +kernel
theorem dX12_isRight_13 : decode cX12_isRight 13 = .ok (.ireturn, 1) := by decide +kernel
theorem dX12_isLetter_0 : decode cX12_isLetter 0 = .ok (.aload_n 0, 1) := by decide +kernel
theorem dX12_isLetter_1 : decode cX12_isLetter 1 = .ok (.invokevirtual 94, 3) := by decide +kernel
theorem dX12_isLetter_4 : decode cX12_isLetter 4 = .ok (.bipush 97, 2) := by decide +kernel
theorem dX12_isLetter_6 : decode cX12_isLetter 6 = .ok (.bipush 104, 2) := by decide +kernel
theorem dX12_isLetter_8 : decode cX12_isLetter 8 = .ok (.invokestatic 101, 3) := by decide +kernel
theorem dX12_isLetter_11 : decode cX12_isLetter 11 = .ok (.ireturn, 1) := by decide +kernel
theorem dX12_takesSets_0 : decode cX12_takesSets 0 = .ok (.iconst 1, 1) := by decide +kernel
theorem dX12_takesSets_1 : decode cX12_takesSets 1 = .ok (.istore_n 2, 1) := by decide +kernel
theorem dX12_takesSets_2 : decode cX12_takesSets 2 = .ok (.iload_n 2, 1) := by decide +kernel
theorem dX12_takesSets_3 : decode cX12_takesSets 3 = .ok (.sipush 256, 3) := by decide +kernel
theorem dX12_takesSets_6 : decode cX12_takesSets 6 = .ok (.if_icmp .ge 24, 3) := by decide +kernel
theorem dX12_takesSets_9 : decode cX12_takesSets 9 = .ok (.iload_n 2, 1) := by decide +kernel
theorem dX12_takesSets_10 : decode cX12_takesSets 10 = .ok (.iload_n 1, 1) := by decide +kernel
theorem dX12_takesSets_11 : decode cX12_takesSets 11 = .ok (.iconst (-1), 1) := by decide +kernel
theorem dX12_takesSets_12 : decode cX12_takesSets 12 = .ok (.ixor, 1) := by decide +kernel
theorem dX12_takesSets_13 : decode cX12_takesSets 13 = .ok (.iand, 1) := by decide +kernel
theorem dX12_takesSets_14 : decode cX12_takesSets 14 = .ok (.ifCond .ne 10, 3) := by decide +kernel
theorem dX12_takesSets_17 : decode cX12_takesSets 17 = .ok (.aload_n 0, 1) := by decide +kernel
theorem dX12_takesSets_18 : decode cX12_takesSets 18 = .ok (.getfield 17, 3) := by decide +kernel
theorem dX12_takesSets_21 : decode cX12_takesSets 21 = .ok (.iload_n 2, 1) := by decide +kernel
theorem dX12_takesSets_22 : decode cX12_takesSets 22 = .ok (.iconst 1, 1) := by decide +kernel
theorem dX12_takesSets_23 : decode cX12_takesSets 23 = .ok (.bastore, 1) := by decide +kernel
theorem dX12_takesSets_24 : decode cX12_takesSets 24 = .ok (.iinc 2 1, 3) := by decide +kernel
theorem dX12_takesSets_27 : decode cX12_takesSets 27 = .ok (.goto (-25), 3) := by decide +kernel
theorem dX12_takesSets_30 : decode cX12_takesSets 30 = .ok (.return_, 1) := by decide +kernel
theorem dX12_toldMany_0 : decode cX12_toldMany 0 = .ok (.iconst 0, 1) := by decide +kernel
theorem dX12_toldMany_1 : decode cX12_toldMany 1 = .ok (.istore_n 1, 1) := by decide +kernel
theorem dX12_toldMany_2 : decode cX12_toldMany 2 = .ok (.iconst 1, 1) := by decide +kernel
theorem dX12_toldMany_3 : decode cX12_toldMany 3 = .ok (.istore_n 2, 1) := by decide +kernel
theorem dX12_toldMany_4 : decode cX12_toldMany 4 = .ok (.iload_n 2, 1) := by decide +kernel
theorem dX12_toldMany_5 : decode cX12_toldMany 5 = .ok (.sipush 256, 3) := by decide +kernel
theorem dX12_toldMany_8 : decode cX12_toldMany 8 = .ok (.if_icmp .ge 21, 3) := by decide +kernel
theorem dX12_toldMany_11 : decode cX12_toldMany 11 = .ok (.iload_n 1, 1) := by decide +kernel
theorem dX12_toldMany_12 : decode cX12_toldMany 12 = .ok (.aload_n 0, 1) := by decide +kernel
theorem dX12_toldMany_13 : decode cX12_toldMany 13 = .ok (.getfield 17, 3) := by decide +kernel
theorem dX12_toldMany_16 : decode cX12_toldMany 16 = .ok (.iload_n 2, 1) := by decide +kernel
theorem dX12_toldMany_17 : decode cX12_toldMany 17 = .ok (.baload, 1) := by decide +kernel
theorem dX12_toldMany_18 : decode cX12_toldMany 18 = .ok (.invokestatic 105, 3) := by decide +kernel
theorem dX12_toldMany_21 : decode cX12_toldMany 21 = .ok (.iadd, 1) := by decide +kernel
theorem dX12_toldMany_22 : decode cX12_toldMany 22 = .ok (.istore_n 1, 1) := by decide +kernel
theorem dX12_toldMany_23 : decode cX12_toldMany 23 = .ok (.iinc 2 1, 3) := by decide +kernel
theorem dX12_toldMany_26 : decode cX12_toldMany 26 = .ok (.goto (-22), 3) := by decide +kernel
theorem dX12_toldMany_29 : decode cX12_toldMany 29 = .ok (.iload_n 1, 1) := by decide +kernel
theorem dX12_toldMany_30 : decode cX12_toldMany 30 = .ok (.ireturn, 1) := by decide +kernel
set_option maxRecDepth 20000 in
theorem ggX12_blanks_X12_byteNow : GoodIn wsX12_blanks wsX12_byteNow := goodIn_r _ [6, 1, 7, 8, 9, 10, 11, 12, 13, 14, 15, 16, 17, 18, 19, 20, 21, 22, 23, 24, 25, 26, 27, 28, 29, 30, 31, 32, 33, 34, 35, 36, 37, 38, 39] (by decide +kernel) (by decide +kernel)
set_option maxRecDepth 20000 in
theorem gX12_blanks_X12_byteNow : GoodIn wsX12_blanks (wsV RX12 94 RX12 yX12_byteNow wsX12_byteNow) := goodIn_app (goodIn_of _ (by decide +kernel)) ggX12_blanks_X12_byteNow
set_option maxRecDepth 20000 in
theorem ggX12_isLetter_X12_byteNow : GoodIn wsX12_isLetter wsX12_byteNow := goodIn_r _ [5, 6, 7, 8, 12, 13, 14, 15, 16, 17, 18, 19, 20, 21, 22, 23, 24, 25, 26, 27, 28, 29, 30, 31, 32, 33, 34, 35, 36, 37, 38, 39, 40, 41, 42] (by decide +kernel) (by decide +kernel)
set_option maxRecDepth 20000 in
theorem gX12_isLetter_X12_byteNow : GoodIn wsX12_isLetter (wsV RX12 94 RX12 yX12_byteNow wsX12_byteNow) := goodIn_app (goodIn_of _ (by decide +kernel)) ggX12_isLetter_X12_byteNow
set_option maxRecDepth 20000 in
theorem ggX12_isLetter_X12_in : GoodIn wsX12_isLetter wsX12_in := goodIn_r _ [11] (by decide +kernel) (by decide +kernel)
set_option maxRecDepth 20000 in
theorem gX12_isLetter_X12_in : GoodIn wsX12_isLetter (va_wsS RX12 101 yX12_in wsX12_in) := goodIn_app (goodIn_of _ (by decide +kernel)) ggX12_isLetter_X12_in
set_option maxRecDepth 20000 in
theorem ggX12_toldMany_X12_truth : GoodIn wsX12_toldMany wsX12_truth := goodIn_r _ [5] (by decide +kernel) (by decide +kernel)
set_option maxRecDepth 20000 in
theorem gX12_toldMany_X12_truth : GoodIn wsX12_toldMany (va_wsS RX12 105 yX12_truth wsX12_truth) := goodIn_app (goodIn_of _ (by decide +kernel)) ggX12_toldMany_X12_truth
def wbX12_in_0 (rec : Nat → (Nat → Int32) → (Nat → Int64) → (Int32 → Prop) → Prop) (k : Nat) (li : Nat → Int32) (lj : Nat → Int64) (Q : Int32 → Prop) : Prop :=
  (((li 0) < (li 1)) → rec 1 li lj Q) ∧ (¬ ((li 0) < (li 1)) → ((((li 2) : Int32) < (li 0)) → rec 1 li lj Q) ∧ (¬ (((li 2) : Int32) < (li 0)) → Q 1))
def wbX12_in_1 (rec : Nat → (Nat → Int32) → (Nat → Int64) → (Int32 → Prop) → Prop) (k : Nat) (li : Nat → Int32) (lj : Nat → Int64) (Q : Int32 → Prop) : Prop :=
  Q 0
def wpX12_in : Nat → Nat → (Nat → Int32) → (Nat → Int64) → (Int32 → Prop) → Prop
  | 0, _, _, _, _ => False
  | k + 1, 0, li, lj, Q => wbX12_in_0 (wpX12_in k) k li lj Q
  | k + 1, 1, li, lj, Q => wbX12_in_1 (wpX12_in k) k li lj Q
  | _ + 1, _, _, _, _ => False
def wqX12_in (k : Nat) (a0 : Int32) (a1 : Int32) (a2 : Int32) (Q : Int32 → Prop) : Prop := wpX12_in k 0 (uI (uI (uI (fun _ => 0) 0 a0) 1 a1) 2 a2) (fun _ => 0) Q
set_option maxHeartbeats 8000000 in
set_option maxRecDepth 100000 in
theorem wkX12_in (l : Launch) (D : va_G) (cI cJ cB cZ : ClassId) (ad : Nat → Nat) (k : Nat) (a0 : Int32) (a1 : Int32) (a2 : Int32) (Q : Int32 → Prop) (hR : wqX12_in k a0 a1 a2 Q) : MetI l yX12_in wsX12_in 0 0 0 0 D (TYS cI cJ cB cZ) [] [.int a0, .int a1, .int a2] (fun r _ => Q r) (fun _ : Unit => []) := by
  refine x_startI (ty := .boolean) (cc := cX12_in) (by decide) rfl (Nat.le_of_ble_eq_true rfl) ?_
  intro p e s m args below meth c A ls B hr hnm h hl
  have hx := B.1.1
  have hb := B.1.2.1
  have hml := B.1.2.2.1
  have hts := B.1.2.2.2.2
  have hown : s.vm.findClass RX12 = some m.cls := B.1.2.2.2.1
  have main : ∀ k : Nat, (∀ (li : Nat → Int32) (lj : Nat → Int64) (H : Heap) (locs : List Loc) (ls : Array Slot), wpX12_in k 0 li lj Q → lv_has ls 3 [(0, .int (li 0)), (1, .int (li 1)), (2, .int (li 2))] → Hp D A s.heap [] H locs → W p l e { frames := 0, cells := 0, slots := 0, locals := 0 } s m args below meth c H locs 0 0 (MQ below (va_Qi (fun r _ => Q r) (fun u t => xEnd D ((fun _ : Unit => []) u) A t) A) args s 0 0 A) (F0 m 0 ls [])) ∧
      (∀ (li : Nat → Int32) (lj : Nat → Int64) (H : Heap) (locs : List Loc) (ls : Array Slot), wpX12_in k 1 li lj Q → lv_has ls 3 [(0, .int (li 0)), (1, .int (li 1)), (2, .int (li 2))] → Hp D A s.heap [] H locs → W p l e { frames := 0, cells := 0, slots := 0, locals := 0 } s m args below meth c H locs 0 0 (MQ below (va_Qi (fun r _ => Q r) (fun u t => xEnd D ((fun _ : Unit => []) u) A t) A) args s 0 0 A) (F0 m 14 ls [])) := by
    intro k
    induction k with
    | zero => exact ⟨fun _ _ _ _ _ hR => False.elim hR, fun _ _ _ _ _ hR => False.elim hR⟩
    | succ k ih =>
      refine ⟨?_, ?_⟩
      · intro li lj H locs ls hR hl h
        have hR : wbX12_in_0 (wpX12_in k) k li lj Q := hR
        unfold wbX12_in_0 at hR
        refine lv_iload_n hx hb dX12_in_0 rfl (lv_at hl 0 rfl) ?_
        refine lv_iload_n hx hb dX12_in_1 rfl (lv_at hl 1 rfl) ?_
        refine lv_icmp_lt (tgt := 14) hx hb dX12_in_2 (by decide) (fun c_1 => ?_) (fun c_1 => ?_)
        · have hR := hR.1 c_1
          exact ih.2 li lj H locs ls hR (lv_sub hl [0, 1, 2] rfl) h
        · have hR := hR.2 c_1
          refine lv_iload_n hx hb dX12_in_5 rfl (lv_at hl 0 rfl) ?_
          refine lv_iload_n hx hb dX12_in_6 rfl (lv_at hl 2 rfl) ?_
          refine lv_icmp_gt (tgt := 14) hx hb dX12_in_7 (by decide) (fun c_2 => ?_) (fun c_2 => ?_)
          · have hR := hR.1 c_2
            exact ih.2 li lj H locs ls hR (lv_sub hl [0, 1, 2] rfl) h
          · have hR := hR.2 c_2
            refine lv_iconst (v := 1) hx hb dX12_in_10 (by decide) ?_
            refine lv_goto (tgt := 15) hx hb dX12_in_11 (by decide) ?_
            exact x_iret (w1 := (fun _ : Unit => [])) () B h hr rfl hR dX12_in_15
      · intro li lj H locs ls hR hl h
        have hR : wbX12_in_1 (wpX12_in k) k li lj Q := hR
        unfold wbX12_in_1 at hR
        refine lv_iconst (v := 0) hx hb dX12_in_14 (by decide) ?_
        exact x_iret (w1 := (fun _ : Unit => [])) () B h hr rfl hR dX12_in_15
  exact (main k).1 _ _ s.heap [] ls hR hl h
def wbX12_truth_0 (rec : Nat → (Nat → Int32) → (Nat → Int64) → (Int32 → Prop) → Prop) (k : Nat) (li : Nat → Int32) (lj : Nat → Int64) (Q : Int32 → Prop) : Prop :=
  (((li 0) = 0) → Q 0) ∧ (¬ ((li 0) = 0) → Q 1)
def wpX12_truth : Nat → Nat → (Nat → Int32) → (Nat → Int64) → (Int32 → Prop) → Prop
  | 0, _, _, _, _ => False
  | k + 1, 0, li, lj, Q => wbX12_truth_0 (wpX12_truth k) k li lj Q
  | _ + 1, _, _, _, _ => False
def wqX12_truth (k : Nat) (a0 : Int32) (Q : Int32 → Prop) : Prop := wpX12_truth k 0 (uI (fun _ => 0) 0 a0) (fun _ => 0) Q
set_option maxHeartbeats 8000000 in
set_option maxRecDepth 100000 in
theorem wkX12_truth (l : Launch) (D : va_G) (cI cJ cB cZ : ClassId) (ad : Nat → Nat) (k : Nat) (a0 : Int32) (Q : Int32 → Prop) (hR : wqX12_truth k a0 Q) : MetI l yX12_truth wsX12_truth 0 0 0 0 D (TYS cI cJ cB cZ) [] [.int a0] (fun r _ => Q r) (fun _ : Unit => []) := by
  refine x_startI (ty := .int) (cc := cX12_truth) (by decide) rfl (Nat.le_of_ble_eq_true rfl) ?_
  intro p e s m args below meth c A ls B hr hnm h hl
  have hx := B.1.1
  have hb := B.1.2.1
  have hml := B.1.2.2.1
  have hts := B.1.2.2.2.2
  have hown : s.vm.findClass RX12 = some m.cls := B.1.2.2.2.1
  have main : ∀ k : Nat, (∀ (li : Nat → Int32) (lj : Nat → Int64) (H : Heap) (locs : List Loc) (ls : Array Slot), wpX12_truth k 0 li lj Q → lv_has ls 1 [(0, .int (li 0))] → Hp D A s.heap [] H locs → W p l e { frames := 0, cells := 0, slots := 0, locals := 0 } s m args below meth c H locs 0 0 (MQ below (va_Qi (fun r _ => Q r) (fun u t => xEnd D ((fun _ : Unit => []) u) A t) A) args s 0 0 A) (F0 m 0 ls [])) := by
    intro k
    induction k with
    | zero => exact fun _ _ _ _ _ hR => False.elim hR
    | succ k ih =>
      intro li lj H locs ls hR hl h
      have hR : wbX12_truth_0 (wpX12_truth k) k li lj Q := hR
      unfold wbX12_truth_0 at hR
      refine lv_iload_n hx hb dX12_truth_0 rfl (lv_at hl 0 rfl) ?_
      refine lv_if_eq (tgt := 8) hx hb dX12_truth_1 (by decide) (fun c_1 => ?_) (fun c_1 => ?_)
      · have hR := hR.1 c_1
        refine lv_iconst (v := 0) hx hb dX12_truth_8 (by decide) ?_
        exact x_iret (w1 := (fun _ : Unit => [])) () B h hr rfl hR dX12_truth_9
      · have hR := hR.2 c_1
        refine lv_iconst (v := 1) hx hb dX12_truth_4 (by decide) ?_
        refine lv_goto (tgt := 9) hx hb dX12_truth_5 (by decide) ?_
        exact x_iret (w1 := (fun _ : Unit => [])) () B h hr rfl hR dX12_truth_9
  exact (main k) _ _ s.heap [] ls hR hl h
def wbX12_puts_0 (rec : Nat → XT → (Nat → Int32) → (Nat → Int64) → (XT → Prop) → Prop) (k : Nat) (t : XT) (li : Nat → Int32) (lj : Nat → Int64) (Q : XT → Prop) : Prop :=
  rec 1 t (uI li 2 24) lj Q
def wbX12_puts_1 (rec : Nat → XT → (Nat → Int32) → (Nat → Int64) → (XT → Prop) → Prop) (k : Nat) (t : XT) (li : Nat → Int32) (lj : Nat → Int64) (Q : XT → Prop) : Prop :=
  (((li 2) < 0) → Q t) ∧ (¬ ((li 2) < 0) → (∀ v_2 : Int32, v_2 = ((li 1) >>> ((li 2) &&& 31)) → (∀ v_3 : Int32, v_3 = v_2.toInt8.toInt32 → (vp_in (t.1 0) 160 ∧ (∀ t_4 : XT, t_4 = sA t 0 (upd (t.2.2.1 0) (t.1 0).toNatClampNeg (vp_nar .byte v_3)) → (∀ v_5 : Int32, v_5 = ((t_4.1 0) + 1) → (∀ t_6 : XT, t_6 = sI t_4 0 v_5 → (∀ v_7 : Int32, v_7 = (li 2) + Int32.ofInt (-8) → rec 1 t_6 (uI li 2 v_7) lj Q))))))))
def wpX12_puts : Nat → Nat → XT → (Nat → Int32) → (Nat → Int64) → (XT → Prop) → Prop
  | 0, _, _, _, _, _ => False
  | k + 1, 0, t, li, lj, Q => wbX12_puts_0 (wpX12_puts k) k t li lj Q
  | k + 1, 1, t, li, lj, Q => wbX12_puts_1 (wpX12_puts k) k t li lj Q
  | _ + 1, _, _, _, _, _ => False
def wqX12_puts (k : Nat) (t : XT) (a1 : Int32) (Q : XT → Prop) : Prop := wpX12_puts k 0 t (uI (fun _ => 0) 1 a1) (fun _ => 0) Q
set_option maxHeartbeats 8000000 in
set_option maxRecDepth 100000 in
theorem wkX12_puts (l : Launch) (D : va_G) (cI cJ cB cZ : ClassId) (bd : Nat → Nat) (k : Nat) (t : XT) (a1 : Int32) (Q : XT → Prop) (hR : wqX12_puts k t a1 Q) : MetV l yX12_puts wsX12_puts 0 0 0 0 D (TYS cI cJ cB cZ) (wM cI cJ cB cZ bd t) [.ref (bd 0), .int a1] (fun u => Q u) (fun u : XT => (wM cI cJ cB cZ bd u)) := by
  refine x_startV (ty := .int) (cc := cX12_puts) (by decide) rfl (Nat.le_of_ble_eq_true rfl) ?_
  intro p e s m args below meth c A ls B hr hnm h hl
  have hx := B.1.1
  have hb := B.1.2.1
  have hml := B.1.2.2.1
  have hts := B.1.2.2.2.2
  have hown : s.vm.findClass RX12 = some m.cls := B.1.2.2.2.1
  have hin12 : ∀ w ∈ u_ws RX12 TX12 31, w ∈ wsX12_puts := by decide +kernel
  have main : ∀ k : Nat, (∀ (t : XT) (li : Nat → Int32) (lj : Nat → Int64) (H : Heap) (locs : List Loc) (ls : Array Slot), wpX12_puts k 0 t li lj Q → lv_has ls 3 [(0, .ref (bd 0)), (1, .int (li 1))] → Hp D A s.heap (wM cI cJ cB cZ bd t) H locs → W p l e { frames := 0, cells := 0, slots := 0, locals := 0 } s m args below meth c H locs 0 0 (MQ below (va_Qv (fun u => Q u) (fun u t => xEnd D ((fun u : XT => (wM cI cJ cB cZ bd u)) u) A t) A) args s 0 0 A) (F0 m 0 ls [])) ∧
      (∀ (t : XT) (li : Nat → Int32) (lj : Nat → Int64) (H : Heap) (locs : List Loc) (ls : Array Slot), wpX12_puts k 1 t li lj Q → lv_has ls 3 [(0, .ref (bd 0)), (1, .int (li 1)), (2, .int (li 2))] → Hp D A s.heap (wM cI cJ cB cZ bd t) H locs → W p l e { frames := 0, cells := 0, slots := 0, locals := 0 } s m args below meth c H locs 0 0 (MQ below (va_Qv (fun u => Q u) (fun u t => xEnd D ((fun u : XT => (wM cI cJ cB cZ bd u)) u) A t) A) args s 0 0 A) (F0 m 3 ls [])) := by
    intro k
    induction k with
    | zero => exact ⟨fun _ _ _ _ _ _ hR => False.elim hR, fun _ _ _ _ _ _ hR => False.elim hR⟩
    | succ k ih =>
      refine ⟨?_, ?_⟩
      · intro t li lj H locs ls hR hl h
        have hR : wbX12_puts_0 (wpX12_puts k) k t li lj Q := hR
        unfold wbX12_puts_0 at hR
        refine lv_bipush (v := 24) hx hb dX12_puts_0 (by decide) ?_
        refine lv_istore_n (lv' := [(2, .int 24), (0, .ref (bd 0)), (1, .int (li 1))]) hx hb dX12_puts_2 rfl hl (by decide) rfl (fun ls hl => ?_)
        exact ih.2 t (uI li 2 24) lj H locs ls hR (lv_sub hl [1, 2, 0] rfl) h
      · intro t li lj H locs ls hR hl h
        have hR : wbX12_puts_1 (wpX12_puts k) k t li lj Q := hR
        unfold wbX12_puts_1 at hR
        refine lv_iload_n hx hb dX12_puts_3 rfl (lv_at hl 2 rfl) ?_
        refine lv_if_lt (tgt := 36) hx hb dX12_puts_4 (by decide) (fun c_1 => ?_) (fun c_1 => ?_)
        · have hR := hR.1 c_1
          exact x_vret (w1 := (fun u : XT => (wM cI cJ cB cZ bd u))) t B h hr hR dX12_puts_36
        · have hR := hR.2 c_1
          refine lv_aload_n hx hb dX12_puts_7 rfl (lv_at hl 0 rfl) ?_
          refine x_get (ci := 12) (C := RX12) (T := TX12) (N := 31) (v := .ref (bd 1)) B h hin12 0 0 rfl rfl (by decide) (by decide +kernel) rfl dX12_puts_8 ?_
          refine lv_aload_n hx hb dX12_puts_11 rfl (lv_at hl 0 rfl) ?_
          refine x_get (ci := 12) (C := RX12) (T := TX12) (N := 31) (v := .int (t.1 0)) B h hin12 0 1 rfl rfl (by decide) (by decide +kernel) rfl dX12_puts_12 ?_
          refine lv_iload_n hx hb dX12_puts_15 rfl (lv_at hl 1 rfl) ?_
          refine lv_iload_n hx hb dX12_puts_16 rfl (lv_at hl 2 rfl) ?_
          refine lv_ishr hx hb dX12_puts_17 ?_
          refine lv_topi (fun v_2 ev_2 => ?_)
          have hR := hR v_2 ev_2
          obtain ⟨v_3, ev_3⟩ : ∃ v : Int32, v = v_2.toInt8.toInt32 := ⟨_, rfl⟩
          have hR := hR v_3 ev_3
          refine lv_i2b (v := v_3) hx hb dX12_puts_18 ev_3.symm ?_
          obtain ⟨hb_4, hR⟩ := hR
          refine z_bast (f := (t.2.2.1 0)) B h 1 2 rfl rfl hb_4 dX12_puts_19 (fun H locs h => ?_)
          obtain ⟨t_4, et_4⟩ : ∃ v : XT, v = sA t 0 (upd (t.2.2.1 0) (t.1 0).toNatClampNeg (vp_nar .byte v_3)) := ⟨_, rfl⟩
          have hR := hR t_4 et_4
          have h : Hp D A s.heap (wM cI cJ cB cZ bd t_4) H locs := by rw [et_4]; exact h
          refine lv_aload_n hx hb dX12_puts_20 rfl (lv_at hl 0 rfl) ?_
          refine lv_dup hx hb dX12_puts_21 rfl ?_
          refine x_get (ci := 12) (C := RX12) (T := TX12) (N := 31) (v := .int (t_4.1 0)) B h hin12 0 1 rfl rfl (by decide) (by decide +kernel) rfl dX12_puts_22 ?_
          refine lv_iconst (v := 1) hx hb dX12_puts_25 (by decide) ?_
          refine lv_iadd hx hb dX12_puts_26 ?_
          refine lv_topi (fun v_5 ev_5 => ?_)
          have hR := hR v_5 ev_5
          refine x_put (ci := 12) (C := RX12) (T := TX12) (N := 31) (v := .int v_5) (ty := .int) B h hin12 tyX12 tyX12_ok nmX12 0 1 rfl rfl (by decide) (by decide +kernel) rfl rfl rfl rfl (Nat.le_of_ble_eq_true rfl) dX12_puts_27 (fun H locs h => ?_)
          obtain ⟨t_6, et_6⟩ : ∃ v : XT, v = sI t_4 0 v_5 := ⟨_, rfl⟩
          have hR := hR t_6 et_6
          have h : Hp D A s.heap (wM cI cJ cB cZ bd t_6) H locs := by rw [et_6]; exact h
          obtain ⟨v_7, ev_7⟩ : ∃ v : Int32, v = (li 2) + Int32.ofInt (-8) := ⟨_, rfl⟩
          have hR := hR v_7 ev_7
          refine lv_iinc (v := v_7) (lv' := [(2, .int v_7), (0, .ref (bd 0)), (1, .int (li 1))]) hx hb dX12_puts_30 hl (k := 2) rfl ev_7.symm (by decide) rfl (fun ls hl => ?_)
          refine lv_goto (tgt := 3) hx hb dX12_puts_33 (by decide) ?_
          exact ih.2 t_6 (uI li 2 v_7) lj H locs ls hR (lv_sub hl [1, 2, 0] rfl) h
  exact (main k).1 t _ _ s.heap [] ls hR hl h
def wbX12_feed_0 (rec : Nat → XT → (Nat → Int32) → (Nat → Int64) → (Int32 → XT → Prop) → Prop) (k : Nat) (t : XT) (li : Nat → Int32) (lj : Nat → Int64) (Q : Int32 → XT → Prop) : Prop :=
  (∀ v_1 : Int32, v_1 = ((t.1 0) + 20) → ((v_1 ≤ 160) → (wqX12_puts k t (li 1) (fun t_3 => (wqX12_puts k t_3 (li 2) (fun t_4 => (wqX12_puts k t_4 (li 3) (fun t_5 => (wqX12_puts k t_5 (li 4) (fun t_6 => (wqX12_puts k t_6 (li 5) (fun t_7 => Q (t_7.1 0) t_7))))))))))) ∧ (¬ (v_1 ≤ 160) → Q (-1) t))
def wpX12_feed : Nat → Nat → XT → (Nat → Int32) → (Nat → Int64) → (Int32 → XT → Prop) → Prop
  | 0, _, _, _, _, _ => False
  | k + 1, 0, t, li, lj, Q => wbX12_feed_0 (wpX12_feed k) k t li lj Q
  | _ + 1, _, _, _, _, _ => False
def wqX12_feed (k : Nat) (t : XT) (a1 : Int32) (a2 : Int32) (a3 : Int32) (a4 : Int32) (a5 : Int32) (Q : Int32 → XT → Prop) : Prop := wpX12_feed k 0 t (uI (uI (uI (uI (uI (fun _ => 0) 1 a1) 2 a2) 3 a3) 4 a4) 5 a5) (fun _ => 0) Q
set_option maxHeartbeats 8000000 in
set_option maxRecDepth 100000 in
theorem wkX12_feed (l : Launch) (D : va_G) (cI cJ cB cZ : ClassId) (bd : Nat → Nat) (k : Nat) (t : XT) (a1 : Int32) (a2 : Int32) (a3 : Int32) (a4 : Int32) (a5 : Int32) (Q : Int32 → XT → Prop) (hR : wqX12_feed k t a1 a2 a3 a4 a5 Q) : MetI l yX12_feed wsX12_feed 1 22 0 0 D (TYS cI cJ cB cZ) (wM cI cJ cB cZ bd t) [.ref (bd 0), .int a1, .int a2, .int a3, .int a4, .int a5] (fun r u => Q r u) (fun u : XT => (wM cI cJ cB cZ bd u)) := by
  refine x_startI (ty := .int) (cc := cX12_feed) (by decide) rfl (Nat.le_of_ble_eq_true rfl) ?_
  intro p e s m args below meth c A ls B hr hnm h hl
  have hx := B.1.1
  have hb := B.1.2.1
  have hml := B.1.2.2.1
  have hts := B.1.2.2.2.2
  have hown : s.vm.findClass RX12 = some m.cls := B.1.2.2.2.1
  have hin12 : ∀ w ∈ u_ws RX12 TX12 31, w ∈ wsX12_feed := by decide +kernel
  have main : ∀ k : Nat, (∀ (t : XT) (li : Nat → Int32) (lj : Nat → Int64) (H : Heap) (locs : List Loc) (ls : Array Slot), wpX12_feed k 0 t li lj Q → lv_has ls 6 [(0, .ref (bd 0)), (1, .int (li 1)), (2, .int (li 2)), (3, .int (li 3)), (4, .int (li 4)), (5, .int (li 5))] → Hp D A s.heap (wM cI cJ cB cZ bd t) H locs → W p l e { frames := 1, cells := 0, slots := 0, locals := 22 } s m args below meth c H locs 0 0 (MQ below (va_Qi (fun r u => Q r u) (fun u t => xEnd D ((fun u : XT => (wM cI cJ cB cZ bd u)) u) A t) A) args s 0 0 A) (F0 m 0 ls [])) := by
    intro k
    induction k with
    | zero => exact fun _ _ _ _ _ _ hR => False.elim hR
    | succ k ih =>
      intro t li lj H locs ls hR hl h
      have hR : wbX12_feed_0 (wpX12_feed k) k t li lj Q := hR
      unfold wbX12_feed_0 at hR
      refine lv_aload_n hx hb dX12_feed_0 rfl (lv_at hl 0 rfl) ?_
      refine x_get (ci := 12) (C := RX12) (T := TX12) (N := 31) (v := .int (t.1 0)) B h hin12 0 1 rfl rfl (by decide) (by decide +kernel) rfl dX12_feed_1 ?_
      refine lv_bipush (v := 20) hx hb dX12_feed_4 (by decide) ?_
      refine lv_iadd hx hb dX12_feed_6 ?_
      refine lv_topi (fun v_1 ev_1 => ?_)
      have hR := hR v_1 ev_1
      refine lv_sipush (v := 160) hx hb dX12_feed_7 (by decide) ?_
      refine lv_icmp_le (tgt := 15) hx hb dX12_feed_10 (by decide) (fun c_2 => ?_) (fun c_2 => ?_)
      · have hR := hR.1 c_2
        refine lv_aload_n hx hb dX12_feed_15 rfl (lv_at hl 0 rfl) ?_
        refine lv_iload_n hx hb dX12_feed_16 rfl (lv_at hl 1 rfl) ?_
        refine x_cVVF (n := 1) (As := [.int (li 1)]) (rest := []) B h (wkX12_puts l D cI cJ cB cZ bd k t (li 1) _ hR) ⟨⟨_, rfl⟩, by decide +kernel, Nat.le_of_ble_eq_true rfl, Nat.le_of_ble_eq_true rfl⟩ gX12_feed_X12_puts (show ((wM cI cJ cB cZ bd t) : va_W)[0]? = some (_, .inr (12, _)) from rfl) rfl rfl hl.1 rfl (Nat.le_of_ble_eq_true rfl) dX12_feed_17 ⟨Nat.le_of_ble_eq_true rfl, Nat.le_of_ble_eq_true rfl⟩ (fun t_3 H locs hR h => ?_)
        refine lv_aload_n hx hb dX12_feed_20 rfl (lv_at hl 0 rfl) ?_
        refine lv_iload_n hx hb dX12_feed_21 rfl (lv_at hl 2 rfl) ?_
        refine x_cVVF (n := 1) (As := [.int (li 2)]) (rest := []) B h (wkX12_puts l D cI cJ cB cZ bd k t_3 (li 2) _ hR) ⟨⟨_, rfl⟩, by decide +kernel, Nat.le_of_ble_eq_true rfl, Nat.le_of_ble_eq_true rfl⟩ gX12_feed_X12_puts (show ((wM cI cJ cB cZ bd t_3) : va_W)[0]? = some (_, .inr (12, _)) from rfl) rfl rfl hl.1 rfl (Nat.le_of_ble_eq_true rfl) dX12_feed_22 ⟨Nat.le_of_ble_eq_true rfl, Nat.le_of_ble_eq_true rfl⟩ (fun t_4 H locs hR h => ?_)
        refine lv_aload_n hx hb dX12_feed_25 rfl (lv_at hl 0 rfl) ?_
        refine lv_iload_n hx hb dX12_feed_26 rfl (lv_at hl 3 rfl) ?_
        refine x_cVVF (n := 1) (As := [.int (li 3)]) (rest := []) B h (wkX12_puts l D cI cJ cB cZ bd k t_4 (li 3) _ hR) ⟨⟨_, rfl⟩, by decide +kernel, Nat.le_of_ble_eq_true rfl, Nat.le_of_ble_eq_true rfl⟩ gX12_feed_X12_puts (show ((wM cI cJ cB cZ bd t_4) : va_W)[0]? = some (_, .inr (12, _)) from rfl) rfl rfl hl.1 rfl (Nat.le_of_ble_eq_true rfl) dX12_feed_27 ⟨Nat.le_of_ble_eq_true rfl, Nat.le_of_ble_eq_true rfl⟩ (fun t_5 H locs hR h => ?_)
        refine lv_aload_n hx hb dX12_feed_30 rfl (lv_at hl 0 rfl) ?_
        refine lv_iload hx hb dX12_feed_31 (lv_at hl 4 rfl) ?_
        refine x_cVVF (n := 1) (As := [.int (li 4)]) (rest := []) B h (wkX12_puts l D cI cJ cB cZ bd k t_5 (li 4) _ hR) ⟨⟨_, rfl⟩, by decide +kernel, Nat.le_of_ble_eq_true rfl, Nat.le_of_ble_eq_true rfl⟩ gX12_feed_X12_puts (show ((wM cI cJ cB cZ bd t_5) : va_W)[0]? = some (_, .inr (12, _)) from rfl) rfl rfl hl.1 rfl (Nat.le_of_ble_eq_true rfl) dX12_feed_33 ⟨Nat.le_of_ble_eq_true rfl, Nat.le_of_ble_eq_true rfl⟩ (fun t_6 H locs hR h => ?_)
        refine lv_aload_n hx hb dX12_feed_36 rfl (lv_at hl 0 rfl) ?_
        refine lv_iload hx hb dX12_feed_37 (lv_at hl 5 rfl) ?_
        refine x_cVVF (n := 1) (As := [.int (li 5)]) (rest := []) B h (wkX12_puts l D cI cJ cB cZ bd k t_6 (li 5) _ hR) ⟨⟨_, rfl⟩, by decide +kernel, Nat.le_of_ble_eq_true rfl, Nat.le_of_ble_eq_true rfl⟩ gX12_feed_X12_puts (show ((wM cI cJ cB cZ bd t_6) : va_W)[0]? = some (_, .inr (12, _)) from rfl) rfl rfl hl.1 rfl (Nat.le_of_ble_eq_true rfl) dX12_feed_39 ⟨Nat.le_of_ble_eq_true rfl, Nat.le_of_ble_eq_true rfl⟩ (fun t_7 H locs hR h => ?_)
        refine lv_aload_n hx hb dX12_feed_42 rfl (lv_at hl 0 rfl) ?_
        refine x_get (ci := 12) (C := RX12) (T := TX12) (N := 31) (v := .int (t_7.1 0)) B h hin12 0 1 rfl rfl (by decide) (by decide +kernel) rfl dX12_feed_43 ?_
        exact x_iret (w1 := (fun u : XT => (wM cI cJ cB cZ bd u))) t_7 B h hr rfl hR dX12_feed_46
      · have hR := hR.2 c_2
        refine lv_iconst (v := (-1)) hx hb dX12_feed_13 (by decide) ?_
        exact x_iret (w1 := (fun u : XT => (wM cI cJ cB cZ bd u))) t B h hr rfl hR dX12_feed_14
  exact (main k) t _ _ s.heap [] ls hR hl h
def wbX12_end_0 (rec : Nat → XT → (Nat → Int32) → (Nat → Int64) → (Int32 → XT → Prop) → Prop) (k : Nat) (t : XT) (li : Nat → Int32) (lj : Nat → Int64) (Q : Int32 → XT → Prop) : Prop :=
  (((li 1) < 0) → rec 1 t li lj Q) ∧ (¬ ((li 1) < 0) → (((li 1) ≤ (t.1 0)) → (∀ t_3 : XT, t_3 = sI t 0 (li 1) → Q (li 1) t_3)) ∧ (¬ ((li 1) ≤ (t.1 0)) → rec 1 t li lj Q))
def wbX12_end_1 (rec : Nat → XT → (Nat → Int32) → (Nat → Int64) → (Int32 → XT → Prop) → Prop) (k : Nat) (t : XT) (li : Nat → Int32) (lj : Nat → Int64) (Q : Int32 → XT → Prop) : Prop :=
  Q (-1) t
def wpX12_end : Nat → Nat → XT → (Nat → Int32) → (Nat → Int64) → (Int32 → XT → Prop) → Prop
  | 0, _, _, _, _, _ => False
  | k + 1, 0, t, li, lj, Q => wbX12_end_0 (wpX12_end k) k t li lj Q
  | k + 1, 1, t, li, lj, Q => wbX12_end_1 (wpX12_end k) k t li lj Q
  | _ + 1, _, _, _, _, _ => False
def wqX12_end (k : Nat) (t : XT) (a1 : Int32) (Q : Int32 → XT → Prop) : Prop := wpX12_end k 0 t (uI (fun _ => 0) 1 a1) (fun _ => 0) Q
set_option maxHeartbeats 8000000 in
set_option maxRecDepth 100000 in
theorem wkX12_end (l : Launch) (D : va_G) (cI cJ cB cZ : ClassId) (bd : Nat → Nat) (k : Nat) (t : XT) (a1 : Int32) (Q : Int32 → XT → Prop) (hR : wqX12_end k t a1 Q) : MetI l yX12_end wsX12_end 0 0 0 0 D (TYS cI cJ cB cZ) (wM cI cJ cB cZ bd t) [.ref (bd 0), .int a1] (fun r u => Q r u) (fun u : XT => (wM cI cJ cB cZ bd u)) := by
  refine x_startI (ty := .int) (cc := cX12_end) (by decide) rfl (Nat.le_of_ble_eq_true rfl) ?_
  intro p e s m args below meth c A ls B hr hnm h hl
  have hx := B.1.1
  have hb := B.1.2.1
  have hml := B.1.2.2.1
  have hts := B.1.2.2.2.2
  have hown : s.vm.findClass RX12 = some m.cls := B.1.2.2.2.1
  have hin12 : ∀ w ∈ u_ws RX12 TX12 31, w ∈ wsX12_end := by decide +kernel
  have main : ∀ k : Nat, (∀ (t : XT) (li : Nat → Int32) (lj : Nat → Int64) (H : Heap) (locs : List Loc) (ls : Array Slot), wpX12_end k 0 t li lj Q → lv_has ls 2 [(0, .ref (bd 0)), (1, .int (li 1))] → Hp D A s.heap (wM cI cJ cB cZ bd t) H locs → W p l e { frames := 0, cells := 0, slots := 0, locals := 0 } s m args below meth c H locs 0 0 (MQ below (va_Qi (fun r u => Q r u) (fun u t => xEnd D ((fun u : XT => (wM cI cJ cB cZ bd u)) u) A t) A) args s 0 0 A) (F0 m 0 ls [])) ∧
      (∀ (t : XT) (li : Nat → Int32) (lj : Nat → Int64) (H : Heap) (locs : List Loc) (ls : Array Slot), wpX12_end k 1 t li lj Q → lv_has ls 2 [(0, .ref (bd 0)), (1, .int (li 1))] → Hp D A s.heap (wM cI cJ cB cZ bd t) H locs → W p l e { frames := 0, cells := 0, slots := 0, locals := 0 } s m args below meth c H locs 0 0 (MQ below (va_Qi (fun r u => Q r u) (fun u t => xEnd D ((fun u : XT => (wM cI cJ cB cZ bd u)) u) A t) A) args s 0 0 A) (F0 m 12 ls [])) := by
    intro k
    induction k with
    | zero => exact ⟨fun _ _ _ _ _ _ hR => False.elim hR, fun _ _ _ _ _ _ hR => False.elim hR⟩
    | succ k ih =>
      refine ⟨?_, ?_⟩
      · intro t li lj H locs ls hR hl h
        have hR : wbX12_end_0 (wpX12_end k) k t li lj Q := hR
        unfold wbX12_end_0 at hR
        refine lv_iload_n hx hb dX12_end_0 rfl (lv_at hl 1 rfl) ?_
        refine lv_if_lt (tgt := 12) hx hb dX12_end_1 (by decide) (fun c_1 => ?_) (fun c_1 => ?_)
        · have hR := hR.1 c_1
          exact ih.2 t li lj H locs ls hR (lv_sub hl [0, 1] rfl) h
        · have hR := hR.2 c_1
          refine lv_iload_n hx hb dX12_end_4 rfl (lv_at hl 1 rfl) ?_
          refine lv_aload_n hx hb dX12_end_5 rfl (lv_at hl 0 rfl) ?_
          refine x_get (ci := 12) (C := RX12) (T := TX12) (N := 31) (v := .int (t.1 0)) B h hin12 0 1 rfl rfl (by decide) (by decide +kernel) rfl dX12_end_6 ?_
          refine lv_icmp_le (tgt := 14) hx hb dX12_end_9 (by decide) (fun c_2 => ?_) (fun c_2 => ?_)
          · have hR := hR.1 c_2
            refine lv_aload_n hx hb dX12_end_14 rfl (lv_at hl 0 rfl) ?_
            refine lv_iload_n hx hb dX12_end_15 rfl (lv_at hl 1 rfl) ?_
            refine x_put (ci := 12) (C := RX12) (T := TX12) (N := 31) (v := .int (li 1)) (ty := .int) B h hin12 tyX12 tyX12_ok nmX12 0 1 rfl rfl (by decide) (by decide +kernel) rfl rfl rfl rfl (Nat.le_of_ble_eq_true rfl) dX12_end_16 (fun H locs h => ?_)
            obtain ⟨t_3, et_3⟩ : ∃ v : XT, v = sI t 0 (li 1) := ⟨_, rfl⟩
            have hR := hR t_3 et_3
            have h : Hp D A s.heap (wM cI cJ cB cZ bd t_3) H locs := by rw [et_3]; exact h
            refine lv_iload_n hx hb dX12_end_19 rfl (lv_at hl 1 rfl) ?_
            exact x_iret (w1 := (fun u : XT => (wM cI cJ cB cZ bd u))) t_3 B h hr rfl hR dX12_end_20
          · have hR := hR.2 c_2
            exact ih.2 t li lj H locs ls hR (lv_sub hl [0, 1] rfl) h
      · intro t li lj H locs ls hR hl h
        have hR : wbX12_end_1 (wpX12_end k) k t li lj Q := hR
        unfold wbX12_end_1 at hR
        refine lv_iconst (v := (-1)) hx hb dX12_end_12 (by decide) ?_
        exact x_iret (w1 := (fun u : XT => (wM cI cJ cB cZ bd u))) t B h hr rfl hR dX12_end_13
  exact (main k).1 t _ _ s.heap [] ls hR hl h
def wbX12_byteNow_0 (rec : Nat → XT → (Nat → Int32) → (Nat → Int64) → (Int32 → XT → Prop) → Prop) (k : Nat) (t : XT) (li : Nat → Int32) (lj : Nat → Int64) (Q : Int32 → XT → Prop) : Prop :=
  ((((t.1 0) : Int32) ≤ (t.1 1)) → Q (-1) t) ∧ (¬ (((t.1 0) : Int32) ≤ (t.1 1)) → (vp_in (t.1 1) 160 ∧ (∀ v_2 : Int32, v_2 = (t.2.2.1 0) (t.1 1).toNatClampNeg → (∀ v_3 : Int32, v_3 = (v_2 &&& 255) → Q v_3 t))))
def wpX12_byteNow : Nat → Nat → XT → (Nat → Int32) → (Nat → Int64) → (Int32 → XT → Prop) → Prop
  | 0, _, _, _, _, _ => False
  | k + 1, 0, t, li, lj, Q => wbX12_byteNow_0 (wpX12_byteNow k) k t li lj Q
  | _ + 1, _, _, _, _, _ => False
def wqX12_byteNow (k : Nat) (t : XT)  (Q : Int32 → XT → Prop) : Prop := wpX12_byteNow k 0 t (fun _ => 0) (fun _ => 0) Q
set_option maxHeartbeats 8000000 in
set_option maxRecDepth 100000 in
theorem wkX12_byteNow (l : Launch) (D : va_G) (cI cJ cB cZ : ClassId) (bd : Nat → Nat) (k : Nat) (t : XT)  (Q : Int32 → XT → Prop) (hR : wqX12_byteNow k t  Q) : MetI l yX12_byteNow wsX12_byteNow 0 0 0 0 D (TYS cI cJ cB cZ) (wM cI cJ cB cZ bd t) [.ref (bd 0)] (fun r u => Q r u) (fun u : XT => (wM cI cJ cB cZ bd u)) := by
  refine x_startI (ty := .int) (cc := cX12_byteNow) (by decide) rfl (Nat.le_of_ble_eq_true rfl) ?_
  intro p e s m args below meth c A ls B hr hnm h hl
  have hx := B.1.1
  have hb := B.1.2.1
  have hml := B.1.2.2.1
  have hts := B.1.2.2.2.2
  have hown : s.vm.findClass RX12 = some m.cls := B.1.2.2.2.1
  have hin12 : ∀ w ∈ u_ws RX12 TX12 31, w ∈ wsX12_byteNow := by decide +kernel
  have main : ∀ k : Nat, (∀ (t : XT) (li : Nat → Int32) (lj : Nat → Int64) (H : Heap) (locs : List Loc) (ls : Array Slot), wpX12_byteNow k 0 t li lj Q → lv_has ls 1 [(0, .ref (bd 0))] → Hp D A s.heap (wM cI cJ cB cZ bd t) H locs → W p l e { frames := 0, cells := 0, slots := 0, locals := 0 } s m args below meth c H locs 0 0 (MQ below (va_Qi (fun r u => Q r u) (fun u t => xEnd D ((fun u : XT => (wM cI cJ cB cZ bd u)) u) A t) A) args s 0 0 A) (F0 m 0 ls [])) := by
    intro k
    induction k with
    | zero => exact fun _ _ _ _ _ _ hR => False.elim hR
    | succ k ih =>
      intro t li lj H locs ls hR hl h
      have hR : wbX12_byteNow_0 (wpX12_byteNow k) k t li lj Q := hR
      unfold wbX12_byteNow_0 at hR
      refine lv_aload_n hx hb dX12_byteNow_0 rfl (lv_at hl 0 rfl) ?_
      refine x_get (ci := 12) (C := RX12) (T := TX12) (N := 31) (v := .int (t.1 1)) B h hin12 0 2 rfl rfl (by decide) (by decide +kernel) rfl dX12_byteNow_1 ?_
      refine lv_aload_n hx hb dX12_byteNow_4 rfl (lv_at hl 0 rfl) ?_
      refine x_get (ci := 12) (C := RX12) (T := TX12) (N := 31) (v := .int (t.1 0)) B h hin12 0 1 rfl rfl (by decide) (by decide +kernel) rfl dX12_byteNow_5 ?_
      refine lv_icmp_ge (tgt := 27) hx hb dX12_byteNow_8 (by decide) (fun c_1 => ?_) (fun c_1 => ?_)
      · have hR := hR.1 c_1
        refine lv_iconst (v := (-1)) hx hb dX12_byteNow_27 (by decide) ?_
        exact x_iret (w1 := (fun u : XT => (wM cI cJ cB cZ bd u))) t B h hr rfl hR dX12_byteNow_28
      · have hR := hR.2 c_1
        refine lv_aload_n hx hb dX12_byteNow_11 rfl (lv_at hl 0 rfl) ?_
        refine x_get (ci := 12) (C := RX12) (T := TX12) (N := 31) (v := .ref (bd 1)) B h hin12 0 0 rfl rfl (by decide) (by decide +kernel) rfl dX12_byteNow_12 ?_
        refine lv_aload_n hx hb dX12_byteNow_15 rfl (lv_at hl 0 rfl) ?_
        refine x_get (ci := 12) (C := RX12) (T := TX12) (N := 31) (v := .int (t.1 1)) B h hin12 0 2 rfl rfl (by decide) (by decide +kernel) rfl dX12_byteNow_16 ?_
        obtain ⟨hb_2, hR⟩ := hR
        refine va_bald (f := (t.2.2.1 0)) hx hb B.2.1 h.1 1 2 rfl rfl hb_2 dX12_byteNow_19 ?_
        refine lv_topi (fun v_2 ev_2 => ?_)
        have hR := hR v_2 ev_2
        refine lv_sipush (v := 255) hx hb dX12_byteNow_20 (by decide) ?_
        refine lv_iand hx hb dX12_byteNow_23 ?_
        refine lv_topi (fun v_3 ev_3 => ?_)
        have hR := hR v_3 ev_3
        refine lv_goto (tgt := 28) hx hb dX12_byteNow_24 (by decide) ?_
        exact x_iret (w1 := (fun u : XT => (wM cI cJ cB cZ bd u))) t B h hr rfl hR dX12_byteNow_28
  exact (main k) t _ _ s.heap [] ls hR hl h
def wbX12_blanks_0 (rec : Nat → XT → (Nat → Int32) → (Nat → Int64) → (XT → Prop) → Prop) (k : Nat) (t : XT) (li : Nat → Int32) (lj : Nat → Int64) (Q : XT → Prop) : Prop :=
  (wqX12_byteNow k t  (fun r_1 t_1 => ((¬ r_1 = 32) → Q t_1) ∧ ((r_1 = 32) → (∀ v_3 : Int32, v_3 = ((t_1.1 1) + 1) → (∀ t_4 : XT, t_4 = sI t_1 1 v_3 → rec 0 t_4 li lj Q)))))
def wpX12_blanks : Nat → Nat → XT → (Nat → Int32) → (Nat → Int64) → (XT → Prop) → Prop
  | 0, _, _, _, _, _ => False
  | k + 1, 0, t, li, lj, Q => wbX12_blanks_0 (wpX12_blanks k) k t li lj Q
  | _ + 1, _, _, _, _, _ => False
def wqX12_blanks (k : Nat) (t : XT)  (Q : XT → Prop) : Prop := wpX12_blanks k 0 t (fun _ => 0) (fun _ => 0) Q
set_option maxHeartbeats 8000000 in
set_option maxRecDepth 100000 in
theorem wkX12_blanks (l : Launch) (D : va_G) (cI cJ cB cZ : ClassId) (bd : Nat → Nat) (k : Nat) (t : XT)  (Q : XT → Prop) (hR : wqX12_blanks k t  Q) : MetV l yX12_blanks wsX12_blanks 1 20 0 0 D (TYS cI cJ cB cZ) (wM cI cJ cB cZ bd t) [.ref (bd 0)] (fun u => Q u) (fun u : XT => (wM cI cJ cB cZ bd u)) := by
  refine x_startV (ty := .int) (cc := cX12_blanks) (by decide) rfl (Nat.le_of_ble_eq_true rfl) ?_
  intro p e s m args below meth c A ls B hr hnm h hl
  have hx := B.1.1
  have hb := B.1.2.1
  have hml := B.1.2.2.1
  have hts := B.1.2.2.2.2
  have hown : s.vm.findClass RX12 = some m.cls := B.1.2.2.2.1
  have hin12 : ∀ w ∈ u_ws RX12 TX12 31, w ∈ wsX12_blanks := by decide +kernel
  have main : ∀ k : Nat, (∀ (t : XT) (li : Nat → Int32) (lj : Nat → Int64) (H : Heap) (locs : List Loc) (ls : Array Slot), wpX12_blanks k 0 t li lj Q → lv_has ls 1 [(0, .ref (bd 0))] → Hp D A s.heap (wM cI cJ cB cZ bd t) H locs → W p l e { frames := 1, cells := 0, slots := 0, locals := 20 } s m args below meth c H locs 0 0 (MQ below (va_Qv (fun u => Q u) (fun u t => xEnd D ((fun u : XT => (wM cI cJ cB cZ bd u)) u) A t) A) args s 0 0 A) (F0 m 0 ls [])) := by
    intro k
    induction k with
    | zero => exact fun _ _ _ _ _ _ hR => False.elim hR
    | succ k ih =>
      intro t li lj H locs ls hR hl h
      have hR : wbX12_blanks_0 (wpX12_blanks k) k t li lj Q := hR
      unfold wbX12_blanks_0 at hR
      refine lv_aload_n hx hb dX12_blanks_0 rfl (lv_at hl 0 rfl) ?_
      refine x_cVIF (n := 0) (As := []) (rest := []) B h (wkX12_byteNow l D cI cJ cB cZ bd k t  _ hR) ⟨⟨_, rfl⟩, by decide +kernel, Nat.le_of_ble_eq_true rfl, Nat.le_of_ble_eq_true rfl⟩ gX12_blanks_X12_byteNow (show ((wM cI cJ cB cZ bd t) : va_W)[0]? = some (_, .inr (12, _)) from rfl) rfl rfl hl.1 rfl (Nat.le_of_ble_eq_true rfl) dX12_blanks_1 ⟨Nat.le_of_ble_eq_true rfl, Nat.le_of_ble_eq_true rfl⟩ (fun r_1 t_1 H locs hR h => ?_)
      refine lv_bipush (v := 32) hx hb dX12_blanks_4 (by decide) ?_
      refine lv_icmp_ne (tgt := 22) hx hb dX12_blanks_6 (by decide) (fun c_2 => ?_) (fun c_2 => ?_)
      · have hR := hR.1 c_2
        exact x_vret (w1 := (fun u : XT => (wM cI cJ cB cZ bd u))) t_1 B h hr hR dX12_blanks_22
      · have hR := hR.2 c_2
        refine lv_aload_n hx hb dX12_blanks_9 rfl (lv_at hl 0 rfl) ?_
        refine lv_dup hx hb dX12_blanks_10 rfl ?_
        refine x_get (ci := 12) (C := RX12) (T := TX12) (N := 31) (v := .int (t_1.1 1)) B h hin12 0 2 rfl rfl (by decide) (by decide +kernel) rfl dX12_blanks_11 ?_
        refine lv_iconst (v := 1) hx hb dX12_blanks_14 (by decide) ?_
        refine lv_iadd hx hb dX12_blanks_15 ?_
        refine lv_topi (fun v_3 ev_3 => ?_)
        have hR := hR v_3 ev_3
        refine x_put (ci := 12) (C := RX12) (T := TX12) (N := 31) (v := .int v_3) (ty := .int) B h hin12 tyX12 tyX12_ok nmX12 0 2 rfl rfl (by decide) (by decide +kernel) rfl rfl rfl rfl (Nat.le_of_ble_eq_true rfl) dX12_blanks_16 (fun H locs h => ?_)
        obtain ⟨t_4, et_4⟩ : ∃ v : XT, v = sI t_1 1 v_3 := ⟨_, rfl⟩
        have hR := hR t_4 et_4
        have h : Hp D A s.heap (wM cI cJ cB cZ bd t_4) H locs := by rw [et_4]; exact h
        refine lv_goto (tgt := 0) hx hb dX12_blanks_19 (by decide) ?_
        exact ih t_4 li lj H locs ls hR (lv_sub hl [0] rfl) h
  exact (main k) t _ _ s.heap [] ls hR hl h
def wbX12_fails_0 (rec : Nat → XT → (Nat → Int32) → (Nat → Int64) → (XT → Prop) → Prop) (k : Nat) (t : XT) (li : Nat → Int32) (lj : Nat → Int64) (Q : XT → Prop) : Prop :=
  ((¬ (t.1 2) = (-1)) → Q t) ∧ (((t.1 2) = (-1)) → (∀ v_2 : Int32, v_2 = (8 * (li 2)) → (∀ v_3 : Int32, v_3 = (v_2 + (li 1)) → (∀ t_4 : XT, t_4 = sI t 2 v_3 → Q t_4))))
def wpX12_fails : Nat → Nat → XT → (Nat → Int32) → (Nat → Int64) → (XT → Prop) → Prop
  | 0, _, _, _, _, _ => False
  | k + 1, 0, t, li, lj, Q => wbX12_fails_0 (wpX12_fails k) k t li lj Q
  | _ + 1, _, _, _, _, _ => False
def wqX12_fails (k : Nat) (t : XT) (a1 : Int32) (a2 : Int32) (Q : XT → Prop) : Prop := wpX12_fails k 0 t (uI (uI (fun _ => 0) 1 a1) 2 a2) (fun _ => 0) Q
set_option maxHeartbeats 8000000 in
set_option maxRecDepth 100000 in
theorem wkX12_fails (l : Launch) (D : va_G) (cI cJ cB cZ : ClassId) (bd : Nat → Nat) (k : Nat) (t : XT) (a1 : Int32) (a2 : Int32) (Q : XT → Prop) (hR : wqX12_fails k t a1 a2 Q) : MetV l yX12_fails wsX12_fails 0 0 0 0 D (TYS cI cJ cB cZ) (wM cI cJ cB cZ bd t) [.ref (bd 0), .int a1, .int a2] (fun u => Q u) (fun u : XT => (wM cI cJ cB cZ bd u)) := by
  refine x_startV (ty := .int) (cc := cX12_fails) (by decide) rfl (Nat.le_of_ble_eq_true rfl) ?_
  intro p e s m args below meth c A ls B hr hnm h hl
  have hx := B.1.1
  have hb := B.1.2.1
  have hml := B.1.2.2.1
  have hts := B.1.2.2.2.2
  have hown : s.vm.findClass RX12 = some m.cls := B.1.2.2.2.1
  have hin12 : ∀ w ∈ u_ws RX12 TX12 31, w ∈ wsX12_fails := by decide +kernel
  have main : ∀ k : Nat, (∀ (t : XT) (li : Nat → Int32) (lj : Nat → Int64) (H : Heap) (locs : List Loc) (ls : Array Slot), wpX12_fails k 0 t li lj Q → lv_has ls 3 [(0, .ref (bd 0)), (1, .int (li 1)), (2, .int (li 2))] → Hp D A s.heap (wM cI cJ cB cZ bd t) H locs → W p l e { frames := 0, cells := 0, slots := 0, locals := 0 } s m args below meth c H locs 0 0 (MQ below (va_Qv (fun u => Q u) (fun u t => xEnd D ((fun u : XT => (wM cI cJ cB cZ bd u)) u) A t) A) args s 0 0 A) (F0 m 0 ls [])) := by
    intro k
    induction k with
    | zero => exact fun _ _ _ _ _ _ hR => False.elim hR
    | succ k ih =>
      intro t li lj H locs ls hR hl h
      have hR : wbX12_fails_0 (wpX12_fails k) k t li lj Q := hR
      unfold wbX12_fails_0 at hR
      refine lv_aload_n hx hb dX12_fails_0 rfl (lv_at hl 0 rfl) ?_
      refine x_get (ci := 12) (C := RX12) (T := TX12) (N := 31) (v := .int (t.1 2)) B h hin12 0 3 rfl rfl (by decide) (by decide +kernel) rfl dX12_fails_1 ?_
      refine lv_iconst (v := (-1)) hx hb dX12_fails_4 (by decide) ?_
      refine lv_icmp_ne (tgt := 18) hx hb dX12_fails_5 (by decide) (fun c_1 => ?_) (fun c_1 => ?_)
      · have hR := hR.1 c_1
        exact x_vret (w1 := (fun u : XT => (wM cI cJ cB cZ bd u))) t B h hr hR dX12_fails_18
      · have hR := hR.2 c_1
        refine lv_aload_n hx hb dX12_fails_8 rfl (lv_at hl 0 rfl) ?_
        refine lv_bipush (v := 8) hx hb dX12_fails_9 (by decide) ?_
        refine lv_iload_n hx hb dX12_fails_11 rfl (lv_at hl 2 rfl) ?_
        refine lv_imul hx hb dX12_fails_12 ?_
        refine lv_topi (fun v_2 ev_2 => ?_)
        have hR := hR v_2 ev_2
        refine lv_iload_n hx hb dX12_fails_13 rfl (lv_at hl 1 rfl) ?_
        refine lv_iadd hx hb dX12_fails_14 ?_
        refine lv_topi (fun v_3 ev_3 => ?_)
        have hR := hR v_3 ev_3
        refine x_put (ci := 12) (C := RX12) (T := TX12) (N := 31) (v := .int v_3) (ty := .int) B h hin12 tyX12 tyX12_ok nmX12 0 3 rfl rfl (by decide) (by decide +kernel) rfl rfl rfl rfl (Nat.le_of_ble_eq_true rfl) dX12_fails_15 (fun H locs h => ?_)
        obtain ⟨t_4, et_4⟩ : ∃ v : XT, v = sI t 2 v_3 := ⟨_, rfl⟩
        have hR := hR t_4 et_4
        have h : Hp D A s.heap (wM cI cJ cB cZ bd t_4) H locs := by rw [et_4]; exact h
        exact x_vret (w1 := (fun u : XT => (wM cI cJ cB cZ bd u))) t_4 B h hr hR dX12_fails_18
  exact (main k) t _ _ s.heap [] ls hR hl h
def wbX12_isRight_0 (rec : Nat → XT → (Nat → Int32) → (Nat → Int64) → (Int32 → XT → Prop) → Prop) (k : Nat) (t : XT) (li : Nat → Int32) (lj : Nat → Int64) (Q : Int32 → XT → Prop) : Prop :=
  ((¬ (t.1 2) = (-1)) → Q 0 t) ∧ (((t.1 2) = (-1)) → Q 1 t)
def wpX12_isRight : Nat → Nat → XT → (Nat → Int32) → (Nat → Int64) → (Int32 → XT → Prop) → Prop
  | 0, _, _, _, _, _ => False
  | k + 1, 0, t, li, lj, Q => wbX12_isRight_0 (wpX12_isRight k) k t li lj Q
  | _ + 1, _, _, _, _, _ => False
def wqX12_isRight (k : Nat) (t : XT)  (Q : Int32 → XT → Prop) : Prop := wpX12_isRight k 0 t (fun _ => 0) (fun _ => 0) Q
set_option maxHeartbeats 8000000 in
set_option maxRecDepth 100000 in
theorem wkX12_isRight (l : Launch) (D : va_G) (cI cJ cB cZ : ClassId) (bd : Nat → Nat) (k : Nat) (t : XT)  (Q : Int32 → XT → Prop) (hR : wqX12_isRight k t  Q) : MetI l yX12_isRight wsX12_isRight 0 0 0 0 D (TYS cI cJ cB cZ) (wM cI cJ cB cZ bd t) [.ref (bd 0)] (fun r u => Q r u) (fun u : XT => (wM cI cJ cB cZ bd u)) := by
  refine x_startI (ty := .boolean) (cc := cX12_isRight) (by decide) rfl (Nat.le_of_ble_eq_true rfl) ?_
  intro p e s m args below meth c A ls B hr hnm h hl
  have hx := B.1.1
  have hb := B.1.2.1
  have hml := B.1.2.2.1
  have hts := B.1.2.2.2.2
  have hown : s.vm.findClass RX12 = some m.cls := B.1.2.2.2.1
  have hin12 : ∀ w ∈ u_ws RX12 TX12 31, w ∈ wsX12_isRight := by decide +kernel
  have main : ∀ k : Nat, (∀ (t : XT) (li : Nat → Int32) (lj : Nat → Int64) (H : Heap) (locs : List Loc) (ls : Array Slot), wpX12_isRight k 0 t li lj Q → lv_has ls 1 [(0, .ref (bd 0))] → Hp D A s.heap (wM cI cJ cB cZ bd t) H locs → W p l e { frames := 0, cells := 0, slots := 0, locals := 0 } s m args below meth c H locs 0 0 (MQ below (va_Qi (fun r u => Q r u) (fun u t => xEnd D ((fun u : XT => (wM cI cJ cB cZ bd u)) u) A t) A) args s 0 0 A) (F0 m 0 ls [])) := by
    intro k
    induction k with
    | zero => exact fun _ _ _ _ _ _ hR => False.elim hR
    | succ k ih =>
      intro t li lj H locs ls hR hl h
      have hR : wbX12_isRight_0 (wpX12_isRight k) k t li lj Q := hR
      unfold wbX12_isRight_0 at hR
      refine lv_aload_n hx hb dX12_isRight_0 rfl (lv_at hl 0 rfl) ?_
      refine x_get (ci := 12) (C := RX12) (T := TX12) (N := 31) (v := .int (t.1 2)) B h hin12 0 3 rfl rfl (by decide) (by decide +kernel) rfl dX12_isRight_1 ?_
      refine lv_iconst (v := (-1)) hx hb dX12_isRight_4 (by decide) ?_
      refine lv_icmp_ne (tgt := 12) hx hb dX12_isRight_5 (by decide) (fun c_1 => ?_) (fun c_1 => ?_)
      · have hR := hR.1 c_1
        refine lv_iconst (v := 0) hx hb dX12_isRight_12 (by decide) ?_
        exact x_iret (w1 := (fun u : XT => (wM cI cJ cB cZ bd u))) t B h hr rfl hR dX12_isRight_13
      · have hR := hR.2 c_1
        refine lv_iconst (v := 1) hx hb dX12_isRight_8 (by decide) ?_
        refine lv_goto (tgt := 13) hx hb dX12_isRight_9 (by decide) ?_
        exact x_iret (w1 := (fun u : XT => (wM cI cJ cB cZ bd u))) t B h hr rfl hR dX12_isRight_13
  exact (main k) t _ _ s.heap [] ls hR hl h
def wbX12_isLetter_0 (rec : Nat → XT → (Nat → Int32) → (Nat → Int64) → (Int32 → XT → Prop) → Prop) (k : Nat) (t : XT) (li : Nat → Int32) (lj : Nat → Int64) (Q : Int32 → XT → Prop) : Prop :=
  (wqX12_byteNow k t  (fun r_1 t_1 => (wqX12_in k r_1 97 104 (fun r_2 => ((r_2 = 0 ∨ r_2 = 1) ∧ Q r_2 t_1)))))
def wpX12_isLetter : Nat → Nat → XT → (Nat → Int32) → (Nat → Int64) → (Int32 → XT → Prop) → Prop
  | 0, _, _, _, _, _ => False
  | k + 1, 0, t, li, lj, Q => wbX12_isLetter_0 (wpX12_isLetter k) k t li lj Q
  | _ + 1, _, _, _, _, _ => False
def wqX12_isLetter (k : Nat) (t : XT)  (Q : Int32 → XT → Prop) : Prop := wpX12_isLetter k 0 t (fun _ => 0) (fun _ => 0) Q
set_option maxHeartbeats 8000000 in
set_option maxRecDepth 100000 in
theorem wkX12_isLetter (l : Launch) (D : va_G) (cI cJ cB cZ : ClassId) (bd : Nat → Nat) (k : Nat) (t : XT)  (Q : Int32 → XT → Prop) (hR : wqX12_isLetter k t  Q) : MetI l yX12_isLetter wsX12_isLetter 1 22 0 0 D (TYS cI cJ cB cZ) (wM cI cJ cB cZ bd t) [.ref (bd 0)] (fun r u => Q r u) (fun u : XT => (wM cI cJ cB cZ bd u)) := by
  refine x_startI (ty := .boolean) (cc := cX12_isLetter) (by decide) rfl (Nat.le_of_ble_eq_true rfl) ?_
  intro p e s m args below meth c A ls B hr hnm h hl
  have hx := B.1.1
  have hb := B.1.2.1
  have hml := B.1.2.2.1
  have hts := B.1.2.2.2.2
  have hown : s.vm.findClass RX12 = some m.cls := B.1.2.2.2.1
  have main : ∀ k : Nat, (∀ (t : XT) (li : Nat → Int32) (lj : Nat → Int64) (H : Heap) (locs : List Loc) (ls : Array Slot), wpX12_isLetter k 0 t li lj Q → lv_has ls 1 [(0, .ref (bd 0))] → Hp D A s.heap (wM cI cJ cB cZ bd t) H locs → W p l e { frames := 1, cells := 0, slots := 0, locals := 22 } s m args below meth c H locs 0 0 (MQ below (va_Qi (fun r u => Q r u) (fun u t => xEnd D ((fun u : XT => (wM cI cJ cB cZ bd u)) u) A t) A) args s 0 0 A) (F0 m 0 ls [])) := by
    intro k
    induction k with
    | zero => exact fun _ _ _ _ _ _ hR => False.elim hR
    | succ k ih =>
      intro t li lj H locs ls hR hl h
      have hR : wbX12_isLetter_0 (wpX12_isLetter k) k t li lj Q := hR
      unfold wbX12_isLetter_0 at hR
      refine lv_aload_n hx hb dX12_isLetter_0 rfl (lv_at hl 0 rfl) ?_
      refine x_cVIF (n := 0) (As := []) (rest := []) B h (wkX12_byteNow l D cI cJ cB cZ bd k t  _ hR) ⟨⟨_, rfl⟩, by decide +kernel, Nat.le_of_ble_eq_true rfl, Nat.le_of_ble_eq_true rfl⟩ gX12_isLetter_X12_byteNow (show ((wM cI cJ cB cZ bd t) : va_W)[0]? = some (_, .inr (12, _)) from rfl) rfl rfl hl.1 rfl (Nat.le_of_ble_eq_true rfl) dX12_isLetter_1 ⟨Nat.le_of_ble_eq_true rfl, Nat.le_of_ble_eq_true rfl⟩ (fun r_1 t_1 H locs hR h => ?_)
      refine lv_bipush (v := 97) hx hb dX12_isLetter_4 (by decide) ?_
      refine lv_bipush (v := 104) hx hb dX12_isLetter_6 (by decide) ?_
      refine x_cSIE (n := 3) (As := [.int r_1, .int 97, .int 104]) (rest := []) B h (wkX12_in l D cI cJ cB cZ bd k r_1 97 104 _ hR) ⟨⟨_, rfl⟩, by decide +kernel, Nat.le_of_ble_eq_true rfl, Nat.le_of_ble_eq_true rfl⟩ gX12_isLetter_X12_in rfl hl.1 rfl (Nat.le_of_ble_eq_true rfl) dX12_isLetter_8 ⟨Nat.le_of_ble_eq_true rfl, Nat.le_of_ble_eq_true rfl⟩ (fun r_2 _ H locs hR h => ?_)
      obtain ⟨hz_3, hR⟩ := hR
      exact x_iret (w1 := (fun u : XT => (wM cI cJ cB cZ bd u))) t_1 B h hr (by rcases hz_3 with h_ | h_ <;> rw [h_] <;> rfl) hR dX12_isLetter_11
  exact (main k) t _ _ s.heap [] ls hR hl h
def wbX12_takesSets_0 (rec : Nat → XT → (Nat → Int32) → (Nat → Int64) → (XT → Prop) → Prop) (k : Nat) (t : XT) (li : Nat → Int32) (lj : Nat → Int64) (Q : XT → Prop) : Prop :=
  rec 1 t (uI li 2 1) lj Q
def wbX12_takesSets_1 (rec : Nat → XT → (Nat → Int32) → (Nat → Int64) → (XT → Prop) → Prop) (k : Nat) (t : XT) (li : Nat → Int32) (lj : Nat → Int64) (Q : XT → Prop) : Prop :=
  (((256 : Int32) ≤ (li 2)) → Q t) ∧ (¬ ((256 : Int32) ≤ (li 2)) → (∀ v_2 : Int32, v_2 = ((li 1) ^^^ (-1)) → (∀ v_3 : Int32, v_3 = ((li 2) &&& v_2) → ((¬ v_3 = 0) → rec 2 t li lj Q) ∧ ((v_3 = 0) → (vp_in (li 2) 256 ∧ (∀ t_5 : XT, t_5 = sA t 1 (upd (t.2.2.1 1) (li 2).toNatClampNeg (vp_nar .boolean 1)) → rec 2 t_5 li lj Q))))))
def wbX12_takesSets_2 (rec : Nat → XT → (Nat → Int32) → (Nat → Int64) → (XT → Prop) → Prop) (k : Nat) (t : XT) (li : Nat → Int32) (lj : Nat → Int64) (Q : XT → Prop) : Prop :=
  (∀ v_6 : Int32, v_6 = (li 2) + Int32.ofInt 1 → rec 1 t (uI li 2 v_6) lj Q)
def wpX12_takesSets : Nat → Nat → XT → (Nat → Int32) → (Nat → Int64) → (XT → Prop) → Prop
  | 0, _, _, _, _, _ => False
  | k + 1, 0, t, li, lj, Q => wbX12_takesSets_0 (wpX12_takesSets k) k t li lj Q
  | k + 1, 1, t, li, lj, Q => wbX12_takesSets_1 (wpX12_takesSets k) k t li lj Q
  | k + 1, 2, t, li, lj, Q => wbX12_takesSets_2 (wpX12_takesSets k) k t li lj Q
  | _ + 1, _, _, _, _, _ => False
def wqX12_takesSets (k : Nat) (t : XT) (a1 : Int32) (Q : XT → Prop) : Prop := wpX12_takesSets k 0 t (uI (fun _ => 0) 1 a1) (fun _ => 0) Q
set_option maxHeartbeats 8000000 in
set_option maxRecDepth 100000 in
theorem wkX12_takesSets (l : Launch) (D : va_G) (cI cJ cB cZ : ClassId) (bd : Nat → Nat) (k : Nat) (t : XT) (a1 : Int32) (Q : XT → Prop) (hR : wqX12_takesSets k t a1 Q) : MetV l yX12_takesSets wsX12_takesSets 0 0 0 0 D (TYS cI cJ cB cZ) (wM cI cJ cB cZ bd t) [.ref (bd 0), .int a1] (fun u => Q u) (fun u : XT => (wM cI cJ cB cZ bd u)) := by
  refine x_startV (ty := .int) (cc := cX12_takesSets) (by decide) rfl (Nat.le_of_ble_eq_true rfl) ?_
  intro p e s m args below meth c A ls B hr hnm h hl
  have hx := B.1.1
  have hb := B.1.2.1
  have hml := B.1.2.2.1
  have hts := B.1.2.2.2.2
  have hown : s.vm.findClass RX12 = some m.cls := B.1.2.2.2.1
  have hin12 : ∀ w ∈ u_ws RX12 TX12 31, w ∈ wsX12_takesSets := by decide +kernel
  have main : ∀ k : Nat, (∀ (t : XT) (li : Nat → Int32) (lj : Nat → Int64) (H : Heap) (locs : List Loc) (ls : Array Slot), wpX12_takesSets k 0 t li lj Q → lv_has ls 3 [(0, .ref (bd 0)), (1, .int (li 1))] → Hp D A s.heap (wM cI cJ cB cZ bd t) H locs → W p l e { frames := 0, cells := 0, slots := 0, locals := 0 } s m args below meth c H locs 0 0 (MQ below (va_Qv (fun u => Q u) (fun u t => xEnd D ((fun u : XT => (wM cI cJ cB cZ bd u)) u) A t) A) args s 0 0 A) (F0 m 0 ls [])) ∧
      (∀ (t : XT) (li : Nat → Int32) (lj : Nat → Int64) (H : Heap) (locs : List Loc) (ls : Array Slot), wpX12_takesSets k 1 t li lj Q → lv_has ls 3 [(0, .ref (bd 0)), (1, .int (li 1)), (2, .int (li 2))] → Hp D A s.heap (wM cI cJ cB cZ bd t) H locs → W p l e { frames := 0, cells := 0, slots := 0, locals := 0 } s m args below meth c H locs 0 0 (MQ below (va_Qv (fun u => Q u) (fun u t => xEnd D ((fun u : XT => (wM cI cJ cB cZ bd u)) u) A t) A) args s 0 0 A) (F0 m 2 ls [])) ∧
      (∀ (t : XT) (li : Nat → Int32) (lj : Nat → Int64) (H : Heap) (locs : List Loc) (ls : Array Slot), wpX12_takesSets k 2 t li lj Q → lv_has ls 3 [(0, .ref (bd 0)), (1, .int (li 1)), (2, .int (li 2))] → Hp D A s.heap (wM cI cJ cB cZ bd t) H locs → W p l e { frames := 0, cells := 0, slots := 0, locals := 0 } s m args below meth c H locs 0 0 (MQ below (va_Qv (fun u => Q u) (fun u t => xEnd D ((fun u : XT => (wM cI cJ cB cZ bd u)) u) A t) A) args s 0 0 A) (F0 m 24 ls [])) := by
    intro k
    induction k with
    | zero => exact ⟨fun _ _ _ _ _ _ hR => False.elim hR, fun _ _ _ _ _ _ hR => False.elim hR, fun _ _ _ _ _ _ hR => False.elim hR⟩
    | succ k ih =>
      refine ⟨?_, ?_, ?_⟩
      · intro t li lj H locs ls hR hl h
        have hR : wbX12_takesSets_0 (wpX12_takesSets k) k t li lj Q := hR
        unfold wbX12_takesSets_0 at hR
        refine lv_iconst (v := 1) hx hb dX12_takesSets_0 (by decide) ?_
        refine lv_istore_n (lv' := [(2, .int 1), (0, .ref (bd 0)), (1, .int (li 1))]) hx hb dX12_takesSets_1 rfl hl (by decide) rfl (fun ls hl => ?_)
        exact ih.2.1 t (uI li 2 1) lj H locs ls hR (lv_sub hl [1, 2, 0] rfl) h
      · intro t li lj H locs ls hR hl h
        have hR : wbX12_takesSets_1 (wpX12_takesSets k) k t li lj Q := hR
        unfold wbX12_takesSets_1 at hR
        refine lv_iload_n hx hb dX12_takesSets_2 rfl (lv_at hl 2 rfl) ?_
        refine lv_sipush (v := 256) hx hb dX12_takesSets_3 (by decide) ?_
        refine lv_icmp_ge (tgt := 30) hx hb dX12_takesSets_6 (by decide) (fun c_1 => ?_) (fun c_1 => ?_)
        · have hR := hR.1 c_1
          exact x_vret (w1 := (fun u : XT => (wM cI cJ cB cZ bd u))) t B h hr hR dX12_takesSets_30
        · have hR := hR.2 c_1
          refine lv_iload_n hx hb dX12_takesSets_9 rfl (lv_at hl 2 rfl) ?_
          refine lv_iload_n hx hb dX12_takesSets_10 rfl (lv_at hl 1 rfl) ?_
          refine lv_iconst (v := (-1)) hx hb dX12_takesSets_11 (by decide) ?_
          refine lv_ixor hx hb dX12_takesSets_12 ?_
          refine lv_topi (fun v_2 ev_2 => ?_)
          have hR := hR v_2 ev_2
          refine lv_iand hx hb dX12_takesSets_13 ?_
          refine lv_topi (fun v_3 ev_3 => ?_)
          have hR := hR v_3 ev_3
          refine lv_if_ne (tgt := 24) hx hb dX12_takesSets_14 (by decide) (fun c_4 => ?_) (fun c_4 => ?_)
          · have hR := hR.1 c_4
            exact ih.2.2 t li lj H locs ls hR (lv_sub hl [0, 1, 2] rfl) h
          · have hR := hR.2 c_4
            refine lv_aload_n hx hb dX12_takesSets_17 rfl (lv_at hl 0 rfl) ?_
            refine x_get (ci := 12) (C := RX12) (T := TX12) (N := 31) (v := .ref (bd 2)) B h hin12 0 4 rfl rfl (by decide) (by decide +kernel) rfl dX12_takesSets_18 ?_
            refine lv_iload_n hx hb dX12_takesSets_21 rfl (lv_at hl 2 rfl) ?_
            refine lv_iconst (v := 1) hx hb dX12_takesSets_22 (by decide) ?_
            obtain ⟨hb_5, hR⟩ := hR
            refine z_zast (f := (t.2.2.1 1)) B h 2 3 rfl rfl hb_5 dX12_takesSets_23 (fun H locs h => ?_)
            obtain ⟨t_5, et_5⟩ : ∃ v : XT, v = sA t 1 (upd (t.2.2.1 1) (li 2).toNatClampNeg (vp_nar .boolean 1)) := ⟨_, rfl⟩
            have hR := hR t_5 et_5
            have h : Hp D A s.heap (wM cI cJ cB cZ bd t_5) H locs := by rw [et_5]; exact h
            exact ih.2.2 t_5 li lj H locs ls hR (lv_sub hl [0, 1, 2] rfl) h
      · intro t li lj H locs ls hR hl h
        have hR : wbX12_takesSets_2 (wpX12_takesSets k) k t li lj Q := hR
        unfold wbX12_takesSets_2 at hR
        obtain ⟨v_6, ev_6⟩ : ∃ v : Int32, v = (li 2) + Int32.ofInt 1 := ⟨_, rfl⟩
        have hR := hR v_6 ev_6
        refine lv_iinc (v := v_6) (lv' := [(2, .int v_6), (0, .ref (bd 0)), (1, .int (li 1))]) hx hb dX12_takesSets_24 hl (k := 2) rfl ev_6.symm (by decide) rfl (fun ls hl => ?_)
        refine lv_goto (tgt := 2) hx hb dX12_takesSets_27 (by decide) ?_
        exact ih.2.1 t (uI li 2 v_6) lj H locs ls hR (lv_sub hl [1, 2, 0] rfl) h
  exact (main k).1 t _ _ s.heap [] ls hR hl h
def wbX12_toldMany_0 (rec : Nat → XT → (Nat → Int32) → (Nat → Int64) → (Int32 → XT → Prop) → Prop) (k : Nat) (t : XT) (li : Nat → Int32) (lj : Nat → Int64) (Q : Int32 → XT → Prop) : Prop :=
  rec 1 t (uI (uI li 1 0) 2 1) lj Q
def wbX12_toldMany_1 (rec : Nat → XT → (Nat → Int32) → (Nat → Int64) → (Int32 → XT → Prop) → Prop) (k : Nat) (t : XT) (li : Nat → Int32) (lj : Nat → Int64) (Q : Int32 → XT → Prop) : Prop :=
  (((256 : Int32) ≤ (li 2)) → Q (li 1) t) ∧ (¬ ((256 : Int32) ≤ (li 2)) → (vp_in (li 2) 256 ∧ (∀ v_2 : Int32, v_2 = (t.2.2.1 1) (li 2).toNatClampNeg → (wqX12_truth k v_2 (fun r_3 => (∀ v_4 : Int32, v_4 = ((li 1) + r_3) → (∀ v_5 : Int32, v_5 = (li 2) + Int32.ofInt 1 → rec 1 t (uI (uI li 1 v_4) 2 v_5) lj Q)))))))
def wpX12_toldMany : Nat → Nat → XT → (Nat → Int32) → (Nat → Int64) → (Int32 → XT → Prop) → Prop
  | 0, _, _, _, _, _ => False
  | k + 1, 0, t, li, lj, Q => wbX12_toldMany_0 (wpX12_toldMany k) k t li lj Q
  | k + 1, 1, t, li, lj, Q => wbX12_toldMany_1 (wpX12_toldMany k) k t li lj Q
  | _ + 1, _, _, _, _, _ => False
def wqX12_toldMany (k : Nat) (t : XT)  (Q : Int32 → XT → Prop) : Prop := wpX12_toldMany k 0 t (fun _ => 0) (fun _ => 0) Q
set_option maxHeartbeats 8000000 in
set_option maxRecDepth 100000 in
theorem wkX12_toldMany (l : Launch) (D : va_G) (cI cJ cB cZ : ClassId) (bd : Nat → Nat) (k : Nat) (t : XT)  (Q : Int32 → XT → Prop) (hR : wqX12_toldMany k t  Q) : MetI l yX12_toldMany wsX12_toldMany 1 20 0 0 D (TYS cI cJ cB cZ) (wM cI cJ cB cZ bd t) [.ref (bd 0)] (fun r u => Q r u) (fun u : XT => (wM cI cJ cB cZ bd u)) := by
  refine x_startI (ty := .int) (cc := cX12_toldMany) (by decide) rfl (Nat.le_of_ble_eq_true rfl) ?_
  intro p e s m args below meth c A ls B hr hnm h hl
  have hx := B.1.1
  have hb := B.1.2.1
  have hml := B.1.2.2.1
  have hts := B.1.2.2.2.2
  have hown : s.vm.findClass RX12 = some m.cls := B.1.2.2.2.1
  have hin12 : ∀ w ∈ u_ws RX12 TX12 31, w ∈ wsX12_toldMany := by decide +kernel
  have main : ∀ k : Nat, (∀ (t : XT) (li : Nat → Int32) (lj : Nat → Int64) (H : Heap) (locs : List Loc) (ls : Array Slot), wpX12_toldMany k 0 t li lj Q → lv_has ls 3 [(0, .ref (bd 0))] → Hp D A s.heap (wM cI cJ cB cZ bd t) H locs → W p l e { frames := 1, cells := 0, slots := 0, locals := 20 } s m args below meth c H locs 0 0 (MQ below (va_Qi (fun r u => Q r u) (fun u t => xEnd D ((fun u : XT => (wM cI cJ cB cZ bd u)) u) A t) A) args s 0 0 A) (F0 m 0 ls [])) ∧
      (∀ (t : XT) (li : Nat → Int32) (lj : Nat → Int64) (H : Heap) (locs : List Loc) (ls : Array Slot), wpX12_toldMany k 1 t li lj Q → lv_has ls 3 [(0, .ref (bd 0)), (1, .int (li 1)), (2, .int (li 2))] → Hp D A s.heap (wM cI cJ cB cZ bd t) H locs → W p l e { frames := 1, cells := 0, slots := 0, locals := 20 } s m args below meth c H locs 0 0 (MQ below (va_Qi (fun r u => Q r u) (fun u t => xEnd D ((fun u : XT => (wM cI cJ cB cZ bd u)) u) A t) A) args s 0 0 A) (F0 m 4 ls [])) := by
    intro k
    induction k with
    | zero => exact ⟨fun _ _ _ _ _ _ hR => False.elim hR, fun _ _ _ _ _ _ hR => False.elim hR⟩
    | succ k ih =>
      refine ⟨?_, ?_⟩
      · intro t li lj H locs ls hR hl h
        have hR : wbX12_toldMany_0 (wpX12_toldMany k) k t li lj Q := hR
        unfold wbX12_toldMany_0 at hR
        refine lv_iconst (v := 0) hx hb dX12_toldMany_0 (by decide) ?_
        refine lv_istore_n (lv' := [(1, .int 0), (0, .ref (bd 0))]) hx hb dX12_toldMany_1 rfl hl (by decide) rfl (fun ls hl => ?_)
        refine lv_iconst (v := 1) hx hb dX12_toldMany_2 (by decide) ?_
        refine lv_istore_n (lv' := [(2, .int 1), (1, .int 0), (0, .ref (bd 0))]) hx hb dX12_toldMany_3 rfl hl (by decide) rfl (fun ls hl => ?_)
        exact ih.2 t (uI (uI li 1 0) 2 1) lj H locs ls hR (lv_sub hl [2, 1, 0] rfl) h
      · intro t li lj H locs ls hR hl h
        have hR : wbX12_toldMany_1 (wpX12_toldMany k) k t li lj Q := hR
        unfold wbX12_toldMany_1 at hR
        refine lv_iload_n hx hb dX12_toldMany_4 rfl (lv_at hl 2 rfl) ?_
        refine lv_sipush (v := 256) hx hb dX12_toldMany_5 (by decide) ?_
        refine lv_icmp_ge (tgt := 29) hx hb dX12_toldMany_8 (by decide) (fun c_1 => ?_) (fun c_1 => ?_)
        · have hR := hR.1 c_1
          refine lv_iload_n hx hb dX12_toldMany_29 rfl (lv_at hl 1 rfl) ?_
          exact x_iret (w1 := (fun u : XT => (wM cI cJ cB cZ bd u))) t B h hr rfl hR dX12_toldMany_30
        · have hR := hR.2 c_1
          refine lv_iload_n hx hb dX12_toldMany_11 rfl (lv_at hl 1 rfl) ?_
          refine lv_aload_n hx hb dX12_toldMany_12 rfl (lv_at hl 0 rfl) ?_
          refine x_get (ci := 12) (C := RX12) (T := TX12) (N := 31) (v := .ref (bd 2)) B h hin12 0 4 rfl rfl (by decide) (by decide +kernel) rfl dX12_toldMany_13 ?_
          refine lv_iload_n hx hb dX12_toldMany_16 rfl (lv_at hl 2 rfl) ?_
          obtain ⟨hb_2, hR⟩ := hR
          refine va_zald (f := (t.2.2.1 1)) hx hb B.2.1 h.1 2 3 rfl rfl hb_2 dX12_toldMany_17 ?_
          refine lv_topi (fun v_2 ev_2 => ?_)
          have hR := hR v_2 ev_2
          refine x_cSIE (n := 1) (As := [.int v_2]) (rest := [.int (li 1)]) B h (wkX12_truth l D cI cJ cB cZ bd k v_2 _ hR) ⟨⟨_, rfl⟩, by decide +kernel, Nat.le_of_ble_eq_true rfl, Nat.le_of_ble_eq_true rfl⟩ gX12_toldMany_X12_truth rfl hl.1 rfl (Nat.le_of_ble_eq_true rfl) dX12_toldMany_18 ⟨Nat.le_of_ble_eq_true rfl, Nat.le_of_ble_eq_true rfl⟩ (fun r_3 _ H locs hR h => ?_)
          refine lv_iadd hx hb dX12_toldMany_21 ?_
          refine lv_topi (fun v_4 ev_4 => ?_)
          have hR := hR v_4 ev_4
          refine lv_istore_n (lv' := [(1, .int v_4), (0, .ref (bd 0)), (2, .int (li 2))]) hx hb dX12_toldMany_22 rfl hl (by decide) rfl (fun ls hl => ?_)
          obtain ⟨v_5, ev_5⟩ : ∃ v : Int32, v = (li 2) + Int32.ofInt 1 := ⟨_, rfl⟩
          have hR := hR v_5 ev_5
          refine lv_iinc (v := v_5) (lv' := [(2, .int v_5), (1, .int v_4), (0, .ref (bd 0))]) hx hb dX12_toldMany_23 hl (k := 2) rfl ev_5.symm (by decide) rfl (fun ls hl => ?_)
          refine lv_goto (tgt := 4) hx hb dX12_toldMany_26 (by decide) ?_
          exact ih.2 t (uI (uI li 1 v_4) 2 v_5) lj H locs ls hR (lv_sub hl [2, 1, 0] rfl) h
  exact (main k).1 t _ _ s.heap [] ls hR hl h
