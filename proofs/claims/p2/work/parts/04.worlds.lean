/-! ===== the worlds: the class (WX) and the reference (WM), new ones by default; rows of arrays; what is made ===== -/
def WX (cI cJ cB cZ : ClassId) (ad : Nat → Nat) (D_x : Int32 := 0) (Tape_bytes : Nat → Int32 := fun _ => 0) (Tape_size : Int32 := 0) (Reader_told : Nat → Int32 := fun _ => 0) (Reader_simplices : Int32 := 0) (Reader_place : Int32 := 0) (Shape_size : Int32 := 0) (Shape_letters : Nat → Int32 := fun _ => 0) (Shape_dims : Nat → Int32 := fun _ => 0) (Shape_numbers : Nat → Int32 := fun _ => (-1)) (Shape_faces : Nat → Int64 := fun _ => 0) (Shape_cofaces : Nat → Int64 := fun _ => 0) (Shape_ofDim : Nat → Int64 := fun _ => 0) (Pairs_partner : Nat → Int32 := fun _ => (-1)) (Pairs_there : Int64 := 0) (Pairs_lower : Int64 := 0) (Pairs_upper : Int64 := 0) (Pairs_changes : Int32 := 0) (Peel_open : Int64 := 0) (Peel_single : Int64 := 0) (Heights_height : Nat → Int32 := fun _ => 0) (Heights_order : Nat → Int32 := fun _ => 0) (Heights_ordered : Int32 := 0) (Heights_measuredAt : Int32 := (-1)) (Flow_value : Nat → Int64 := fun _ => 0) (Flow_ways : Nat → Int64 := fun _ => 0) (Flow_row : Nat → Int32 := fun _ => 0) (Flow_skip : Int64 := 0) (Boundary_torsions : Nat → Int64 := fun _ => 0) (History_partners : Nat → Int32 := fun _ => 0) (History_present : Nat → Int64 := fun _ => 0) (History_size : Int32 := 0) (History_next : Int32 := 0) (Kept_partners : Nat → Int32 := fun _ => 0) (Kept_filled : Int64 := 0) (Matrix_cells : Nat → Int64 := fun _ => 0) (Matrix_work : Nat → Int64 := fun _ => 0) (Matrix_diagonal : Nat → Int64 := fun _ => 0) (Matrix_rows : Int32 := 0) (Matrix_columns : Int32 := 0) (Matrix_minor : Int64 := 0) : va_W :=
  [(ad 0, .inr (11, [.ref (ad 1), .ref (ad 2), .ref (ad 3), .ref (ad 4), .ref (ad 5), .ref (ad 6), .ref (ad 7), .ref (ad 8), .ref (ad 9), .ref (ad 10), .int D_x])),
   (ad 1, .inr (10, [.ref (ad 12), .int Tape_size])),
   (ad 2, .inr (8, [.ref (ad 13), .int Reader_simplices, .int Reader_place])),
   (ad 3, .inr (9, [.int Shape_size, .ref (ad 14), .ref (ad 15), .ref (ad 16), .ref (ad 17), .ref (ad 18), .ref (ad 19)])),
   (ad 4, .inr (6, [.ref (ad 3), .ref (ad 20), .long Pairs_there, .long Pairs_lower, .long Pairs_upper, .int Pairs_changes])),
   (ad 5, .inr (7, [.ref (ad 3), .long Peel_open, .long Peel_single])),
   (ad 6, .inr (2, [.ref (ad 3), .ref (ad 4), .ref (ad 21), .ref (ad 22), .int Heights_ordered, .int Heights_measuredAt])),
   (ad 7, .inr (1, [.ref (ad 3), .ref (ad 4), .ref (ad 6), .ref (ad 23), .ref (ad 24), .ref (ad 25), .long Flow_skip])),
   (ad 8, .inr (0, [.ref (ad 3), .ref (ad 7), .ref (ad 11), .ref (ad 26)])),
   (ad 9, .inr (3, [.ref (ad 27), .ref (ad 28), .int History_size, .int History_next])),
   (ad 10, .inr (4, [.ref (ad 29), .long Kept_filled])),
   (ad 11, .inr (5, [.ref (ad 30), .ref (ad 31), .ref (ad 32), .int Matrix_rows, .int Matrix_columns, .long Matrix_minor])),
   (ad 12, .inl (cI, 160, .inl Tape_bytes)),
   (ad 13, .inl (cI, 256, .inl Reader_told)),
   (ad 14, .inl (cI, 64, .inl Shape_letters)),
   (ad 15, .inl (cI, 64, .inl Shape_dims)),
   (ad 16, .inl (cI, 256, .inl Shape_numbers)),
   (ad 17, .inl (cJ, 64, .inr (.inl Shape_faces))),
   (ad 18, .inl (cJ, 64, .inr (.inl Shape_cofaces))),
   (ad 19, .inl (cJ, 5, .inr (.inl Shape_ofDim))),
   (ad 20, .inl (cI, 64, .inl Pairs_partner)),
   (ad 21, .inl (cI, 64, .inl Heights_height)),
   (ad 22, .inl (cI, 64, .inl Heights_order)),
   (ad 23, .inl (cJ, 64, .inr (.inl Flow_value))),
   (ad 24, .inl (cJ, 64, .inr (.inl Flow_ways))),
   (ad 25, .inl (cI, 64, .inl Flow_row)),
   (ad 26, .inl (cJ, 64, .inr (.inl Boundary_torsions))),
   (ad 27, .inl (cI, 1024, .inl History_partners)),
   (ad 28, .inl (cJ, 16, .inr (.inl History_present))),
   (ad 29, .inl (cI, 192, .inl Kept_partners)),
   (ad 30, .inl (cJ, 900, .inr (.inl Matrix_cells))),
   (ad 31, .inl (cJ, 900, .inr (.inl Matrix_work))),
   (ad 32, .inl (cJ, 64, .inr (.inl Matrix_diagonal)))]
def WM (cI cJ cB cZ : ClassId) (bd : Nat → Nat) (tape : Nat → Int32 := fun _ => 0) (taped : Int32 := 0) (p_ : Int32 := 0) (fault : Int32 := 0) (isTold : Nat → Int32 := fun _ => 0) (many : Int32 := 0) (letters : Nat → Int32 := fun _ => 0) (numberOf : Nat → Int32 := fun _ => 0) (partner : Nat → Int32 := fun _ => 0) (isGone : Nat → Int32 := fun _ => 0) (height : Nat → Int32 := fun _ => 0) (from_ : Nat → Int32 := fun _ => 0) (past : Nat → Int32 := fun _ => 0) (pastMany : Int32 := 0) (isOpen : Nat → Int32 := fun _ => 0) (ways : Nat → Int64 := fun _ => 0) (weight : Nat → Int64 := fun _ => 0) (row : Nat → Int32 := fun _ => 0) (rowMany : Int32 := 0) (reach : Nat → Int64 := fun _ => 0) (chain : Nat → Int64 := fun _ => 0) (isTaken : Nat → Int32 := fun _ => 0) (table : Nat → Int64 := fun _ => 0) (high : Int32 := 0) (wide : Int32 := 0) (steps : Nat → Int64 := fun _ => 0) (x : Int32 := 0) (choice : Nat → Int32 := fun _ => 0) (partnerThen : Nat → Int32 := fun _ => 0) (isKept : Nat → Int32 := fun _ => 0) (kept : Nat → Int32 := fun _ => 0) : va_W :=
  [(bd 0, .inr (12, [.ref (bd 1), .int taped, .int p_, .int fault, .ref (bd 2), .int many, .ref (bd 3), .ref (bd 4), .ref (bd 5), .ref (bd 6), .ref (bd 7), .ref (bd 8), .ref (bd 9), .int pastMany, .ref (bd 10), .ref (bd 11), .ref (bd 12), .ref (bd 13), .int rowMany, .ref (bd 14), .ref (bd 15), .ref (bd 16), .ref (bd 17), .int high, .int wide, .ref (bd 18), .int x, .ref (bd 19), .ref (bd 20), .ref (bd 21), .ref (bd 22)])),
   (bd 1, .inl (cB, 160, .inl tape)),
   (bd 2, .inl (cZ, 256, .inl isTold)),
   (bd 3, .inl (cI, 60, .inl letters)),
   (bd 4, .inl (cI, 256, .inl numberOf)),
   (bd 5, .inl (cI, 60, .inl partner)),
   (bd 6, .inl (cZ, 60, .inl isGone)),
   (bd 7, .inl (cI, 60, .inl height)),
   (bd 8, .inl (cI, 60, .inl from_)),
   (bd 9, .inl (cI, 1920, .inl past)),
   (bd 10, .inl (cZ, 60, .inl isOpen)),
   (bd 11, .inl (cJ, 60, .inr (.inl ways))),
   (bd 12, .inl (cJ, 60, .inr (.inl weight))),
   (bd 13, .inl (cI, 122, .inl row)),
   (bd 14, .inl (cJ, 60, .inr (.inl reach))),
   (bd 15, .inl (cJ, 60, .inr (.inl chain))),
   (bd 16, .inl (cZ, 60, .inl isTaken)),
   (bd 17, .inl (cJ, 3600, .inr (.inl table))),
   (bd 18, .inl (cJ, 60, .inr (.inl steps))),
   (bd 19, .inl (cI, 60, .inl choice)),
   (bd 20, .inl (cI, 60, .inl partnerThen)),
   (bd 21, .inl (cZ, 3, .inl isKept)),
   (bd 22, .inl (cI, 180, .inl kept))]
abbrev TYS (cI cJ cB cZ : ClassId) : List (ClassId × FieldType) := [(cI, .int), (cJ, .long), (cB, .byte), (cZ, .boolean)]
theorem zero_lushr (k : Int32) : ((0 : Int64).toUInt64 >>> (k.toInt64.toUInt64 &&& Int64.toUInt64 63)).toInt64 = 0 := by
  rw [show (0 : Int64).toUInt64 = 0 from by decide, UInt64.zero_shiftRight]
  decide
theorem i32_ofInt {x : Int32} {n : Int} (h : x.toInt = n) : x = Int32.ofInt n := by rw [← h, Int32.ofInt_toInt]
/-- a switch's number: outside its table, or one of its places -/
theorem sw_cases (x : Int32) (lo hi : Int) (n : Nat) (hn : hi = lo + n - 1) : (x.toInt < lo ∨ hi < x.toInt) ∨ ∃ j : Nat, j < n ∧ x = Int32.ofInt (lo + j) := by
  by_cases h : x.toInt < lo ∨ hi < x.toInt
  · exact Or.inl h
  · refine Or.inr ⟨(x.toInt - lo).toNat, by omega, i32_ofInt ?_⟩
    omega
theorem arrV_ext {cA : ClassId} {n : Nat} {f g : Nat → Value} (h : ∀ j, j < n → f j = g j) : arrV cA n f = arrV cA n g := by
  unfold arrV
  congr 2
  funext j
  exact h j.val j.isLt
section ROWS4
variable {p : Program} {l : Launch} {e : Env} {R : Room} {s : State} {m : MethodId} {args : Array Value} {below : List Frame} {meth : Method} {c : Code} {H : Heap} {locs : List Loc} {cells slots : Nat} {Q : State → Prop}
variable {cc : ByteArray} {nL pc : Nat} {Ts : List Cond} {own : String} {D : va_G} {tys : List (ClassId × FieldType)} {A : Nat → Prop} {H0 : Heap} {ls : Array Slot} {rest : List Value} {ws : va_W} {a : Nat} {cA : ClassId} {n : Nat} {i : Int32}
theorem x_iast {f : Nat → Int32} {x : Int32} (B : Bd p s m args meth c cc nL Ts own D tys) (h : Hp D A H0 ws H locs) (q0 t0 : Nat) (ha : ws[q0]? = some (a, .inl (cA, n, .inl f))) (ht : tys[t0]? = some (cA, .int)) (hin : vp_in i n) (hdg : decode cc pc = .ok (.iastore, 1))
    (kk : ∀ (H1 : Heap) (locs1 : List Loc) (g : Nat → Int32), Hp D A H0 (ws.set q0 (a, .inl (cA, n, .inl g))) H1 locs1 → W p l e R s m args below meth c H1 locs1 cells slots Q (F0 m (pc + 1) ls rest)) : W p l e R s m args below meth c H locs cells slots Q (F0 m pc ls (.int x :: .int i :: .ref a :: rest)) :=
  va_iast (D := D) B.1.1 B.1.2.1 B.2.1 h.1 h.2.1 h.2.2.1 q0 t0 ha ht hin hdg (fun H1 locs1 hP hD hS => kk H1 locs1 _ ⟨hP, hD, hS, h.2.2.2⟩)
theorem x_bast {f : Nat → Int32} {x : Int32} (B : Bd p s m args meth c cc nL Ts own D tys) (h : Hp D A H0 ws H locs) (q0 t0 : Nat) (ha : ws[q0]? = some (a, .inl (cA, n, .inl f))) (ht : tys[t0]? = some (cA, .byte)) (hin : vp_in i n) (hdg : decode cc pc = .ok (.bastore, 1))
    (kk : ∀ (H1 : Heap) (locs1 : List Loc) (g : Nat → Int32), Hp D A H0 (ws.set q0 (a, .inl (cA, n, .inl g))) H1 locs1 → W p l e R s m args below meth c H1 locs1 cells slots Q (F0 m (pc + 1) ls rest)) : W p l e R s m args below meth c H locs cells slots Q (F0 m pc ls (.int x :: .int i :: .ref a :: rest)) :=
  va_bast (D := D) B.1.1 B.1.2.1 B.2.1 h.1 h.2.1 h.2.2.1 q0 t0 ha ht hin hdg (fun H1 locs1 hP hD hS => kk H1 locs1 _ ⟨hP, hD, hS, h.2.2.2⟩)
theorem x_zast {f : Nat → Int32} {x : Int32} (B : Bd p s m args meth c cc nL Ts own D tys) (h : Hp D A H0 ws H locs) (q0 t0 : Nat) (ha : ws[q0]? = some (a, .inl (cA, n, .inl f))) (ht : tys[t0]? = some (cA, .boolean)) (hin : vp_in i n) (hdg : decode cc pc = .ok (.bastore, 1))
    (kk : ∀ (H1 : Heap) (locs1 : List Loc) (g : Nat → Int32), Hp D A H0 (ws.set q0 (a, .inl (cA, n, .inl g))) H1 locs1 → W p l e R s m args below meth c H1 locs1 cells slots Q (F0 m (pc + 1) ls rest)) : W p l e R s m args below meth c H locs cells slots Q (F0 m pc ls (.int x :: .int i :: .ref a :: rest)) :=
  va_zast (D := D) B.1.1 B.1.2.1 B.2.1 h.1 h.2.1 h.2.2.1 q0 t0 ha ht hin hdg (fun H1 locs1 hP hD hS => kk H1 locs1 _ ⟨hP, hD, hS, h.2.2.2⟩)
theorem x_newa {atype : ArrayType} {ty : FieldType} {x : Int32} {a0 : vp_A} (B : Bd p s m args meth c cc nL Ts own D tys) (h : Hp D A H0 ws H locs) (harr : Cond.arrayClass (newarray.typeOf atype) ∈ Ts) (hty : newarray.typeOf atype = ty) (hpr : ∀ C, ty ≠ .object C) (t0 : Nat) (ht : tys[t0]? = some (cA, ty)) (ha : ∀ cA : ClassId, vp_cell cA a0 = arrV cA n (fun _ => defaultValue ty)) (hn : ¬ x < 0) (hN : x.toNatClampNeg = n) (hbytes : n * componentBytes ty ≤ 536870912) (hcells : cells + 1 ≤ R.cells) (hslots : slots + n ≤ R.slots) (hdg : decode cc pc = .ok (.newarray atype, 2))
    (kk : ∀ (q : Nat) (H1 : Heap), Hp D A H0 (ws ++ [(q, .inl (cA, a0))]) H1 locs → W p l e R s m args below meth c H1 locs (cells + 1) (slots + n) Q (F0 m (pc + 2) ls (.ref q :: rest))) : W p l e R s m args below meth c H locs cells slots Q (F0 m pc ls (.int x :: rest)) := by
  refine va_newa (D := D) B.1.1 B.1.2.1 (B.1.2.2.2.2 _ harr) hty B.2.1 h.1 h.2.1 h.2.2.1 h.2.2.2 ha hn hN hbytes hcells hslots hdg (fun q cB H1 hK hP hD hS => ?_)
  have e1 := (hK.2 tys.length (cB, ty) (by simp)).2
  have e2 := (B.2.1.2 t0 _ ht).2
  have he : cB = cA := by
    cases ty with
    | object C => exact absurd rfl (hpr C)
    | _ => exact Option.some.inj (Eq.trans (Eq.symm e1) e2)
  subst he
  exact kk q H1 ⟨hP, hD, hS, h.2.2.2⟩
theorem x_new {C : String} {T : u_T} {N ci index : Nat} {fs : List Value} (B : Bd p s m args meth c cc nL Ts own D tys) (h : Hp D A H0 ws H locs) (hin : ∀ w ∈ u_ws C T N, w ∈ Ts) (ty : Nat → FieldType) (hty : ∀ k, k < N → parseFieldDescriptor (T k).2.2.1 = some (ty k)) (hcl : Cond.classLink own index C ∈ Ts) (hinst : Cond.instantiable C N ∈ Ts) (hini : Cond.initialized C ∈ Ts) (hc : vwCl[ci]? = some (C, T, N)) (hfs : ∀ j, j < N → defaultValue (ty j) = vp_V fs j) (hcells : cells + 1 ≤ R.cells) (hslots : slots + N ≤ R.slots) (hdg : decode cc pc = .ok (.new index, 3))
    (kk : ∀ (q : Nat) (H1 : Heap), Hp D A H0 (ws ++ [(q, .inr (ci, fs))]) H1 locs → W p l e R s m args below meth c H1 locs (cells + 1) (slots + N) Q (F0 m (pc + 3) ls (.ref q :: rest))) : W p l e R s m args below meth c H locs cells slots Q (F0 m pc ls rest) :=
  va_new (D := D) B.1.1 B.1.2.1 B.1.2.2.2.2 hin ty hty B.1.2.2.2.1 (B.1.2.2.2.2 _ hcl) (B.1.2.2.2.2 _ hinst) (B.1.2.2.2.2 _ hini) B.2.1 h.1 h.2.1 h.2.2.1 h.2.2.2 hc hfs hcells hslots hdg (fun q H1 hP hD hS => kk q H1 ⟨hP, hD, hS, h.2.2.2⟩)
end ROWS4
theorem dJ7_fill_53178_0 : decode cJ7_fill_53178 0 = .ok (.iconst 0, 1) := by decide +kernel
theorem dJ7_fill_53178_1 : decode cJ7_fill_53178 1 = .ok (.istore_n 2, 1) := by decide +kernel
theorem dJ7_fill_53178_2 : decode cJ7_fill_53178 2 = .ok (.aload_n 0, 1) := by decide +kernel
theorem dJ7_fill_53178_3 : decode cJ7_fill_53178 3 = .ok (.arraylength, 1) := by decide +kernel
theorem dJ7_fill_53178_4 : decode cJ7_fill_53178 4 = .ok (.istore_n 3, 1) := by decide +kernel
theorem dJ7_fill_53178_5 : decode cJ7_fill_53178 5 = .ok (.iload_n 2, 1) := by decide +kernel
theorem dJ7_fill_53178_6 : decode cJ7_fill_53178 6 = .ok (.iload_n 3, 1) := by decide +kernel
theorem dJ7_fill_53178_7 : decode cJ7_fill_53178 7 = .ok (.if_icmp .ge 13, 3) := by decide +kernel
theorem dJ7_fill_53178_10 : decode cJ7_fill_53178 10 = .ok (.aload_n 0, 1) := by decide +kernel
theorem dJ7_fill_53178_11 : decode cJ7_fill_53178 11 = .ok (.iload_n 2, 1) := by decide +kernel
theorem dJ7_fill_53178_12 : decode cJ7_fill_53178 12 = .ok (.iload_n 1, 1) := by decide +kernel
theorem dJ7_fill_53178_13 : decode cJ7_fill_53178 13 = .ok (.iastore, 1) := by decide +kernel
theorem dJ7_fill_53178_14 : decode cJ7_fill_53178 14 = .ok (.iinc 2 1, 3) := by decide +kernel
theorem dJ7_fill_53178_17 : decode cJ7_fill_53178 17 = .ok (.goto (-12), 3) := by decide +kernel
theorem dJ7_fill_53178_20 : decode cJ7_fill_53178 20 = .ok (.return_, 1) := by decide +kernel
theorem dJ7_fill_d0a16_0 : decode cJ7_fill_d0a16 0 = .ok (.iconst 0, 1) := by decide +kernel
theorem dJ7_fill_d0a16_1 : decode cJ7_fill_d0a16 1 = .ok (.istore_n 3, 1) := by decide +kernel
theorem dJ7_fill_d0a16_2 : decode cJ7_fill_d0a16 2 = .ok (.aload_n 0, 1) := by decide +kernel
theorem dJ7_fill_d0a16_3 : decode cJ7_fill_d0a16 3 = .ok (.arraylength, 1) := by decide +kernel
theorem dJ7_fill_d0a16_4 : decode cJ7_fill_d0a16 4 = .ok (.istore 4, 2) := by decide +kernel
theorem dJ7_fill_d0a16_6 : decode cJ7_fill_d0a16 6 = .ok (.iload_n 3, 1) := by decide +kernel
theorem dJ7_fill_d0a16_7 : decode cJ7_fill_d0a16 7 = .ok (.iload 4, 2) := by decide +kernel
theorem dJ7_fill_d0a16_9 : decode cJ7_fill_d0a16 9 = .ok (.if_icmp .ge 13, 3) := by decide +kernel
theorem dJ7_fill_d0a16_12 : decode cJ7_fill_d0a16 12 = .ok (.aload_n 0, 1) := by decide +kernel
theorem dJ7_fill_d0a16_13 : decode cJ7_fill_d0a16 13 = .ok (.iload_n 3, 1) := by decide +kernel
theorem dJ7_fill_d0a16_14 : decode cJ7_fill_d0a16 14 = .ok (.lload_n 1, 1) := by decide +kernel
theorem dJ7_fill_d0a16_15 : decode cJ7_fill_d0a16 15 = .ok (.lastore, 1) := by decide +kernel
theorem dJ7_fill_d0a16_16 : decode cJ7_fill_d0a16 16 = .ok (.iinc 3 1, 3) := by decide +kernel
theorem dJ7_fill_d0a16_19 : decode cJ7_fill_d0a16 19 = .ok (.goto (-13), 3) := by decide +kernel
theorem dJ7_fill_d0a16_22 : decode cJ7_fill_d0a16 22 = .ok (.return_, 1) := by decide +kernel
set_option maxHeartbeats 4000000 in
set_option maxRecDepth 100000 in
theorem c_fillI (l : Launch) (D : va_G) (tys : List (ClassId × FieldType)) (cA : ClassId) (t0 : Nat) (ht : tys[t0]? = some (cA, .int)) (a n : Nat) (hn : n < 2147483648) (f : Nat → Int32) (v : Int32) : MetV l yJ7_fill_53178 wsJ7_fill_53178 0 0 0 0 D tys [(a, .inl (cA, n, .inl f))] [.ref a, .int v] (fun _ : Unit => True) (fun _ => [(a, .inl (cA, n, .inl (fun _ => v)))]) := by
  refine x_startV (ty := .int) (cc := cJ7_fill_53178) (by decide) rfl (Nat.le_of_ble_eq_true rfl) ?_
  intro p e s m args below meth c A ls B hr hnm h hl
  have hx := B.1.1
  have hb := B.1.2.1
  have hl : lv_has ls 4 [(0, .ref a), (1, .int v)] := hl
  have loop : ∀ (k i : Nat) (g : Nat → Int32) (H : Heap) (locs : List Loc) (ls : Array Slot), i + k = n → (∀ j, j < i → g j = v) → lv_has ls 4 [(2, .int (nI i)), (3, .int (nI n)), (0, .ref a), (1, .int v)] → Hp D A s.heap [(a, .inl (cA, n, .inl g))] H locs → W p l e { frames := 0, cells := 0, slots := 0, locals := 0 } s m args below meth c H locs 0 0 (MQ below (va_Qv (fun _ : Unit => True) (fun u t => xEnd D ((fun _ => [(a, .inl (cA, n, .inl (fun _ => v)))]) u) A t) A) args s 0 0 A) (F0 m 5 ls []) := by
    intro k
    induction k with
    | zero =>
      intro i g H locs ls hi hg hl h
      obtain rfl : n = i := by omega
      refine lv_iload_n hx hb dJ7_fill_53178_5 rfl (lv_at hl 0 rfl) ?_
      refine lv_iload_n hx hb dJ7_fill_53178_6 rfl (lv_at hl 1 rfl) ?_
      refine lv_icmp_ge (tgt := 20) hx hb dJ7_fill_53178_7 (by decide) (fun _ => ?_) (fun c_1 => absurd (nI_le (Nat.le_refl _) hn) c_1)
      refine x_vret (w1 := (fun _ => [(a, .inl (cA, n, .inl (fun _ => v)))])) () B ?_ hr trivial dJ7_fill_53178_20
      refine ⟨fun q z hz => ?_, ⟨fun q1 q2 x y hx1 hy1 hxy => ?_, fun q z hz => ?_⟩, h.2.2.1, h.2.2.2⟩
      · have h0 := h.1 0 (a, .inl (cA, n, .inl g)) rfl
        rcases q with _ | q
        · simp only [List.getElem?_cons_zero, Option.some.injEq] at hz
          subst hz
          show H[a]? = some (vp_cell cA _)
          rw [show H[a]? = some (vp_cell cA (n, .inl g)) from h0]
          rw [vp_cell_i, vp_cell_i]
          exact congrArg some (arrV_ext (fun j hj => by rw [hg j hj]))
        · simp at hz
      · rcases q1 with _ | q1
        · rcases q2 with _ | q2
          · rfl
          · simp at hy1
        · simp at hx1
      · rcases q with _ | q
        · simp only [List.getElem?_cons_zero, Option.some.injEq] at hz
          subst hz
          exact h.2.1.2 0 (a, .inl (cA, n, .inl g)) rfl
        · simp at hz
    | succ k ih =>
      intro i g H locs ls hi hg hl h
      refine lv_iload_n hx hb dJ7_fill_53178_5 rfl (lv_at hl 0 rfl) ?_
      refine lv_iload_n hx hb dJ7_fill_53178_6 rfl (lv_at hl 1 rfl) ?_
      refine lv_icmp_ge (tgt := 20) hx hb dJ7_fill_53178_7 (by decide) (fun c_1 => absurd (nI_lt (show i < n by omega) hn) (Int32.not_lt.mpr c_1)) (fun _ => ?_)
      refine lv_aload_n hx hb dJ7_fill_53178_10 rfl (lv_at hl 2 rfl) ?_
      refine lv_iload_n hx hb dJ7_fill_53178_11 rfl (lv_at hl 0 rfl) ?_
      refine lv_iload_n hx hb dJ7_fill_53178_12 rfl (lv_at hl 3 rfl) ?_
      refine va_iast (D := D) hx hb B.2.1 h.1 h.2.1 h.2.2.1 0 t0 rfl ht (vp_in_nI (show i < n by omega) hn) dJ7_fill_53178_13 (fun H locs hP hD hS => ?_)
      have h : Hp D A s.heap [(a, .inl (cA, n, .inl (upd g (nI i).toNatClampNeg v)))] H locs := ⟨hP, hD, hS, h.2.2.2⟩
      rw [nI_clamp (show i < 2147483648 by omega)] at h
      refine lv_iinc (v := nI (i + 1)) (lv' := [(2, .int (nI (i + 1))), (3, .int (nI n)), (0, .ref a), (1, .int v)]) hx hb dJ7_fill_53178_14 hl (k := 0) rfl (nI_1 i) (by decide) rfl (fun ls hl => ?_)
      refine lv_goto (tgt := 5) hx hb dJ7_fill_53178_17 (by decide) ?_
      refine ih (i + 1) _ H locs ls (by omega) (fun j hj => ?_) hl h
      by_cases hji : j = i
      · subst hji; simp [upd]
      · simp [upd, hji]; exact hg j (by omega)
  refine lv_iconst (v := 0) hx hb dJ7_fill_53178_0 (by decide) ?_
  refine lv_istore_n (lv' := [(2, .int 0), (0, .ref a), (1, .int v)]) hx hb dJ7_fill_53178_1 rfl hl (by decide) rfl (fun ls hl => ?_)
  refine lv_aload_n hx hb dJ7_fill_53178_2 rfl (lv_at hl 1 rfl) ?_
  refine va_alen (v := nI n) hx hb B.2.1 h.1 0 t0 rfl ht rfl dJ7_fill_53178_3 ?_
  refine lv_istore_n (lv' := [(3, .int (nI n)), (2, .int 0), (0, .ref a), (1, .int v)]) hx hb dJ7_fill_53178_4 rfl hl (by decide) rfl (fun ls hl => ?_)
  refine loop n 0 f s.heap [] ls (by omega) (fun j hj => absurd hj (Nat.not_lt_zero _)) ?_ h
  rw [nI_0]
  exact lv_sub hl [1, 0, 2, 3] rfl
set_option maxHeartbeats 4000000 in
set_option maxRecDepth 100000 in
theorem c_fillL (l : Launch) (D : va_G) (tys : List (ClassId × FieldType)) (cA : ClassId) (t0 : Nat) (ht : tys[t0]? = some (cA, .long)) (a n : Nat) (hn : n < 2147483648) (f : Nat → Int64) (v : Int64) : MetV l yJ7_fill_d0a16 wsJ7_fill_d0a16 0 0 0 0 D tys [(a, .inl (cA, n, .inr (.inl f)))] [.ref a, .long v] (fun _ : Unit => True) (fun _ => [(a, .inl (cA, n, .inr (.inl (fun _ => v))))]) := by
  refine x_startV (ty := .int) (cc := cJ7_fill_d0a16) (by decide) rfl (Nat.le_of_ble_eq_true rfl) ?_
  intro p e s m args below meth c A ls B hr hnm h hl
  have hx := B.1.1
  have hb := B.1.2.1
  have hl : lv_has ls 5 [(0, .ref a), (1, .long v)] := hl
  have loop : ∀ (k i : Nat) (g : Nat → Int64) (H : Heap) (locs : List Loc) (ls : Array Slot), i + k = n → (∀ j, j < i → g j = v) → lv_has ls 5 [(3, .int (nI i)), (4, .int (nI n)), (0, .ref a), (1, .long v)] → Hp D A s.heap [(a, .inl (cA, n, .inr (.inl g)))] H locs → W p l e { frames := 0, cells := 0, slots := 0, locals := 0 } s m args below meth c H locs 0 0 (MQ below (va_Qv (fun _ : Unit => True) (fun u t => xEnd D ((fun _ => [(a, .inl (cA, n, .inr (.inl (fun _ => v))))]) u) A t) A) args s 0 0 A) (F0 m 6 ls []) := by
    intro k
    induction k with
    | zero =>
      intro i g H locs ls hi hg hl h
      obtain rfl : n = i := by omega
      refine lv_iload_n hx hb dJ7_fill_d0a16_6 rfl (lv_at hl 0 rfl) ?_
      refine lv_iload hx hb dJ7_fill_d0a16_7 (lv_at hl 1 rfl) ?_
      refine lv_icmp_ge (tgt := 22) hx hb dJ7_fill_d0a16_9 (by decide) (fun _ => ?_) (fun c_1 => absurd (nI_le (Nat.le_refl _) hn) c_1)
      refine x_vret (w1 := (fun _ => [(a, .inl (cA, n, .inr (.inl (fun _ => v))))])) () B ?_ hr trivial dJ7_fill_d0a16_22
      refine ⟨fun q z hz => ?_, ⟨fun q1 q2 x y hx1 hy1 hxy => ?_, fun q z hz => ?_⟩, h.2.2.1, h.2.2.2⟩
      · have h0 := h.1 0 (a, .inl (cA, n, .inr (.inl g))) rfl
        rcases q with _ | q
        · simp only [List.getElem?_cons_zero, Option.some.injEq] at hz
          subst hz
          show H[a]? = some (vp_cell cA _)
          rw [show H[a]? = some (vp_cell cA (n, .inr (.inl g))) from h0]
          rw [vp_cell_l, vp_cell_l]
          exact congrArg some (arrV_ext (fun j hj => by rw [hg j hj]))
        · simp at hz
      · rcases q1 with _ | q1
        · rcases q2 with _ | q2
          · rfl
          · simp at hy1
        · simp at hx1
      · rcases q with _ | q
        · simp only [List.getElem?_cons_zero, Option.some.injEq] at hz
          subst hz
          exact h.2.1.2 0 (a, .inl (cA, n, .inr (.inl g))) rfl
        · simp at hz
    | succ k ih =>
      intro i g H locs ls hi hg hl h
      refine lv_iload_n hx hb dJ7_fill_d0a16_6 rfl (lv_at hl 0 rfl) ?_
      refine lv_iload hx hb dJ7_fill_d0a16_7 (lv_at hl 1 rfl) ?_
      refine lv_icmp_ge (tgt := 22) hx hb dJ7_fill_d0a16_9 (by decide) (fun c_1 => absurd (nI_lt (show i < n by omega) hn) (Int32.not_lt.mpr c_1)) (fun _ => ?_)
      refine lv_aload_n hx hb dJ7_fill_d0a16_12 rfl (lv_at hl 2 rfl) ?_
      refine lv_iload_n hx hb dJ7_fill_d0a16_13 rfl (lv_at hl 0 rfl) ?_
      refine lv_lload_n hx hb dJ7_fill_d0a16_14 rfl (lv_at hl 3 rfl) ?_
      refine va_last (D := D) hx hb B.2.1 h.1 h.2.1 h.2.2.1 0 t0 rfl ht (vp_in_nI (show i < n by omega) hn) dJ7_fill_d0a16_15 (fun H locs hP hD hS => ?_)
      have h : Hp D A s.heap [(a, .inl (cA, n, .inr (.inl (vp_updL g (nI i).toNatClampNeg v))))] H locs := ⟨hP, hD, hS, h.2.2.2⟩
      rw [nI_clamp (show i < 2147483648 by omega)] at h
      refine lv_iinc (v := nI (i + 1)) (lv' := [(3, .int (nI (i + 1))), (4, .int (nI n)), (0, .ref a), (1, .long v)]) hx hb dJ7_fill_d0a16_16 hl (k := 0) rfl (nI_1 i) (by decide) rfl (fun ls hl => ?_)
      refine lv_goto (tgt := 6) hx hb dJ7_fill_d0a16_19 (by decide) ?_
      refine ih (i + 1) _ H locs ls (by omega) (fun j hj => ?_) hl h
      by_cases hji : j = i
      · subst hji; simp [vp_updL]
      · simp [vp_updL, hji]; exact hg j (by omega)
  refine lv_iconst (v := 0) hx hb dJ7_fill_d0a16_0 (by decide) ?_
  refine lv_istore_n (lv' := [(3, .int 0), (0, .ref a), (1, .long v)]) hx hb dJ7_fill_d0a16_1 rfl hl (by decide) rfl (fun ls hl => ?_)
  refine lv_aload_n hx hb dJ7_fill_d0a16_2 rfl (lv_at hl 1 rfl) ?_
  refine va_alen (v := nI n) hx hb B.2.1 h.1 0 t0 rfl ht rfl dJ7_fill_d0a16_3 ?_
  refine lv_istore (lv' := [(4, .int (nI n)), (3, .int 0), (0, .ref a), (1, .long v)]) hx hb dJ7_fill_d0a16_4 hl (by decide) rfl (fun ls hl => ?_)
  refine loop n 0 f s.heap [] ls (by omega) (fun j hj => absurd hj (Nat.not_lt_zero _)) ?_ h
  rw [nI_0]
  exact lv_sub hl [1, 0, 2, 3] rfl
theorem dX12_complex_12 : decode cX12_complex 12 = .ok (.iload_n 1, 1) := by decide +kernel
theorem dX12_complex_13 : decode cX12_complex 13 = .ok (.sipush 256, 3) := by decide +kernel
theorem dX12_complex_16 : decode cX12_complex 16 = .ok (.if_icmp .ge 16, 3) := by decide +kernel
theorem dX12_complex_19 : decode cX12_complex 19 = .ok (.aload_n 0, 1) := by decide +kernel
theorem dX12_complex_20 : decode cX12_complex 20 = .ok (.getfield 17, 3) := by decide +kernel
theorem dX12_complex_23 : decode cX12_complex 23 = .ok (.iload_n 1, 1) := by decide +kernel
theorem dX12_complex_24 : decode cX12_complex 24 = .ok (.iconst 0, 1) := by decide +kernel
theorem dX12_complex_25 : decode cX12_complex 25 = .ok (.bastore, 1) := by decide +kernel
theorem dX12_complex_26 : decode cX12_complex 26 = .ok (.iinc 1 1, 3) := by decide +kernel
theorem dX12_complex_29 : decode cX12_complex 29 = .ok (.goto (-17), 3) := by decide +kernel
theorem cpy_zero {α : Type} (f g : Nat → α) (sp dp : Nat) : va_cpy f g sp dp (0 : Int32).toNatClampNeg = g := by
  funext k
  unfold va_cpy
  rw [if_neg]
  rw [show (0 : Int32).toNatClampNeg = 0 from by decide]
  omega
set_option maxHeartbeats 4000000 in
set_option maxRecDepth 100000 in
theorem m_clear {p : Program} {l : Launch} {e : Env} {R : Room} {s : State} {m : MethodId} {args : Array Value} {below : List Frame} {meth : Method} {c : Code} {cells slots : Nat} {Q : State → Prop} {Ts : List Cond} {D : va_G} {A : Nat → Prop} {cI cJ cB cZ : ClassId} {bd : Nat → Nat}
    (B : Bd p s m args meth c cX12_complex 3 Ts RX12 D (TYS cI cJ cB cZ)) (hin : ∀ w ∈ u_ws RX12 TX12 31, w ∈ Ts) (hl2 : Cond.fieldLink RX12 17 (TX12 4).1 (TX12 4).2.1 (TX12 4).2.2.1 ∈ Ts)
    (kk : ∀ (g : Nat → Int32) (H : Heap) (locs : List Loc) (ls : Array Slot), lv_has ls 3 [(1, .int (nI 256)), (0, .ref (bd 0))] → Hp D A s.heap (WM cI cJ cB cZ bd (fault := (-1)) (isTold := g)) H locs → W p l e R s m args below meth c H locs cells slots Q (F0 m 32 ls [])) :
    ∀ (k i : Nat) (g : Nat → Int32) (H : Heap) (locs : List Loc) (ls : Array Slot), i + k = 256 → lv_has ls 3 [(1, .int (nI i)), (0, .ref (bd 0))] → Hp D A s.heap (WM cI cJ cB cZ bd (fault := (-1)) (isTold := g)) H locs → W p l e R s m args below meth c H locs cells slots Q (F0 m 12 ls []) := by
  have hx := B.1.1
  have hb := B.1.2.1
  intro k
  induction k with
  | zero =>
    intro i g H locs ls hi hl h
    obtain rfl : i = 256 := by omega
    refine lv_iload_n hx hb dX12_complex_12 rfl (lv_at hl 0 rfl) ?_
    refine lv_sipush (v := 256) hx hb dX12_complex_13 (by decide) ?_
    refine lv_icmp_ge (tgt := 32) hx hb dX12_complex_16 (by decide) (fun _ => ?_) (fun c_1 => absurd (show (256 : Int32) ≤ nI 256 by decide) c_1)
    exact kk g H locs ls hl h
  | succ k ih =>
    intro i g H locs ls hi hl h
    refine lv_iload_n hx hb dX12_complex_12 rfl (lv_at hl 0 rfl) ?_
    refine lv_sipush (v := 256) hx hb dX12_complex_13 (by decide) ?_
    refine lv_icmp_ge (tgt := 32) hx hb dX12_complex_16 (by decide) (fun c_1 => absurd (nI_lt (show i < 256 by omega) (by decide)) (Int32.not_lt.mpr (show nI 256 ≤ nI i from c_1))) (fun _ => ?_)
    refine lv_aload_n hx hb dX12_complex_19 rfl (lv_at hl 1 rfl) ?_
    refine x_get (ci := 12) (C := RX12) (T := TX12) (N := 31) (v := .ref (bd 2)) B h hin 0 4 rfl rfl (by decide) hl2 rfl dX12_complex_20 ?_
    refine lv_iload_n hx hb dX12_complex_23 rfl (lv_at hl 0 rfl) ?_
    refine lv_iconst (v := 0) hx hb dX12_complex_24 (by decide) ?_
    refine x_zast B h 2 3 rfl rfl (vp_in_nI (show i < 256 by omega) (by decide)) dX12_complex_25 (fun H locs g2 h => ?_)
    have h : Hp D A s.heap (WM cI cJ cB cZ bd (fault := (-1)) (isTold := g2)) H locs := h
    refine lv_iinc (v := nI (i + 1)) (lv' := [(1, .int (nI (i + 1))), (0, .ref (bd 0))]) hx hb dX12_complex_26 hl (k := 0) rfl (nI_1 i) (by decide) rfl (fun ls hl => ?_)
    refine lv_goto (tgt := 12) hx hb dX12_complex_29 (by decide) ?_
    exact ih (i + 1) g2 H locs ls (by omega) hl h
