/-! ===== any method from any state: states, how they change ===== -/
abbrev XT : Type := (Nat → Int32) × (Nat → Int64) × (Nat → Nat → Int32) × (Nat → Nat → Int64)
def wX (cI cJ cB cZ : ClassId) (ad : Nat → Nat) (t : XT) : va_W := GX cI cJ cB cZ ad t.1 t.2.1 t.2.2.1 t.2.2.2
def wM (cI cJ cB cZ : ClassId) (bd : Nat → Nat) (t : XT) : va_W := GM cI cJ cB cZ bd t.1 t.2.1 t.2.2.1 t.2.2.2
def sI (t : XT) (k : Nat) (v : Int32) : XT := (uI t.1 k v, t.2)
def sJ (t : XT) (k : Nat) (v : Int64) : XT := (t.1, uI t.2.1 k v, t.2.2)
def sA (t : XT) (k : Nat) (f : Nat → Int32) : XT := (t.1, t.2.1, uI t.2.2.1 k f, t.2.2.2)
def sB (t : XT) (k : Nat) (f : Nat → Int64) : XT := (t.1, t.2.1, t.2.2.1, uI t.2.2.2 k f)
section ROWS5
variable {p : Program} {l : Launch} {e : Env} {R : Room} {s : State} {m : MethodId} {args : Array Value} {below : List Frame} {meth : Method} {c : Code} {H : Heap} {locs : List Loc} {cells slots : Nat} {Q : State → Prop}
variable {cc : ByteArray} {nL pc : Nat} {Ts : List Cond} {own : String} {D : va_G} {tys : List (ClassId × FieldType)} {A : Nat → Prop} {H0 : Heap} {ls : Array Slot} {rest : List Value} {ws : va_W} {a : Nat} {cA : ClassId} {n : Nat} {i : Int32}
theorem z_iast {f : Nat → Int32} {x : Int32} (B : Bd p s m args meth c cc nL Ts own D tys) (h : Hp D A H0 ws H locs) (q0 t0 : Nat) (ha : ws[q0]? = some (a, .inl (cA, n, .inl f))) (ht : tys[t0]? = some (cA, .int)) (hin : vp_in i n) (hdg : decode cc pc = .ok (.iastore, 1))
    (kk : ∀ (H1 : Heap) (locs1 : List Loc), Hp D A H0 (ws.set q0 (a, .inl (cA, n, .inl (upd f i.toNatClampNeg x)))) H1 locs1 → W p l e R s m args below meth c H1 locs1 cells slots Q (F0 m (pc + 1) ls rest)) : W p l e R s m args below meth c H locs cells slots Q (F0 m pc ls (.int x :: .int i :: .ref a :: rest)) :=
  va_iast (D := D) B.1.1 B.1.2.1 B.2.1 h.1 h.2.1 h.2.2.1 q0 t0 ha ht hin hdg (fun H1 locs1 hP hD hS => kk H1 locs1 ⟨hP, hD, hS, h.2.2.2⟩)
theorem z_bast {f : Nat → Int32} {x : Int32} (B : Bd p s m args meth c cc nL Ts own D tys) (h : Hp D A H0 ws H locs) (q0 t0 : Nat) (ha : ws[q0]? = some (a, .inl (cA, n, .inl f))) (ht : tys[t0]? = some (cA, .byte)) (hin : vp_in i n) (hdg : decode cc pc = .ok (.bastore, 1))
    (kk : ∀ (H1 : Heap) (locs1 : List Loc), Hp D A H0 (ws.set q0 (a, .inl (cA, n, .inl (upd f i.toNatClampNeg (vp_nar .byte x))))) H1 locs1 → W p l e R s m args below meth c H1 locs1 cells slots Q (F0 m (pc + 1) ls rest)) : W p l e R s m args below meth c H locs cells slots Q (F0 m pc ls (.int x :: .int i :: .ref a :: rest)) :=
  va_bast (D := D) B.1.1 B.1.2.1 B.2.1 h.1 h.2.1 h.2.2.1 q0 t0 ha ht hin hdg (fun H1 locs1 hP hD hS => kk H1 locs1 ⟨hP, hD, hS, h.2.2.2⟩)
theorem z_zast {f : Nat → Int32} {x : Int32} (B : Bd p s m args meth c cc nL Ts own D tys) (h : Hp D A H0 ws H locs) (q0 t0 : Nat) (ha : ws[q0]? = some (a, .inl (cA, n, .inl f))) (ht : tys[t0]? = some (cA, .boolean)) (hin : vp_in i n) (hdg : decode cc pc = .ok (.bastore, 1))
    (kk : ∀ (H1 : Heap) (locs1 : List Loc), Hp D A H0 (ws.set q0 (a, .inl (cA, n, .inl (upd f i.toNatClampNeg (vp_nar .boolean x))))) H1 locs1 → W p l e R s m args below meth c H1 locs1 cells slots Q (F0 m (pc + 1) ls rest)) : W p l e R s m args below meth c H locs cells slots Q (F0 m pc ls (.int x :: .int i :: .ref a :: rest)) :=
  va_zast (D := D) B.1.1 B.1.2.1 B.2.1 h.1 h.2.1 h.2.2.1 q0 t0 ha ht hin hdg (fun H1 locs1 hP hD hS => kk H1 locs1 ⟨hP, hD, hS, h.2.2.2⟩)
theorem z_last {f : Nat → Int64} {x : Int64} (B : Bd p s m args meth c cc nL Ts own D tys) (h : Hp D A H0 ws H locs) (q0 t0 : Nat) (ha : ws[q0]? = some (a, .inl (cA, n, .inr (.inl f)))) (ht : tys[t0]? = some (cA, .long)) (hin : vp_in i n) (hdg : decode cc pc = .ok (.lastore, 1))
    (kk : ∀ (H1 : Heap) (locs1 : List Loc), Hp D A H0 (ws.set q0 (a, .inl (cA, n, .inr (.inl (vp_updL f i.toNatClampNeg x))))) H1 locs1 → W p l e R s m args below meth c H1 locs1 cells slots Q (F0 m (pc + 1) ls rest)) : W p l e R s m args below meth c H locs cells slots Q (F0 m pc ls (.long x :: .int i :: .ref a :: rest)) :=
  va_last (D := D) B.1.1 B.1.2.1 B.2.1 h.1 h.2.1 h.2.2.1 q0 t0 ha ht hin hdg (fun H1 locs1 hP hD hS => kk H1 locs1 ⟨hP, hD, hS, h.2.2.2⟩)
end ROWS5
theorem dX0_bettiOf_0 : decode cX0_bettiOf 0 = .ok (.lload_n 1, 1) := by decide +kernel
theorem dX0_bettiOf_1 : decode cX0_bettiOf 1 = .ok (.aload_n 0, 1) := by decide +kernel
theorem dX0_bettiOf_2 : decode cX0_bettiOf 2 = .ok (.getfield 15, 3) := by decide +kernel
theorem dX0_bettiOf_5 : decode cX0_bettiOf 5 = .ok (.getfield 30, 3) := by decide +kernel
theorem dX0_bettiOf_8 : decode cX0_bettiOf 8 = .ok (.iload_n 3, 1) := by decide +kernel
theorem dX0_bettiOf_9 : decode cX0_bettiOf 9 = .ok (.laload, 1) := by decide +kernel
theorem dX0_bettiOf_10 : decode cX0_bettiOf 10 = .ok (.land, 1) := by decide +kernel
theorem dX0_bettiOf_11 : decode cX0_bettiOf 11 = .ok (.invokestatic 35, 3) := by decide +kernel
theorem dX0_bettiOf_14 : decode cX0_bettiOf 14 = .ok (.istore 5, 2) := by decide +kernel
theorem dX0_bettiOf_16 : decode cX0_bettiOf 16 = .ok (.iload 5, 2) := by decide +kernel
theorem dX0_bettiOf_18 : decode cX0_bettiOf 18 = .ok (.aload_n 0, 1) := by decide +kernel
theorem dX0_bettiOf_19 : decode cX0_bettiOf 19 = .ok (.lload_n 1, 1) := by decide +kernel
theorem dX0_bettiOf_20 : decode cX0_bettiOf 20 = .ok (.iload_n 3, 1) := by decide +kernel
theorem dX0_bettiOf_21 : decode cX0_bettiOf 21 = .ok (.iload 4, 2) := by decide +kernel
theorem dX0_bettiOf_23 : decode cX0_bettiOf 23 = .ok (.invokevirtual 41, 3) := by decide +kernel
theorem dX0_bettiOf_26 : decode cX0_bettiOf 26 = .ok (.isub, 1) := by decide +kernel
theorem dX0_bettiOf_27 : decode cX0_bettiOf 27 = .ok (.aload_n 0, 1) := by decide +kernel
theorem dX0_bettiOf_28 : decode cX0_bettiOf 28 = .ok (.lload_n 1, 1) := by decide +kernel
theorem dX0_bettiOf_29 : decode cX0_bettiOf 29 = .ok (.iload_n 3, 1) := by decide +kernel
theorem dX0_bettiOf_30 : decode cX0_bettiOf 30 = .ok (.iconst 1, 1) := by decide +kernel
theorem dX0_bettiOf_31 : decode cX0_bettiOf 31 = .ok (.iadd, 1) := by decide +kernel
theorem dX0_bettiOf_32 : decode cX0_bettiOf 32 = .ok (.iload 4, 2) := by decide +kernel
theorem dX0_bettiOf_34 : decode cX0_bettiOf 34 = .ok (.invokevirtual 41, 3) := by decide +kernel
theorem dX0_bettiOf_37 : decode cX0_bettiOf 37 = .ok (.isub, 1) := by decide +kernel
theorem dX0_bettiOf_38 : decode cX0_bettiOf 38 = .ok (.ireturn, 1) := by decide +kernel
theorem dX0_torsionsOf_0 : decode cX0_torsionsOf 0 = .ok (.aload_n 0, 1) := by decide +kernel
theorem dX0_torsionsOf_1 : decode cX0_torsionsOf 1 = .ok (.lload_n 1, 1) := by decide +kernel
theorem dX0_torsionsOf_2 : decode cX0_torsionsOf 2 = .ok (.iload_n 3, 1) := by decide +kernel
theorem dX0_torsionsOf_3 : decode cX0_torsionsOf 3 = .ok (.iconst 1, 1) := by decide +kernel
theorem dX0_torsionsOf_4 : decode cX0_torsionsOf 4 = .ok (.iadd, 1) := by decide +kernel
theorem dX0_torsionsOf_5 : decode cX0_torsionsOf 5 = .ok (.iload 4, 2) := by decide +kernel
theorem dX0_torsionsOf_7 : decode cX0_torsionsOf 7 = .ok (.invokevirtual 41, 3) := by decide +kernel
theorem dX0_torsionsOf_10 : decode cX0_torsionsOf 10 = .ok (.istore 5, 2) := by decide +kernel
theorem dX0_torsionsOf_12 : decode cX0_torsionsOf 12 = .ok (.iload 5, 2) := by decide +kernel
theorem dX0_torsionsOf_14 : decode cX0_torsionsOf 14 = .ok (.ifCond .eq 15, 3) := by decide +kernel
theorem dX0_torsionsOf_17 : decode cX0_torsionsOf 17 = .ok (.aload_n 0, 1) := by decide +kernel
theorem dX0_torsionsOf_18 : decode cX0_torsionsOf 18 = .ok (.getfield 26, 3) := by decide +kernel
theorem dX0_torsionsOf_21 : decode cX0_torsionsOf 21 = .ok (.getfield 45, 3) := by decide +kernel
theorem dX0_torsionsOf_24 : decode cX0_torsionsOf 24 = .ok (.lconst 1, 1) := by decide +kernel
theorem dX0_torsionsOf_25 : decode cX0_torsionsOf 25 = .ok (.lcmp, 1) := by decide +kernel
theorem dX0_torsionsOf_26 : decode cX0_torsionsOf 26 = .ok (.ifCond .ne 5, 3) := by decide +kernel
theorem dX0_torsionsOf_29 : decode cX0_torsionsOf 29 = .ok (.iconst 0, 1) := by decide +kernel
theorem dX0_torsionsOf_30 : decode cX0_torsionsOf 30 = .ok (.ireturn, 1) := by decide +kernel
theorem dX0_torsionsOf_31 : decode cX0_torsionsOf 31 = .ok (.aload_n 0, 1) := by decide +kernel
theorem dX0_torsionsOf_32 : decode cX0_torsionsOf 32 = .ok (.getfield 26, 3) := by decide +kernel
theorem dX0_torsionsOf_35 : decode cX0_torsionsOf 35 = .ok (.invokevirtual 49, 3) := by decide +kernel
theorem dX0_torsionsOf_38 : decode cX0_torsionsOf 38 = .ok (.iconst 0, 1) := by decide +kernel
theorem dX0_torsionsOf_39 : decode cX0_torsionsOf 39 = .ok (.istore 6, 2) := by decide +kernel
theorem dX0_torsionsOf_41 : decode cX0_torsionsOf 41 = .ok (.iconst 0, 1) := by decide +kernel
theorem dX0_torsionsOf_42 : decode cX0_torsionsOf 42 = .ok (.istore 7, 2) := by decide +kernel
theorem dX0_torsionsOf_44 : decode cX0_torsionsOf 44 = .ok (.iload 7, 2) := by decide +kernel
theorem dX0_torsionsOf_46 : decode cX0_torsionsOf 46 = .ok (.iload 5, 2) := by decide +kernel
theorem dX0_torsionsOf_48 : decode cX0_torsionsOf 48 = .ok (.if_icmp .ge 51, 3) := by decide +kernel
theorem dX0_torsionsOf_51 : decode cX0_torsionsOf 51 = .ok (.iload 7, 2) := by decide +kernel
theorem dX0_torsionsOf_53 : decode cX0_torsionsOf 53 = .ok (.bipush 64, 2) := by decide +kernel
theorem dX0_torsionsOf_55 : decode cX0_torsionsOf 55 = .ok (.if_icmp .ge 44, 3) := by decide +kernel
theorem dX0_torsionsOf_58 : decode cX0_torsionsOf 58 = .ok (.aload_n 0, 1) := by decide +kernel
theorem dX0_torsionsOf_59 : decode cX0_torsionsOf 59 = .ok (.getfield 26, 3) := by decide +kernel
theorem dX0_torsionsOf_62 : decode cX0_torsionsOf 62 = .ok (.getfield 52, 3) := by decide +kernel
theorem dX0_torsionsOf_65 : decode cX0_torsionsOf 65 = .ok (.iload 7, 2) := by decide +kernel
theorem dX0_torsionsOf_67 : decode cX0_torsionsOf 67 = .ok (.laload, 1) := by decide +kernel
theorem dX0_torsionsOf_68 : decode cX0_torsionsOf 68 = .ok (.lconst 1, 1) := by decide +kernel
theorem dX0_torsionsOf_69 : decode cX0_torsionsOf 69 = .ok (.lcmp, 1) := by decide +kernel
theorem dX0_torsionsOf_70 : decode cX0_torsionsOf 70 = .ok (.ifCond .le 23, 3) := by decide +kernel
theorem dX0_torsionsOf_73 : decode cX0_torsionsOf 73 = .ok (.aload_n 0, 1) := by decide +kernel
theorem dX0_torsionsOf_74 : decode cX0_torsionsOf 74 = .ok (.getfield 9, 3) := by decide +kernel
theorem dX0_torsionsOf_77 : decode cX0_torsionsOf 77 = .ok (.iload 6, 2) := by decide +kernel
theorem dX0_torsionsOf_79 : decode cX0_torsionsOf 79 = .ok (.aload_n 0, 1) := by decide +kernel
theorem dX0_torsionsOf_80 : decode cX0_torsionsOf 80 = .ok (.getfield 26, 3) := by decide +kernel
theorem dX0_torsionsOf_83 : decode cX0_torsionsOf 83 = .ok (.getfield 52, 3) := by decide +kernel
theorem dX0_torsionsOf_86 : decode cX0_torsionsOf 86 = .ok (.iload 7, 2) := by decide +kernel
theorem dX0_torsionsOf_88 : decode cX0_torsionsOf 88 = .ok (.laload, 1) := by decide +kernel
theorem dX0_torsionsOf_89 : decode cX0_torsionsOf 89 = .ok (.lastore, 1) := by decide +kernel
theorem dX0_torsionsOf_90 : decode cX0_torsionsOf 90 = .ok (.iinc 6 1, 3) := by decide +kernel
theorem dX0_torsionsOf_93 : decode cX0_torsionsOf 93 = .ok (.iinc 7 1, 3) := by decide +kernel
theorem dX0_torsionsOf_96 : decode cX0_torsionsOf 96 = .ok (.goto (-52), 3) := by decide +kernel
theorem dX0_torsionsOf_99 : decode cX0_torsionsOf 99 = .ok (.iload 6, 2) := by decide +kernel
theorem dX0_torsionsOf_101 : decode cX0_torsionsOf 101 = .ok (.ireturn, 1) := by decide +kernel
theorem dX0_rankOf_0 : decode cX0_rankOf 0 = .ok (.iload_n 3, 1) := by decide +kernel
theorem dX0_rankOf_1 : decode cX0_rankOf 1 = .ok (.iconst 1, 1) := by decide +kernel
theorem dX0_rankOf_2 : decode cX0_rankOf 2 = .ok (.if_icmp .lt 8, 3) := by decide +kernel
theorem dX0_rankOf_5 : decode cX0_rankOf 5 = .ok (.iload_n 3, 1) := by decide +kernel
theorem dX0_rankOf_6 : decode cX0_rankOf 6 = .ok (.iconst 5, 1) := by decide +kernel
theorem dX0_rankOf_7 : decode cX0_rankOf 7 = .ok (.if_icmp .lt 5, 3) := by decide +kernel
theorem dX0_rankOf_10 : decode cX0_rankOf 10 = .ok (.iconst 0, 1) := by decide +kernel
theorem dX0_rankOf_11 : decode cX0_rankOf 11 = .ok (.ireturn, 1) := by decide +kernel
theorem dX0_rankOf_12 : decode cX0_rankOf 12 = .ok (.aload_n 0, 1) := by decide +kernel
theorem dX0_rankOf_13 : decode cX0_rankOf 13 = .ok (.lload_n 1, 1) := by decide +kernel
theorem dX0_rankOf_14 : decode cX0_rankOf 14 = .ok (.aload_n 0, 1) := by decide +kernel
theorem dX0_rankOf_15 : decode cX0_rankOf 15 = .ok (.getfield 15, 3) := by decide +kernel
theorem dX0_rankOf_18 : decode cX0_rankOf 18 = .ok (.getfield 30, 3) := by decide +kernel
theorem dX0_rankOf_21 : decode cX0_rankOf 21 = .ok (.iload_n 3, 1) := by decide +kernel
theorem dX0_rankOf_22 : decode cX0_rankOf 22 = .ok (.laload, 1) := by decide +kernel
theorem dX0_rankOf_23 : decode cX0_rankOf 23 = .ok (.land, 1) := by decide +kernel
theorem dX0_rankOf_24 : decode cX0_rankOf 24 = .ok (.lload_n 1, 1) := by decide +kernel
theorem dX0_rankOf_25 : decode cX0_rankOf 25 = .ok (.aload_n 0, 1) := by decide +kernel
theorem dX0_rankOf_26 : decode cX0_rankOf 26 = .ok (.getfield 15, 3) := by decide +kernel
theorem dX0_rankOf_29 : decode cX0_rankOf 29 = .ok (.getfield 30, 3) := by decide +kernel
theorem dX0_rankOf_32 : decode cX0_rankOf 32 = .ok (.iload_n 3, 1) := by decide +kernel
theorem dX0_rankOf_33 : decode cX0_rankOf 33 = .ok (.iconst 1, 1) := by decide +kernel
theorem dX0_rankOf_34 : decode cX0_rankOf 34 = .ok (.isub, 1) := by decide +kernel
theorem dX0_rankOf_35 : decode cX0_rankOf 35 = .ok (.laload, 1) := by decide +kernel
theorem dX0_rankOf_36 : decode cX0_rankOf 36 = .ok (.land, 1) := by decide +kernel
theorem dX0_rankOf_37 : decode cX0_rankOf 37 = .ok (.iload 4, 2) := by decide +kernel
theorem dX0_rankOf_39 : decode cX0_rankOf 39 = .ok (.invokevirtual 55, 3) := by decide +kernel
theorem dX0_rankOf_42 : decode cX0_rankOf 42 = .ok (.aload_n 0, 1) := by decide +kernel
theorem dX0_rankOf_43 : decode cX0_rankOf 43 = .ok (.getfield 26, 3) := by decide +kernel
theorem dX0_rankOf_46 : decode cX0_rankOf 46 = .ok (.invokevirtual 59, 3) := by decide +kernel
theorem dX0_rankOf_49 : decode cX0_rankOf 49 = .ok (.ireturn, 1) := by decide +kernel
theorem dX0_fill_0 : decode cX0_fill 0 = .ok (.aload_n 0, 1) := by decide +kernel
theorem dX0_fill_1 : decode cX0_fill 1 = .ok (.getfield 26, 3) := by decide +kernel
theorem dX0_fill_4 : decode cX0_fill 4 = .ok (.lload_n 1, 1) := by decide +kernel
theorem dX0_fill_5 : decode cX0_fill 5 = .ok (.invokestatic 35, 3) := by decide +kernel
theorem dX0_fill_8 : decode cX0_fill 8 = .ok (.lload_n 3, 1) := by decide +kernel
theorem dX0_fill_9 : decode cX0_fill 9 = .ok (.invokestatic 35, 3) := by decide +kernel
theorem dX0_fill_12 : decode cX0_fill 12 = .ok (.invokevirtual 63, 3) := by decide +kernel
theorem dX0_fill_15 : decode cX0_fill 15 = .ok (.iconst 0, 1) := by decide +kernel
theorem dX0_fill_16 : decode cX0_fill 16 = .ok (.istore 6, 2) := by decide +kernel
theorem dX0_fill_18 : decode cX0_fill 18 = .ok (.iconst 0, 1) := by decide +kernel
theorem dX0_fill_19 : decode cX0_fill 19 = .ok (.istore 7, 2) := by decide +kernel
theorem dX0_fill_21 : decode cX0_fill 21 = .ok (.iload 7, 2) := by decide +kernel
theorem dX0_fill_23 : decode cX0_fill 23 = .ok (.aload_n 0, 1) := by decide +kernel
theorem dX0_fill_24 : decode cX0_fill 24 = .ok (.getfield 15, 3) := by decide +kernel
theorem dX0_fill_27 : decode cX0_fill 27 = .ok (.getfield 67, 3) := by decide +kernel
theorem dX0_fill_30 : decode cX0_fill 30 = .ok (.if_icmp .ge 64, 3) := by decide +kernel
theorem dX0_fill_33 : decode cX0_fill 33 = .ok (.lload_n 1, 1) := by decide +kernel
theorem dX0_fill_34 : decode cX0_fill 34 = .ok (.iload 7, 2) := by decide +kernel
theorem dX0_fill_36 : decode cX0_fill 36 = .ok (.invokestatic 71, 3) := by decide +kernel
theorem dX0_fill_39 : decode cX0_fill 39 = .ok (.ifCond .eq 49, 3) := by decide +kernel
theorem dX0_fill_42 : decode cX0_fill 42 = .ok (.iload 5, 2) := by decide +kernel
theorem dX0_fill_44 : decode cX0_fill 44 = .ok (.ifCond .eq 30, 3) := by decide +kernel
theorem dX0_fill_47 : decode cX0_fill 47 = .ok (.aload_n 0, 1) := by decide +kernel
theorem dX0_fill_48 : decode cX0_fill 48 = .ok (.getfield 19, 3) := by decide +kernel
theorem dX0_fill_51 : decode cX0_fill 51 = .ok (.iload 7, 2) := by decide +kernel
theorem dX0_fill_53 : decode cX0_fill 53 = .ok (.invokevirtual 75, 3) := by decide +kernel
theorem dX0_fill_56 : decode cX0_fill 56 = .ok (.aload_n 0, 1) := by decide +kernel
theorem dX0_fill_57 : decode cX0_fill 57 = .ok (.getfield 19, 3) := by decide +kernel
theorem dX0_fill_60 : decode cX0_fill 60 = .ok (.aload_n 0, 1) := by decide +kernel
theorem dX0_fill_61 : decode cX0_fill 61 = .ok (.getfield 15, 3) := by decide +kernel
theorem dX0_fill_64 : decode cX0_fill 64 = .ok (.getfield 81, 3) := by decide +kernel
theorem dX0_fill_67 : decode cX0_fill 67 = .ok (.iload 7, 2) := by decide +kernel
theorem dX0_fill_69 : decode cX0_fill 69 = .ok (.iaload, 1) := by decide +kernel
theorem dX0_fill_70 : decode cX0_fill 70 = .ok (.iconst 1, 1) := by decide +kernel
theorem dX0_fill_71 : decode cX0_fill 71 = .ok (.invokevirtual 85, 3) := by decide +kernel
theorem dX0_fill_74 : decode cX0_fill 74 = .ok (.aload_n 0, 1) := by decide +kernel
theorem dX0_fill_75 : decode cX0_fill 75 = .ok (.iload 6, 2) := by decide +kernel
theorem dX0_fill_77 : decode cX0_fill 77 = .ok (.iload 7, 2) := by decide +kernel
theorem dX0_fill_79 : decode cX0_fill 79 = .ok (.lload_n 3, 1) := by decide +kernel
theorem dX0_fill_80 : decode cX0_fill 80 = .ok (.iload 5, 2) := by decide +kernel
theorem dX0_fill_82 : decode cX0_fill 82 = .ok (.invokevirtual 89, 3) := by decide +kernel
theorem dX0_fill_85 : decode cX0_fill 85 = .ok (.iinc 6 1, 3) := by decide +kernel
theorem dX0_fill_88 : decode cX0_fill 88 = .ok (.iinc 7 1, 3) := by decide +kernel
theorem dX0_fill_91 : decode cX0_fill 91 = .ok (.goto (-70), 3) := by decide +kernel
theorem dX0_fill_94 : decode cX0_fill 94 = .ok (.return_, 1) := by decide +kernel
theorem dX0_fillRow_0 : decode cX0_fillRow 0 = .ok (.iconst 0, 1) := by decide +kernel
theorem dX0_fillRow_1 : decode cX0_fillRow 1 = .ok (.istore 6, 2) := by decide +kernel
theorem dX0_fillRow_3 : decode cX0_fillRow 3 = .ok (.iconst 0, 1) := by decide +kernel
theorem dX0_fillRow_4 : decode cX0_fillRow 4 = .ok (.istore 7, 2) := by decide +kernel
theorem dX0_fillRow_6 : decode cX0_fillRow 6 = .ok (.iload 7, 2) := by decide +kernel
theorem dX0_fillRow_8 : decode cX0_fillRow 8 = .ok (.aload_n 0, 1) := by decide +kernel
theorem dX0_fillRow_9 : decode cX0_fillRow 9 = .ok (.getfield 15, 3) := by decide +kernel
theorem dX0_fillRow_12 : decode cX0_fillRow 12 = .ok (.getfield 67, 3) := by decide +kernel
theorem dX0_fillRow_15 : decode cX0_fillRow 15 = .ok (.if_icmp .ge 60, 3) := by decide +kernel
theorem dX0_fillRow_18 : decode cX0_fillRow 18 = .ok (.lload_n 3, 1) := by decide +kernel
theorem dX0_fillRow_19 : decode cX0_fillRow 19 = .ok (.iload 7, 2) := by decide +kernel
theorem dX0_fillRow_21 : decode cX0_fillRow 21 = .ok (.invokestatic 71, 3) := by decide +kernel
theorem dX0_fillRow_24 : decode cX0_fillRow 24 = .ok (.ifCond .eq 45, 3) := by decide +kernel
theorem dX0_fillRow_27 : decode cX0_fillRow 27 = .ok (.aload_n 0, 1) := by decide +kernel
theorem dX0_fillRow_28 : decode cX0_fillRow 28 = .ok (.getfield 26, 3) := by decide +kernel
theorem dX0_fillRow_31 : decode cX0_fillRow 31 = .ok (.iload_n 1, 1) := by decide +kernel
theorem dX0_fillRow_32 : decode cX0_fillRow 32 = .ok (.iload 6, 2) := by decide +kernel
theorem dX0_fillRow_34 : decode cX0_fillRow 34 = .ok (.iload 5, 2) := by decide +kernel
theorem dX0_fillRow_36 : decode cX0_fillRow 36 = .ok (.ifCond .eq 16, 3) := by decide +kernel
theorem dX0_fillRow_39 : decode cX0_fillRow 39 = .ok (.aload_n 0, 1) := by decide +kernel
theorem dX0_fillRow_40 : decode cX0_fillRow 40 = .ok (.getfield 19, 3) := by decide +kernel
theorem dX0_fillRow_43 : decode cX0_fillRow 43 = .ok (.getfield 93, 3) := by decide +kernel
theorem dX0_fillRow_46 : decode cX0_fillRow 46 = .ok (.iload 7, 2) := by decide +kernel
theorem dX0_fillRow_48 : decode cX0_fillRow 48 = .ok (.laload, 1) := by decide +kernel
theorem dX0_fillRow_49 : decode cX0_fillRow 49 = .ok (.goto 14, 3) := by decide +kernel
theorem dX0_fillRow_52 : decode cX0_fillRow 52 = .ok (.aload_n 0, 1) := by decide +kernel
theorem dX0_fillRow_53 : decode cX0_fillRow 53 = .ok (.getfield 15, 3) := by decide +kernel
theorem dX0_fillRow_56 : decode cX0_fillRow 56 = .ok (.iload 7, 2) := by decide +kernel
theorem dX0_fillRow_58 : decode cX0_fillRow 58 = .ok (.iload_n 2, 1) := by decide +kernel
theorem dX0_fillRow_59 : decode cX0_fillRow 59 = .ok (.invokevirtual 96, 3) := by decide +kernel
theorem dX0_fillRow_62 : decode cX0_fillRow 62 = .ok (.i2l, 1) := by decide +kernel
theorem dX0_fillRow_63 : decode cX0_fillRow 63 = .ok (.invokevirtual 100, 3) := by decide +kernel
theorem dX0_fillRow_66 : decode cX0_fillRow 66 = .ok (.iinc 6 1, 3) := by decide +kernel
theorem dX0_fillRow_69 : decode cX0_fillRow 69 = .ok (.iinc 7 1, 3) := by decide +kernel
theorem dX0_fillRow_72 : decode cX0_fillRow 72 = .ok (.goto (-66), 3) := by decide +kernel
theorem dX0_fillRow_75 : decode cX0_fillRow 75 = .ok (.return_, 1) := by decide +kernel
theorem dX1_start_0 : decode cX1_start 0 = .ok (.aload_n 0, 1) := by decide +kernel
theorem dX1_start_1 : decode cX1_start 1 = .ok (.getfield 30, 3) := by decide +kernel
theorem dX1_start_4 : decode cX1_start 4 = .ok (.invokevirtual 34, 3) := by decide +kernel
theorem dX1_start_7 : decode cX1_start 7 = .ok (.aload_n 0, 1) := by decide +kernel
theorem dX1_start_8 : decode cX1_start 8 = .ok (.getfield 9, 3) := by decide +kernel
theorem dX1_start_11 : decode cX1_start 11 = .ok (.lconst 0, 1) := by decide +kernel
theorem dX1_start_12 : decode cX1_start 12 = .ok (.invokestatic 39, 3) := by decide +kernel
theorem dX1_start_15 : decode cX1_start 15 = .ok (.aload_n 0, 1) := by decide +kernel
theorem dX1_start_16 : decode cX1_start 16 = .ok (.getfield 9, 3) := by decide +kernel
theorem dX1_start_19 : decode cX1_start 19 = .ok (.iload_n 1, 1) := by decide +kernel
theorem dX1_start_20 : decode cX1_start 20 = .ok (.lconst 1, 1) := by decide +kernel
theorem dX1_start_21 : decode cX1_start 21 = .ok (.lastore, 1) := by decide +kernel
theorem dX1_start_22 : decode cX1_start 22 = .ok (.return_, 1) := by decide +kernel
theorem dX1_holdOnly_0 : decode cX1_holdOnly 0 = .ok (.iconst 0, 1) := by decide +kernel
theorem dX1_holdOnly_1 : decode cX1_holdOnly 1 = .ok (.istore_n 3, 1) := by decide +kernel
theorem dX1_holdOnly_2 : decode cX1_holdOnly 2 = .ok (.iload_n 3, 1) := by decide +kernel
theorem dX1_holdOnly_3 : decode cX1_holdOnly 3 = .ok (.bipush 64, 2) := by decide +kernel
theorem dX1_holdOnly_5 : decode cX1_holdOnly 5 = .ok (.if_icmp .ge 24, 3) := by decide +kernel
theorem dX1_holdOnly_8 : decode cX1_holdOnly 8 = .ok (.lload_n 1, 1) := by decide +kernel
theorem dX1_holdOnly_9 : decode cX1_holdOnly 9 = .ok (.iload_n 3, 1) := by decide +kernel
theorem dX1_holdOnly_10 : decode cX1_holdOnly 10 = .ok (.invokestatic 45, 3) := by decide +kernel
theorem dX1_holdOnly_13 : decode cX1_holdOnly 13 = .ok (.ifCond .ne 10, 3) := by decide +kernel
theorem dX1_holdOnly_16 : decode cX1_holdOnly 16 = .ok (.aload_n 0, 1) := by decide +kernel
theorem dX1_holdOnly_17 : decode cX1_holdOnly 17 = .ok (.getfield 9, 3) := by decide +kernel
theorem dX1_holdOnly_20 : decode cX1_holdOnly 20 = .ok (.iload_n 3, 1) := by decide +kernel
theorem dX1_holdOnly_21 : decode cX1_holdOnly 21 = .ok (.lconst 0, 1) := by decide +kernel
theorem dX1_holdOnly_22 : decode cX1_holdOnly 22 = .ok (.lastore, 1) := by decide +kernel
theorem dX1_holdOnly_23 : decode cX1_holdOnly 23 = .ok (.iinc 3 1, 3) := by decide +kernel
theorem dX1_holdOnly_26 : decode cX1_holdOnly 26 = .ok (.goto (-24), 3) := by decide +kernel
theorem dX1_holdOnly_29 : decode cX1_holdOnly 29 = .ok (.return_, 1) := by decide +kernel
theorem dX1_pour_0 : decode cX1_pour 0 = .ok (.aload_n 0, 1) := by decide +kernel
theorem dX1_pour_1 : decode cX1_pour 1 = .ok (.getfield 30, 3) := by decide +kernel
theorem dX1_pour_4 : decode cX1_pour 4 = .ok (.getfield 49, 3) := by decide +kernel
theorem dX1_pour_7 : decode cX1_pour 7 = .ok (.iconst 1, 1) := by decide +kernel
theorem dX1_pour_8 : decode cX1_pour 8 = .ok (.isub, 1) := by decide +kernel
theorem dX1_pour_9 : decode cX1_pour 9 = .ok (.istore_n 3, 1) := by decide +kernel
theorem dX1_pour_10 : decode cX1_pour 10 = .ok (.iload_n 3, 1) := by decide +kernel
theorem dX1_pour_11 : decode cX1_pour 11 = .ok (.ifCond .lt 91, 3) := by decide +kernel
theorem dX1_pour_14 : decode cX1_pour 14 = .ok (.aload_n 0, 1) := by decide +kernel
theorem dX1_pour_15 : decode cX1_pour 15 = .ok (.getfield 30, 3) := by decide +kernel
theorem dX1_pour_18 : decode cX1_pour 18 = .ok (.getfield 53, 3) := by decide +kernel
theorem dX1_pour_21 : decode cX1_pour 21 = .ok (.iload_n 3, 1) := by decide +kernel
theorem dX1_pour_22 : decode cX1_pour 22 = .ok (.iaload, 1) := by decide +kernel
theorem dX1_pour_23 : decode cX1_pour 23 = .ok (.istore 4, 2) := by decide +kernel
theorem dX1_pour_25 : decode cX1_pour 25 = .ok (.aload_n 0, 1) := by decide +kernel
theorem dX1_pour_26 : decode cX1_pour 26 = .ok (.getfield 9, 3) := by decide +kernel
theorem dX1_pour_29 : decode cX1_pour 29 = .ok (.iload 4, 2) := by decide +kernel
theorem dX1_pour_31 : decode cX1_pour 31 = .ok (.laload, 1) := by decide +kernel
theorem dX1_pour_32 : decode cX1_pour 32 = .ok (.lconst 0, 1) := by decide +kernel
theorem dX1_pour_33 : decode cX1_pour 33 = .ok (.lcmp, 1) := by decide +kernel
theorem dX1_pour_34 : decode cX1_pour 34 = .ok (.ifCond .eq 27, 3) := by decide +kernel
theorem dX1_pour_37 : decode cX1_pour 37 = .ok (.aload_n 0, 1) := by decide +kernel
theorem dX1_pour_38 : decode cX1_pour 38 = .ok (.getfield 22, 3) := by decide +kernel
theorem dX1_pour_41 : decode cX1_pour 41 = .ok (.getfield 56, 3) := by decide +kernel
theorem dX1_pour_44 : decode cX1_pour 44 = .ok (.iload 4, 2) := by decide +kernel
theorem dX1_pour_46 : decode cX1_pour 46 = .ok (.iaload, 1) := by decide +kernel
theorem dX1_pour_47 : decode cX1_pour 47 = .ok (.iload_n 1, 1) := by decide +kernel
theorem dX1_pour_48 : decode cX1_pour 48 = .ok (.if_icmp .ne 13, 3) := by decide +kernel
theorem dX1_pour_51 : decode cX1_pour 51 = .ok (.aload_n 0, 1) := by decide +kernel
theorem dX1_pour_52 : decode cX1_pour 52 = .ok (.iload 4, 2) := by decide +kernel
theorem dX1_pour_54 : decode cX1_pour 54 = .ok (.iload_n 2, 1) := by decide +kernel
theorem dX1_pour_55 : decode cX1_pour 55 = .ok (.invokevirtual 61, 3) := by decide +kernel
theorem dX1_pour_58 : decode cX1_pour 58 = .ok (.goto 38, 3) := by decide +kernel
theorem dX1_pour_61 : decode cX1_pour 61 = .ok (.aload_n 0, 1) := by decide +kernel
theorem dX1_pour_62 : decode cX1_pour 62 = .ok (.getfield 9, 3) := by decide +kernel
theorem dX1_pour_65 : decode cX1_pour 65 = .ok (.iload 4, 2) := by decide +kernel
theorem dX1_pour_67 : decode cX1_pour 67 = .ok (.laload, 1) := by decide +kernel
theorem dX1_pour_68 : decode cX1_pour 68 = .ok (.lconst 0, 1) := by decide +kernel
theorem dX1_pour_69 : decode cX1_pour 69 = .ok (.lcmp, 1) := by decide +kernel
theorem dX1_pour_70 : decode cX1_pour 70 = .ok (.ifCond .eq 26, 3) := by decide +kernel
theorem dX1_pour_73 : decode cX1_pour 73 = .ok (.aload_n 0, 1) := by decide +kernel
theorem dX1_pour_74 : decode cX1_pour 74 = .ok (.getfield 22, 3) := by decide +kernel
theorem dX1_pour_77 : decode cX1_pour 77 = .ok (.getfield 56, 3) := by decide +kernel
theorem dX1_pour_80 : decode cX1_pour 80 = .ok (.iload 4, 2) := by decide +kernel
theorem dX1_pour_82 : decode cX1_pour 82 = .ok (.iaload, 1) := by decide +kernel
theorem dX1_pour_83 : decode cX1_pour 83 = .ok (.iload_n 1, 1) := by decide +kernel
theorem dX1_pour_84 : decode cX1_pour 84 = .ok (.iconst 1, 1) := by decide +kernel
theorem dX1_pour_85 : decode cX1_pour 85 = .ok (.isub, 1) := by decide +kernel
theorem dX1_pour_86 : decode cX1_pour 86 = .ok (.if_icmp .ne 10, 3) := by decide +kernel
theorem dX1_pour_89 : decode cX1_pour 89 = .ok (.aload_n 0, 1) := by decide +kernel
theorem dX1_pour_90 : decode cX1_pour 90 = .ok (.iload 4, 2) := by decide +kernel
theorem dX1_pour_92 : decode cX1_pour 92 = .ok (.iload_n 2, 1) := by decide +kernel
theorem dX1_pour_93 : decode cX1_pour 93 = .ok (.invokevirtual 65, 3) := by decide +kernel
theorem dX1_pour_96 : decode cX1_pour 96 = .ok (.iinc 3 (-1), 3) := by decide +kernel
theorem dX1_pour_99 : decode cX1_pour 99 = .ok (.goto (-89), 3) := by decide +kernel
theorem dX1_pour_102 : decode cX1_pour 102 = .ok (.return_, 1) := by decide +kernel
theorem dX1_goDown_0 : decode cX1_goDown 0 = .ok (.aload_n 0, 1) := by decide +kernel
theorem dX1_goDown_1 : decode cX1_goDown 1 = .ok (.getfield 26, 3) := by decide +kernel
theorem dX1_goDown_4 : decode cX1_goDown 4 = .ok (.iload_n 1, 1) := by decide +kernel
theorem dX1_goDown_5 : decode cX1_goDown 5 = .ok (.invokevirtual 68, 3) := by decide +kernel
theorem dX1_goDown_8 : decode cX1_goDown 8 = .ok (.lstore_n 3, 1) := by decide +kernel
theorem dX1_goDown_9 : decode cX1_goDown 9 = .ok (.iconst 0, 1) := by decide +kernel
theorem dX1_goDown_10 : decode cX1_goDown 10 = .ok (.istore 5, 2) := by decide +kernel
theorem dX1_goDown_12 : decode cX1_goDown 12 = .ok (.iload 5, 2) := by decide +kernel
theorem dX1_goDown_14 : decode cX1_goDown 14 = .ok (.iconst 5, 1) := by decide +kernel
theorem dX1_goDown_15 : decode cX1_goDown 15 = .ok (.if_icmp .ge 68, 3) := by decide +kernel
theorem dX1_goDown_18 : decode cX1_goDown 18 = .ok (.lload_n 3, 1) := by decide +kernel
theorem dX1_goDown_19 : decode cX1_goDown 19 = .ok (.lconst 0, 1) := by decide +kernel
theorem dX1_goDown_20 : decode cX1_goDown 20 = .ok (.lcmp, 1) := by decide +kernel
theorem dX1_goDown_21 : decode cX1_goDown 21 = .ok (.ifCond .eq 62, 3) := by decide +kernel
theorem dX1_goDown_24 : decode cX1_goDown 24 = .ok (.lload_n 3, 1) := by decide +kernel
theorem dX1_goDown_25 : decode cX1_goDown 25 = .ok (.invokestatic 74, 3) := by decide +kernel
theorem dX1_goDown_28 : decode cX1_goDown 28 = .ok (.istore 6, 2) := by decide +kernel
theorem dX1_goDown_30 : decode cX1_goDown 30 = .ok (.lload_n 3, 1) := by decide +kernel
theorem dX1_goDown_31 : decode cX1_goDown 31 = .ok (.lload_n 3, 1) := by decide +kernel
theorem dX1_goDown_32 : decode cX1_goDown 32 = .ok (.lconst 1, 1) := by decide +kernel
theorem dX1_goDown_33 : decode cX1_goDown 33 = .ok (.lsub, 1) := by decide +kernel
theorem dX1_goDown_34 : decode cX1_goDown 34 = .ok (.land, 1) := by decide +kernel
theorem dX1_goDown_35 : decode cX1_goDown 35 = .ok (.lstore_n 3, 1) := by decide +kernel
theorem dX1_goDown_36 : decode cX1_goDown 36 = .ok (.aload_n 0, 1) := by decide +kernel
theorem dX1_goDown_37 : decode cX1_goDown 37 = .ok (.getfield 9, 3) := by decide +kernel
theorem dX1_goDown_40 : decode cX1_goDown 40 = .ok (.iload 6, 2) := by decide +kernel
theorem dX1_goDown_42 : decode cX1_goDown 42 = .ok (.dup2, 1) := by decide +kernel
theorem dX1_goDown_43 : decode cX1_goDown 43 = .ok (.laload, 1) := by decide +kernel
theorem dX1_goDown_44 : decode cX1_goDown 44 = .ok (.iload_n 2, 1) := by decide +kernel
theorem dX1_goDown_45 : decode cX1_goDown 45 = .ok (.ifCond .eq 24, 3) := by decide +kernel
theorem dX1_goDown_48 : decode cX1_goDown 48 = .ok (.aload_n 0, 1) := by decide +kernel
theorem dX1_goDown_49 : decode cX1_goDown 49 = .ok (.getfield 9, 3) := by decide +kernel
theorem dX1_goDown_52 : decode cX1_goDown 52 = .ok (.iload_n 1, 1) := by decide +kernel
theorem dX1_goDown_53 : decode cX1_goDown 53 = .ok (.laload, 1) := by decide +kernel
theorem dX1_goDown_54 : decode cX1_goDown 54 = .ok (.aload_n 0, 1) := by decide +kernel
theorem dX1_goDown_55 : decode cX1_goDown 55 = .ok (.getfield 22, 3) := by decide +kernel
theorem dX1_goDown_58 : decode cX1_goDown 58 = .ok (.iload 6, 2) := by decide +kernel
theorem dX1_goDown_60 : decode cX1_goDown 60 = .ok (.iload_n 1, 1) := by decide +kernel
theorem dX1_goDown_61 : decode cX1_goDown 61 = .ok (.invokevirtual 78, 3) := by decide +kernel
theorem dX1_goDown_64 : decode cX1_goDown 64 = .ok (.i2l, 1) := by decide +kernel
theorem dX1_goDown_65 : decode cX1_goDown 65 = .ok (.lmul, 1) := by decide +kernel
theorem dX1_goDown_66 : decode cX1_goDown 66 = .ok (.goto 9, 3) := by decide +kernel
theorem dX1_goDown_69 : decode cX1_goDown 69 = .ok (.aload_n 0, 1) := by decide +kernel
theorem dX1_goDown_70 : decode cX1_goDown 70 = .ok (.getfield 9, 3) := by decide +kernel
theorem dX1_goDown_73 : decode cX1_goDown 73 = .ok (.iload_n 1, 1) := by decide +kernel
theorem dX1_goDown_74 : decode cX1_goDown 74 = .ok (.laload, 1) := by decide +kernel
theorem dX1_goDown_75 : decode cX1_goDown 75 = .ok (.ladd, 1) := by decide +kernel
theorem dX1_goDown_76 : decode cX1_goDown 76 = .ok (.lastore, 1) := by decide +kernel
theorem dX1_goDown_77 : decode cX1_goDown 77 = .ok (.iinc 5 1, 3) := by decide +kernel
theorem dX1_goDown_80 : decode cX1_goDown 80 = .ok (.goto (-68), 3) := by decide +kernel
theorem dX1_goDown_83 : decode cX1_goDown 83 = .ok (.return_, 1) := by decide +kernel
theorem dX1_goUp_0 : decode cX1_goUp 0 = .ok (.aload_n 0, 1) := by decide +kernel
theorem dX1_goUp_1 : decode cX1_goUp 1 = .ok (.getfield 26, 3) := by decide +kernel
theorem dX1_goUp_4 : decode cX1_goUp 4 = .ok (.getfield 82, 3) := by decide +kernel
theorem dX1_goUp_7 : decode cX1_goUp 7 = .ok (.iload_n 1, 1) := by decide +kernel
theorem dX1_goUp_8 : decode cX1_goUp 8 = .ok (.iaload, 1) := by decide +kernel
theorem dX1_goUp_9 : decode cX1_goUp 9 = .ok (.istore_n 3, 1) := by decide +kernel
theorem dX1_goUp_10 : decode cX1_goUp 10 = .ok (.iload_n 3, 1) := by decide +kernel
theorem dX1_goUp_11 : decode cX1_goUp 11 = .ok (.iload_n 1, 1) := by decide +kernel
theorem dX1_goUp_12 : decode cX1_goUp 12 = .ok (.if_icmp .gt 4, 3) := by decide +kernel
theorem dX1_goUp_15 : decode cX1_goUp 15 = .ok (.return_, 1) := by decide +kernel
theorem dX1_goUp_16 : decode cX1_goUp 16 = .ok (.aload_n 0, 1) := by decide +kernel
theorem dX1_goUp_17 : decode cX1_goUp 17 = .ok (.getfield 9, 3) := by decide +kernel
theorem dX1_goUp_20 : decode cX1_goUp 20 = .ok (.iload_n 3, 1) := by decide +kernel
theorem dX1_goUp_21 : decode cX1_goUp 21 = .ok (.dup2, 1) := by decide +kernel
theorem dX1_goUp_22 : decode cX1_goUp 22 = .ok (.laload, 1) := by decide +kernel
theorem dX1_goUp_23 : decode cX1_goUp 23 = .ok (.iload_n 2, 1) := by decide +kernel
theorem dX1_goUp_24 : decode cX1_goUp 24 = .ok (.ifCond .eq 24, 3) := by decide +kernel
theorem dX1_goUp_27 : decode cX1_goUp 27 = .ok (.aload_n 0, 1) := by decide +kernel
theorem dX1_goUp_28 : decode cX1_goUp 28 = .ok (.getfield 9, 3) := by decide +kernel
theorem dX1_goUp_31 : decode cX1_goUp 31 = .ok (.iload_n 1, 1) := by decide +kernel
theorem dX1_goUp_32 : decode cX1_goUp 32 = .ok (.laload, 1) := by decide +kernel
theorem dX1_goUp_33 : decode cX1_goUp 33 = .ok (.lneg, 1) := by decide +kernel
theorem dX1_goUp_34 : decode cX1_goUp 34 = .ok (.aload_n 0, 1) := by decide +kernel
theorem dX1_goUp_35 : decode cX1_goUp 35 = .ok (.getfield 22, 3) := by decide +kernel
theorem dX1_goUp_38 : decode cX1_goUp 38 = .ok (.iload_n 1, 1) := by decide +kernel
theorem dX1_goUp_39 : decode cX1_goUp 39 = .ok (.iload_n 3, 1) := by decide +kernel
theorem dX1_goUp_40 : decode cX1_goUp 40 = .ok (.invokevirtual 78, 3) := by decide +kernel
theorem dX1_goUp_43 : decode cX1_goUp 43 = .ok (.i2l, 1) := by decide +kernel
theorem dX1_goUp_44 : decode cX1_goUp 44 = .ok (.lmul, 1) := by decide +kernel
theorem dX1_goUp_45 : decode cX1_goUp 45 = .ok (.goto 9, 3) := by decide +kernel
theorem dX1_goUp_48 : decode cX1_goUp 48 = .ok (.aload_n 0, 1) := by decide +kernel
theorem dX1_goUp_49 : decode cX1_goUp 49 = .ok (.getfield 9, 3) := by decide +kernel
theorem dX1_goUp_52 : decode cX1_goUp 52 = .ok (.iload_n 1, 1) := by decide +kernel
theorem dX1_goUp_53 : decode cX1_goUp 53 = .ok (.laload, 1) := by decide +kernel
theorem dX1_goUp_54 : decode cX1_goUp 54 = .ok (.ladd, 1) := by decide +kernel
theorem dX1_goUp_55 : decode cX1_goUp 55 = .ok (.lastore, 1) := by decide +kernel
theorem dX1_goUp_56 : decode cX1_goUp 56 = .ok (.return_, 1) := by decide +kernel
theorem dX1_countWays_0 : decode cX1_countWays 0 = .ok (.aload_n 0, 1) := by decide +kernel
theorem dX1_countWays_1 : decode cX1_countWays 1 = .ok (.getfield 30, 3) := by decide +kernel
theorem dX1_countWays_4 : decode cX1_countWays 4 = .ok (.invokevirtual 34, 3) := by decide +kernel
theorem dX1_countWays_7 : decode cX1_countWays 7 = .ok (.aload_n 0, 1) := by decide +kernel
theorem dX1_countWays_8 : decode cX1_countWays 8 = .ok (.getfield 15, 3) := by decide +kernel
theorem dX1_countWays_11 : decode cX1_countWays 11 = .ok (.lconst 0, 1) := by decide +kernel
theorem dX1_countWays_12 : decode cX1_countWays 12 = .ok (.invokestatic 39, 3) := by decide +kernel
theorem dX1_countWays_15 : decode cX1_countWays 15 = .ok (.iconst 0, 1) := by decide +kernel
theorem dX1_countWays_16 : decode cX1_countWays 16 = .ok (.istore_n 3, 1) := by decide +kernel
theorem dX1_countWays_17 : decode cX1_countWays 17 = .ok (.iload_n 3, 1) := by decide +kernel
theorem dX1_countWays_18 : decode cX1_countWays 18 = .ok (.aload_n 0, 1) := by decide +kernel
theorem dX1_countWays_19 : decode cX1_countWays 19 = .ok (.getfield 30, 3) := by decide +kernel
theorem dX1_countWays_22 : decode cX1_countWays 22 = .ok (.getfield 49, 3) := by decide +kernel
theorem dX1_countWays_25 : decode cX1_countWays 25 = .ok (.if_icmp .ge 134, 3) := by decide +kernel
theorem dX1_countWays_28 : decode cX1_countWays 28 = .ok (.aload_n 0, 1) := by decide +kernel
theorem dX1_countWays_29 : decode cX1_countWays 29 = .ok (.getfield 30, 3) := by decide +kernel
theorem dX1_countWays_32 : decode cX1_countWays 32 = .ok (.getfield 53, 3) := by decide +kernel
theorem dX1_countWays_35 : decode cX1_countWays 35 = .ok (.iload_n 3, 1) := by decide +kernel
theorem dX1_countWays_36 : decode cX1_countWays 36 = .ok (.iaload, 1) := by decide +kernel
theorem dX1_countWays_37 : decode cX1_countWays 37 = .ok (.istore 4, 2) := by decide +kernel
theorem dX1_countWays_39 : decode cX1_countWays 39 = .ok (.iload 4, 2) := by decide +kernel
theorem dX1_countWays_41 : decode cX1_countWays 41 = .ok (.iload_n 2, 1) := by decide +kernel
theorem dX1_countWays_42 : decode cX1_countWays 42 = .ok (.if_icmp .ne 14, 3) := by decide +kernel
theorem dX1_countWays_45 : decode cX1_countWays 45 = .ok (.aload_n 0, 1) := by decide +kernel
theorem dX1_countWays_46 : decode cX1_countWays 46 = .ok (.getfield 15, 3) := by decide +kernel
theorem dX1_countWays_49 : decode cX1_countWays 49 = .ok (.iload 4, 2) := by decide +kernel
theorem dX1_countWays_51 : decode cX1_countWays 51 = .ok (.lconst 1, 1) := by decide +kernel
theorem dX1_countWays_52 : decode cX1_countWays 52 = .ok (.lastore, 1) := by decide +kernel
theorem dX1_countWays_53 : decode cX1_countWays 53 = .ok (.goto 100, 3) := by decide +kernel
theorem dX1_countWays_56 : decode cX1_countWays 56 = .ok (.aload_n 0, 1) := by decide +kernel
theorem dX1_countWays_57 : decode cX1_countWays 57 = .ok (.getfield 22, 3) := by decide +kernel
theorem dX1_countWays_60 : decode cX1_countWays 60 = .ok (.getfield 56, 3) := by decide +kernel
theorem dX1_countWays_63 : decode cX1_countWays 63 = .ok (.iload 4, 2) := by decide +kernel
theorem dX1_countWays_65 : decode cX1_countWays 65 = .ok (.iaload, 1) := by decide +kernel
theorem dX1_countWays_66 : decode cX1_countWays 66 = .ok (.aload_n 0, 1) := by decide +kernel
theorem dX1_countWays_67 : decode cX1_countWays 67 = .ok (.getfield 22, 3) := by decide +kernel
theorem dX1_countWays_70 : decode cX1_countWays 70 = .ok (.getfield 56, 3) := by decide +kernel
theorem dX1_countWays_73 : decode cX1_countWays 73 = .ok (.iload_n 1, 1) := by decide +kernel
theorem dX1_countWays_74 : decode cX1_countWays 74 = .ok (.iaload, 1) := by decide +kernel
theorem dX1_countWays_75 : decode cX1_countWays 75 = .ok (.if_icmp .ne 19, 3) := by decide +kernel
theorem dX1_countWays_78 : decode cX1_countWays 78 = .ok (.aload_n 0, 1) := by decide +kernel
theorem dX1_countWays_79 : decode cX1_countWays 79 = .ok (.getfield 15, 3) := by decide +kernel
theorem dX1_countWays_82 : decode cX1_countWays 82 = .ok (.iload 4, 2) := by decide +kernel
theorem dX1_countWays_84 : decode cX1_countWays 84 = .ok (.aload_n 0, 1) := by decide +kernel
theorem dX1_countWays_85 : decode cX1_countWays 85 = .ok (.iload 4, 2) := by decide +kernel
theorem dX1_countWays_87 : decode cX1_countWays 87 = .ok (.invokevirtual 85, 3) := by decide +kernel
theorem dX1_countWays_90 : decode cX1_countWays 90 = .ok (.lastore, 1) := by decide +kernel
theorem dX1_countWays_91 : decode cX1_countWays 91 = .ok (.goto 62, 3) := by decide +kernel
theorem dX1_countWays_94 : decode cX1_countWays 94 = .ok (.aload_n 0, 1) := by decide +kernel
theorem dX1_countWays_95 : decode cX1_countWays 95 = .ok (.getfield 22, 3) := by decide +kernel
theorem dX1_countWays_98 : decode cX1_countWays 98 = .ok (.getfield 56, 3) := by decide +kernel
theorem dX1_countWays_101 : decode cX1_countWays 101 = .ok (.iload 4, 2) := by decide +kernel
theorem dX1_countWays_103 : decode cX1_countWays 103 = .ok (.iaload, 1) := by decide +kernel
theorem dX1_countWays_104 : decode cX1_countWays 104 = .ok (.aload_n 0, 1) := by decide +kernel
theorem dX1_countWays_105 : decode cX1_countWays 105 = .ok (.getfield 22, 3) := by decide +kernel
theorem dX1_countWays_108 : decode cX1_countWays 108 = .ok (.getfield 56, 3) := by decide +kernel
theorem dX1_countWays_111 : decode cX1_countWays 111 = .ok (.iload_n 2, 1) := by decide +kernel
theorem dX1_countWays_112 : decode cX1_countWays 112 = .ok (.iaload, 1) := by decide +kernel
theorem dX1_countWays_113 : decode cX1_countWays 113 = .ok (.if_icmp .ne 40, 3) := by decide +kernel
theorem dX1_countWays_116 : decode cX1_countWays 116 = .ok (.aload_n 0, 1) := by decide +kernel
theorem dX1_countWays_117 : decode cX1_countWays 117 = .ok (.getfield 26, 3) := by decide +kernel
theorem dX1_countWays_120 : decode cX1_countWays 120 = .ok (.getfield 82, 3) := by decide +kernel
theorem dX1_countWays_123 : decode cX1_countWays 123 = .ok (.iload 4, 2) := by decide +kernel
theorem dX1_countWays_125 : decode cX1_countWays 125 = .ok (.iaload, 1) := by decide +kernel
theorem dX1_countWays_126 : decode cX1_countWays 126 = .ok (.iload 4, 2) := by decide +kernel
theorem dX1_countWays_128 : decode cX1_countWays 128 = .ok (.if_icmp .le 25, 3) := by decide +kernel
theorem dX1_countWays_131 : decode cX1_countWays 131 = .ok (.aload_n 0, 1) := by decide +kernel
theorem dX1_countWays_132 : decode cX1_countWays 132 = .ok (.getfield 15, 3) := by decide +kernel
theorem dX1_countWays_135 : decode cX1_countWays 135 = .ok (.iload 4, 2) := by decide +kernel
theorem dX1_countWays_137 : decode cX1_countWays 137 = .ok (.aload_n 0, 1) := by decide +kernel
theorem dX1_countWays_138 : decode cX1_countWays 138 = .ok (.getfield 15, 3) := by decide +kernel
theorem dX1_countWays_141 : decode cX1_countWays 141 = .ok (.aload_n 0, 1) := by decide +kernel
theorem dX1_countWays_142 : decode cX1_countWays 142 = .ok (.getfield 26, 3) := by decide +kernel
theorem dX1_countWays_145 : decode cX1_countWays 145 = .ok (.getfield 82, 3) := by decide +kernel
theorem dX1_countWays_148 : decode cX1_countWays 148 = .ok (.iload 4, 2) := by decide +kernel
theorem dX1_countWays_150 : decode cX1_countWays 150 = .ok (.iaload, 1) := by decide +kernel
theorem dX1_countWays_151 : decode cX1_countWays 151 = .ok (.laload, 1) := by decide +kernel
theorem dX1_countWays_152 : decode cX1_countWays 152 = .ok (.lastore, 1) := by decide +kernel
theorem dX1_countWays_153 : decode cX1_countWays 153 = .ok (.iinc 3 1, 3) := by decide +kernel
theorem dX1_countWays_156 : decode cX1_countWays 156 = .ok (.goto (-139), 3) := by decide +kernel
theorem dX1_countWays_159 : decode cX1_countWays 159 = .ok (.aload_n 0, 1) := by decide +kernel
theorem dX1_countWays_160 : decode cX1_countWays 160 = .ok (.getfield 15, 3) := by decide +kernel
theorem dX1_countWays_163 : decode cX1_countWays 163 = .ok (.iload_n 1, 1) := by decide +kernel
theorem dX1_countWays_164 : decode cX1_countWays 164 = .ok (.laload, 1) := by decide +kernel
theorem dX1_countWays_165 : decode cX1_countWays 165 = .ok (.lreturn, 1) := by decide +kernel
theorem dX1_waysDown_0 : decode cX1_waysDown 0 = .ok (.lconst 0, 1) := by decide +kernel
theorem dX1_waysDown_1 : decode cX1_waysDown 1 = .ok (.lstore_n 2, 1) := by decide +kernel
theorem dX1_waysDown_2 : decode cX1_waysDown 2 = .ok (.aload_n 0, 1) := by decide +kernel
theorem dX1_waysDown_3 : decode cX1_waysDown 3 = .ok (.getfield 26, 3) := by decide +kernel
theorem dX1_waysDown_6 : decode cX1_waysDown 6 = .ok (.iload_n 1, 1) := by decide +kernel
theorem dX1_waysDown_7 : decode cX1_waysDown 7 = .ok (.invokevirtual 68, 3) := by decide +kernel
theorem dX1_waysDown_10 : decode cX1_waysDown 10 = .ok (.lstore 4, 2) := by decide +kernel
theorem dX1_waysDown_12 : decode cX1_waysDown 12 = .ok (.iconst 0, 1) := by decide +kernel
theorem dX1_waysDown_13 : decode cX1_waysDown 13 = .ok (.istore 6, 2) := by decide +kernel
theorem dX1_waysDown_15 : decode cX1_waysDown 15 = .ok (.iload 6, 2) := by decide +kernel
theorem dX1_waysDown_17 : decode cX1_waysDown 17 = .ok (.iconst 5, 1) := by decide +kernel
theorem dX1_waysDown_18 : decode cX1_waysDown 18 = .ok (.if_icmp .ge 38, 3) := by decide +kernel
theorem dX1_waysDown_21 : decode cX1_waysDown 21 = .ok (.lload 4, 2) := by decide +kernel
theorem dX1_waysDown_23 : decode cX1_waysDown 23 = .ok (.lconst 0, 1) := by decide +kernel
theorem dX1_waysDown_24 : decode cX1_waysDown 24 = .ok (.lcmp, 1) := by decide +kernel
theorem dX1_waysDown_25 : decode cX1_waysDown 25 = .ok (.ifCond .eq 31, 3) := by decide +kernel
theorem dX1_waysDown_28 : decode cX1_waysDown 28 = .ok (.lload_n 2, 1) := by decide +kernel
theorem dX1_waysDown_29 : decode cX1_waysDown 29 = .ok (.aload_n 0, 1) := by decide +kernel
theorem dX1_waysDown_30 : decode cX1_waysDown 30 = .ok (.getfield 15, 3) := by decide +kernel
theorem dX1_waysDown_33 : decode cX1_waysDown 33 = .ok (.lload 4, 2) := by decide +kernel
theorem dX1_waysDown_35 : decode cX1_waysDown 35 = .ok (.invokestatic 74, 3) := by decide +kernel
theorem dX1_waysDown_38 : decode cX1_waysDown 38 = .ok (.laload, 1) := by decide +kernel
theorem dX1_waysDown_39 : decode cX1_waysDown 39 = .ok (.ladd, 1) := by decide +kernel
theorem dX1_waysDown_40 : decode cX1_waysDown 40 = .ok (.lstore_n 2, 1) := by decide +kernel
theorem dX1_waysDown_41 : decode cX1_waysDown 41 = .ok (.lload 4, 2) := by decide +kernel
theorem dX1_waysDown_43 : decode cX1_waysDown 43 = .ok (.lload 4, 2) := by decide +kernel
theorem dX1_waysDown_45 : decode cX1_waysDown 45 = .ok (.lconst 1, 1) := by decide +kernel
theorem dX1_waysDown_46 : decode cX1_waysDown 46 = .ok (.lsub, 1) := by decide +kernel
theorem dX1_waysDown_47 : decode cX1_waysDown 47 = .ok (.land, 1) := by decide +kernel
theorem dX1_waysDown_48 : decode cX1_waysDown 48 = .ok (.lstore 4, 2) := by decide +kernel
theorem dX1_waysDown_50 : decode cX1_waysDown 50 = .ok (.iinc 6 1, 3) := by decide +kernel
theorem dX1_waysDown_53 : decode cX1_waysDown 53 = .ok (.goto (-38), 3) := by decide +kernel
theorem dX1_waysDown_56 : decode cX1_waysDown 56 = .ok (.lload_n 2, 1) := by decide +kernel
theorem dX1_waysDown_57 : decode cX1_waysDown 57 = .ok (.lreturn, 1) := by decide +kernel
theorem dX1_trace_0 : decode cX1_trace 0 = .ok (.aload_n 0, 1) := by decide +kernel
theorem dX1_trace_1 : decode cX1_trace 1 = .ok (.lload_n 3, 1) := by decide +kernel
theorem dX1_trace_2 : decode cX1_trace 2 = .ok (.putfield 88, 3) := by decide +kernel
theorem dX1_trace_5 : decode cX1_trace 5 = .ok (.aload_n 0, 1) := by decide +kernel
theorem dX1_trace_6 : decode cX1_trace 6 = .ok (.getfield 18, 3) := by decide +kernel
theorem dX1_trace_9 : decode cX1_trace 9 = .ok (.iconst 0, 1) := by decide +kernel
theorem dX1_trace_10 : decode cX1_trace 10 = .ok (.iload_n 1, 1) := by decide +kernel
theorem dX1_trace_11 : decode cX1_trace 11 = .ok (.iastore, 1) := by decide +kernel
theorem dX1_trace_12 : decode cX1_trace 12 = .ok (.iconst 1, 1) := by decide +kernel
theorem dX1_trace_13 : decode cX1_trace 13 = .ok (.istore 5, 2) := by decide +kernel
theorem dX1_trace_15 : decode cX1_trace 15 = .ok (.iload_n 1, 1) := by decide +kernel
theorem dX1_trace_16 : decode cX1_trace 16 = .ok (.istore 6, 2) := by decide +kernel
theorem dX1_trace_18 : decode cX1_trace 18 = .ok (.iload 6, 2) := by decide +kernel
theorem dX1_trace_20 : decode cX1_trace 20 = .ok (.iload_n 2, 1) := by decide +kernel
theorem dX1_trace_21 : decode cX1_trace 21 = .ok (.if_icmp .eq 83, 3) := by decide +kernel
theorem dX1_trace_24 : decode cX1_trace 24 = .ok (.iload 5, 2) := by decide +kernel
theorem dX1_trace_26 : decode cX1_trace 26 = .ok (.iconst 2, 1) := by decide +kernel
theorem dX1_trace_27 : decode cX1_trace 27 = .ok (.iadd, 1) := by decide +kernel
theorem dX1_trace_28 : decode cX1_trace 28 = .ok (.bipush 64, 2) := by decide +kernel
theorem dX1_trace_30 : decode cX1_trace 30 = .ok (.if_icmp .ge 74, 3) := by decide +kernel
theorem dX1_trace_33 : decode cX1_trace 33 = .ok (.aload_n 0, 1) := by decide +kernel
theorem dX1_trace_34 : decode cX1_trace 34 = .ok (.iload 6, 2) := by decide +kernel
theorem dX1_trace_36 : decode cX1_trace 36 = .ok (.invokevirtual 92, 3) := by decide +kernel
theorem dX1_trace_39 : decode cX1_trace 39 = .ok (.istore 7, 2) := by decide +kernel
theorem dX1_trace_41 : decode cX1_trace 41 = .ok (.aload_n 0, 1) := by decide +kernel
theorem dX1_trace_42 : decode cX1_trace 42 = .ok (.getfield 18, 3) := by decide +kernel
theorem dX1_trace_45 : decode cX1_trace 45 = .ok (.iload 5, 2) := by decide +kernel
theorem dX1_trace_47 : decode cX1_trace 47 = .ok (.iload 7, 2) := by decide +kernel
theorem dX1_trace_49 : decode cX1_trace 49 = .ok (.iastore, 1) := by decide +kernel
theorem dX1_trace_50 : decode cX1_trace 50 = .ok (.iinc 5 1, 3) := by decide +kernel
theorem dX1_trace_53 : decode cX1_trace 53 = .ok (.iload 7, 2) := by decide +kernel
theorem dX1_trace_55 : decode cX1_trace 55 = .ok (.istore 6, 2) := by decide +kernel
theorem dX1_trace_57 : decode cX1_trace 57 = .ok (.iload 7, 2) := by decide +kernel
theorem dX1_trace_59 : decode cX1_trace 59 = .ok (.iload_n 2, 1) := by decide +kernel
theorem dX1_trace_60 : decode cX1_trace 60 = .ok (.if_icmp .eq 41, 3) := by decide +kernel
theorem dX1_trace_63 : decode cX1_trace 63 = .ok (.aload_n 0, 1) := by decide +kernel
theorem dX1_trace_64 : decode cX1_trace 64 = .ok (.getfield 26, 3) := by decide +kernel
theorem dX1_trace_67 : decode cX1_trace 67 = .ok (.getfield 82, 3) := by decide +kernel
theorem dX1_trace_70 : decode cX1_trace 70 = .ok (.iload 7, 2) := by decide +kernel
theorem dX1_trace_72 : decode cX1_trace 72 = .ok (.iaload, 1) := by decide +kernel
theorem dX1_trace_73 : decode cX1_trace 73 = .ok (.iconst (-1), 1) := by decide +kernel
theorem dX1_trace_74 : decode cX1_trace 74 = .ok (.if_icmp .eq 27, 3) := by decide +kernel
theorem dX1_trace_77 : decode cX1_trace 77 = .ok (.aload_n 0, 1) := by decide +kernel
theorem dX1_trace_78 : decode cX1_trace 78 = .ok (.getfield 26, 3) := by decide +kernel
theorem dX1_trace_81 : decode cX1_trace 81 = .ok (.getfield 82, 3) := by decide +kernel
theorem dX1_trace_84 : decode cX1_trace 84 = .ok (.iload 7, 2) := by decide +kernel
theorem dX1_trace_86 : decode cX1_trace 86 = .ok (.iaload, 1) := by decide +kernel
theorem dX1_trace_87 : decode cX1_trace 87 = .ok (.istore 6, 2) := by decide +kernel
theorem dX1_trace_89 : decode cX1_trace 89 = .ok (.aload_n 0, 1) := by decide +kernel
theorem dX1_trace_90 : decode cX1_trace 90 = .ok (.getfield 18, 3) := by decide +kernel
theorem dX1_trace_93 : decode cX1_trace 93 = .ok (.iload 5, 2) := by decide +kernel
theorem dX1_trace_95 : decode cX1_trace 95 = .ok (.iload 6, 2) := by decide +kernel
theorem dX1_trace_97 : decode cX1_trace 97 = .ok (.iastore, 1) := by decide +kernel
theorem dX1_trace_98 : decode cX1_trace 98 = .ok (.iinc 5 1, 3) := by decide +kernel
theorem dX1_trace_101 : decode cX1_trace 101 = .ok (.goto (-83), 3) := by decide +kernel
theorem dX1_trace_104 : decode cX1_trace 104 = .ok (.iload 5, 2) := by decide +kernel
theorem dX1_trace_106 : decode cX1_trace 106 = .ok (.ireturn, 1) := by decide +kernel
theorem dX1_chosenFace_0 : decode cX1_chosenFace 0 = .ok (.aload_n 0, 1) := by decide +kernel
theorem dX1_chosenFace_1 : decode cX1_chosenFace 1 = .ok (.getfield 26, 3) := by decide +kernel
theorem dX1_chosenFace_4 : decode cX1_chosenFace 4 = .ok (.iload_n 1, 1) := by decide +kernel
theorem dX1_chosenFace_5 : decode cX1_chosenFace 5 = .ok (.invokevirtual 68, 3) := by decide +kernel
theorem dX1_chosenFace_8 : decode cX1_chosenFace 8 = .ok (.lstore_n 2, 1) := by decide +kernel
theorem dX1_chosenFace_9 : decode cX1_chosenFace 9 = .ok (.lload_n 2, 1) := by decide +kernel
theorem dX1_chosenFace_10 : decode cX1_chosenFace 10 = .ok (.invokestatic 74, 3) := by decide +kernel
theorem dX1_chosenFace_13 : decode cX1_chosenFace 13 = .ok (.istore 4, 2) := by decide +kernel
theorem dX1_chosenFace_15 : decode cX1_chosenFace 15 = .ok (.iconst 0, 1) := by decide +kernel
theorem dX1_chosenFace_16 : decode cX1_chosenFace 16 = .ok (.istore 5, 2) := by decide +kernel
theorem dX1_chosenFace_18 : decode cX1_chosenFace 18 = .ok (.iload 5, 2) := by decide +kernel
theorem dX1_chosenFace_20 : decode cX1_chosenFace 20 = .ok (.iconst 5, 1) := by decide +kernel
theorem dX1_chosenFace_21 : decode cX1_chosenFace 21 = .ok (.if_icmp .ge 61, 3) := by decide +kernel
theorem dX1_chosenFace_24 : decode cX1_chosenFace 24 = .ok (.lload_n 2, 1) := by decide +kernel
theorem dX1_chosenFace_25 : decode cX1_chosenFace 25 = .ok (.lconst 0, 1) := by decide +kernel
theorem dX1_chosenFace_26 : decode cX1_chosenFace 26 = .ok (.lcmp, 1) := by decide +kernel
theorem dX1_chosenFace_27 : decode cX1_chosenFace 27 = .ok (.ifCond .eq 55, 3) := by decide +kernel
theorem dX1_chosenFace_30 : decode cX1_chosenFace 30 = .ok (.lload_n 2, 1) := by decide +kernel
theorem dX1_chosenFace_31 : decode cX1_chosenFace 31 = .ok (.invokestatic 74, 3) := by decide +kernel
theorem dX1_chosenFace_34 : decode cX1_chosenFace 34 = .ok (.istore 4, 2) := by decide +kernel
theorem dX1_chosenFace_36 : decode cX1_chosenFace 36 = .ok (.aload_n 0, 1) := by decide +kernel
theorem dX1_chosenFace_37 : decode cX1_chosenFace 37 = .ok (.getfield 88, 3) := by decide +kernel
theorem dX1_chosenFace_40 : decode cX1_chosenFace 40 = .ok (.aload_n 0, 1) := by decide +kernel
theorem dX1_chosenFace_41 : decode cX1_chosenFace 41 = .ok (.getfield 15, 3) := by decide +kernel
theorem dX1_chosenFace_44 : decode cX1_chosenFace 44 = .ok (.iload 4, 2) := by decide +kernel
theorem dX1_chosenFace_46 : decode cX1_chosenFace 46 = .ok (.laload, 1) := by decide +kernel
theorem dX1_chosenFace_47 : decode cX1_chosenFace 47 = .ok (.lcmp, 1) := by decide +kernel
theorem dX1_chosenFace_48 : decode cX1_chosenFace 48 = .ok (.ifCond .ge 6, 3) := by decide +kernel
theorem dX1_chosenFace_51 : decode cX1_chosenFace 51 = .ok (.iload 4, 2) := by decide +kernel
theorem dX1_chosenFace_53 : decode cX1_chosenFace 53 = .ok (.ireturn, 1) := by decide +kernel
theorem dX1_chosenFace_54 : decode cX1_chosenFace 54 = .ok (.aload_n 0, 1) := by decide +kernel
theorem dX1_chosenFace_55 : decode cX1_chosenFace 55 = .ok (.dup, 1) := by decide +kernel
theorem dX1_chosenFace_56 : decode cX1_chosenFace 56 = .ok (.getfield 88, 3) := by decide +kernel
theorem dX1_chosenFace_59 : decode cX1_chosenFace 59 = .ok (.aload_n 0, 1) := by decide +kernel
theorem dX1_chosenFace_60 : decode cX1_chosenFace 60 = .ok (.getfield 15, 3) := by decide +kernel
theorem dX1_chosenFace_63 : decode cX1_chosenFace 63 = .ok (.iload 4, 2) := by decide +kernel
theorem dX1_chosenFace_65 : decode cX1_chosenFace 65 = .ok (.laload, 1) := by decide +kernel
theorem dX1_chosenFace_66 : decode cX1_chosenFace 66 = .ok (.lsub, 1) := by decide +kernel
theorem dX1_chosenFace_67 : decode cX1_chosenFace 67 = .ok (.putfield 88, 3) := by decide +kernel
theorem dX1_chosenFace_70 : decode cX1_chosenFace 70 = .ok (.lload_n 2, 1) := by decide +kernel
theorem dX1_chosenFace_71 : decode cX1_chosenFace 71 = .ok (.lload_n 2, 1) := by decide +kernel
theorem dX1_chosenFace_72 : decode cX1_chosenFace 72 = .ok (.lconst 1, 1) := by decide +kernel
theorem dX1_chosenFace_73 : decode cX1_chosenFace 73 = .ok (.lsub, 1) := by decide +kernel
theorem dX1_chosenFace_74 : decode cX1_chosenFace 74 = .ok (.land, 1) := by decide +kernel
theorem dX1_chosenFace_75 : decode cX1_chosenFace 75 = .ok (.lstore_n 2, 1) := by decide +kernel
theorem dX1_chosenFace_76 : decode cX1_chosenFace 76 = .ok (.iinc 5 1, 3) := by decide +kernel
theorem dX1_chosenFace_79 : decode cX1_chosenFace 79 = .ok (.goto (-61), 3) := by decide +kernel
theorem dX1_chosenFace_82 : decode cX1_chosenFace 82 = .ok (.iload 4, 2) := by decide +kernel
theorem dX1_chosenFace_84 : decode cX1_chosenFace 84 = .ok (.ireturn, 1) := by decide +kernel
theorem dX2_of_0 : decode cX2_of 0 = .ok (.aload_n 0, 1) := by decide +kernel
theorem dX2_of_1 : decode cX2_of 1 = .ok (.invokevirtual 30, 3) := by decide +kernel
theorem dX2_of_4 : decode cX2_of 4 = .ok (.aload_n 0, 1) := by decide +kernel
theorem dX2_of_5 : decode cX2_of 5 = .ok (.getfield 9, 3) := by decide +kernel
theorem dX2_of_8 : decode cX2_of 8 = .ok (.iload_n 1, 1) := by decide +kernel
theorem dX2_of_9 : decode cX2_of 9 = .ok (.iaload, 1) := by decide +kernel
theorem dX2_of_10 : decode cX2_of 10 = .ok (.ireturn, 1) := by decide +kernel
theorem dX2_upTo_0 : decode cX2_upTo 0 = .ok (.aload_n 0, 1) := by decide +kernel
theorem dX2_upTo_1 : decode cX2_upTo 1 = .ok (.invokevirtual 30, 3) := by decide +kernel
theorem dX2_upTo_4 : decode cX2_upTo 4 = .ok (.lconst 0, 1) := by decide +kernel
theorem dX2_upTo_5 : decode cX2_upTo 5 = .ok (.lstore_n 2, 1) := by decide +kernel
theorem dX2_upTo_6 : decode cX2_upTo 6 = .ok (.iconst 0, 1) := by decide +kernel
theorem dX2_upTo_7 : decode cX2_upTo 7 = .ok (.istore 4, 2) := by decide +kernel
theorem dX2_upTo_9 : decode cX2_upTo 9 = .ok (.iload 4, 2) := by decide +kernel
theorem dX2_upTo_11 : decode cX2_upTo 11 = .ok (.aload_n 0, 1) := by decide +kernel
theorem dX2_upTo_12 : decode cX2_upTo 12 = .ok (.getfield 33, 3) := by decide +kernel
theorem dX2_upTo_15 : decode cX2_upTo 15 = .ok (.if_icmp .ge 38, 3) := by decide +kernel
theorem dX2_upTo_18 : decode cX2_upTo 18 = .ok (.aload_n 0, 1) := by decide +kernel
theorem dX2_upTo_19 : decode cX2_upTo 19 = .ok (.getfield 9, 3) := by decide +kernel
theorem dX2_upTo_22 : decode cX2_upTo 22 = .ok (.aload_n 0, 1) := by decide +kernel
theorem dX2_upTo_23 : decode cX2_upTo 23 = .ok (.getfield 15, 3) := by decide +kernel
theorem dX2_upTo_26 : decode cX2_upTo 26 = .ok (.iload 4, 2) := by decide +kernel
theorem dX2_upTo_28 : decode cX2_upTo 28 = .ok (.iaload, 1) := by decide +kernel
theorem dX2_upTo_29 : decode cX2_upTo 29 = .ok (.iaload, 1) := by decide +kernel
theorem dX2_upTo_30 : decode cX2_upTo 30 = .ok (.iload_n 1, 1) := by decide +kernel
theorem dX2_upTo_31 : decode cX2_upTo 31 = .ok (.if_icmp .gt 16, 3) := by decide +kernel
theorem dX2_upTo_34 : decode cX2_upTo 34 = .ok (.lload_n 2, 1) := by decide +kernel
theorem dX2_upTo_35 : decode cX2_upTo 35 = .ok (.aload_n 0, 1) := by decide +kernel
theorem dX2_upTo_36 : decode cX2_upTo 36 = .ok (.getfield 15, 3) := by decide +kernel
theorem dX2_upTo_39 : decode cX2_upTo 39 = .ok (.iload 4, 2) := by decide +kernel
theorem dX2_upTo_41 : decode cX2_upTo 41 = .ok (.iaload, 1) := by decide +kernel
theorem dX2_upTo_42 : decode cX2_upTo 42 = .ok (.invokestatic 36, 3) := by decide +kernel
theorem dX2_upTo_45 : decode cX2_upTo 45 = .ok (.lor, 1) := by decide +kernel
theorem dX2_upTo_46 : decode cX2_upTo 46 = .ok (.lstore_n 2, 1) := by decide +kernel
theorem dX2_upTo_47 : decode cX2_upTo 47 = .ok (.iinc 4 1, 3) := by decide +kernel
theorem dX2_upTo_50 : decode cX2_upTo 50 = .ok (.goto (-41), 3) := by decide +kernel
theorem dX2_upTo_53 : decode cX2_upTo 53 = .ok (.lload_n 2, 1) := by decide +kernel
theorem dX2_upTo_54 : decode cX2_upTo 54 = .ok (.lreturn, 1) := by decide +kernel
theorem dX2_measure_0 : decode cX2_measure 0 = .ok (.aload_n 0, 1) := by decide +kernel
theorem dX2_measure_1 : decode cX2_measure 1 = .ok (.getfield 26, 3) := by decide +kernel
theorem dX2_measure_4 : decode cX2_measure 4 = .ok (.aload_n 0, 1) := by decide +kernel
theorem dX2_measure_5 : decode cX2_measure 5 = .ok (.getfield 22, 3) := by decide +kernel
theorem dX2_measure_8 : decode cX2_measure 8 = .ok (.getfield 40, 3) := by decide +kernel
theorem dX2_measure_11 : decode cX2_measure 11 = .ok (.if_icmp .ne 4, 3) := by decide +kernel
theorem dX2_measure_14 : decode cX2_measure 14 = .ok (.return_, 1) := by decide +kernel
theorem dX2_measure_15 : decode cX2_measure 15 = .ok (.aload_n 0, 1) := by decide +kernel
theorem dX2_measure_16 : decode cX2_measure 16 = .ok (.aload_n 0, 1) := by decide +kernel
theorem dX2_measure_17 : decode cX2_measure 17 = .ok (.getfield 22, 3) := by decide +kernel
theorem dX2_measure_20 : decode cX2_measure 20 = .ok (.getfield 40, 3) := by decide +kernel
theorem dX2_measure_23 : decode cX2_measure 23 = .ok (.putfield 26, 3) := by decide +kernel
theorem dX2_measure_26 : decode cX2_measure 26 = .ok (.aload_n 0, 1) := by decide +kernel
theorem dX2_measure_27 : decode cX2_measure 27 = .ok (.getfield 9, 3) := by decide +kernel
theorem dX2_measure_30 : decode cX2_measure 30 = .ok (.iconst (-1), 1) := by decide +kernel
theorem dX2_measure_31 : decode cX2_measure 31 = .ok (.invokestatic 45, 3) := by decide +kernel
theorem dX2_measure_34 : decode cX2_measure 34 = .ok (.aload_n 0, 1) := by decide +kernel
theorem dX2_measure_35 : decode cX2_measure 35 = .ok (.iconst 0, 1) := by decide +kernel
theorem dX2_measure_36 : decode cX2_measure 36 = .ok (.putfield 33, 3) := by decide +kernel
theorem dX2_measure_39 : decode cX2_measure 39 = .ok (.aload_n 0, 1) := by decide +kernel
theorem dX2_measure_40 : decode cX2_measure 40 = .ok (.getfield 22, 3) := by decide +kernel
theorem dX2_measure_43 : decode cX2_measure 43 = .ok (.getfield 51, 3) := by decide +kernel
theorem dX2_measure_46 : decode cX2_measure 46 = .ok (.lstore_n 1, 1) := by decide +kernel
theorem dX2_measure_47 : decode cX2_measure 47 = .ok (.iconst 0, 1) := by decide +kernel
theorem dX2_measure_48 : decode cX2_measure 48 = .ok (.istore_n 3, 1) := by decide +kernel
theorem dX2_measure_49 : decode cX2_measure 49 = .ok (.iload_n 3, 1) := by decide +kernel
theorem dX2_measure_50 : decode cX2_measure 50 = .ok (.bipush 64, 2) := by decide +kernel
theorem dX2_measure_52 : decode cX2_measure 52 = .ok (.if_icmp .ge 28, 3) := by decide +kernel
theorem dX2_measure_55 : decode cX2_measure 55 = .ok (.lload_n 1, 1) := by decide +kernel
theorem dX2_measure_56 : decode cX2_measure 56 = .ok (.lconst 0, 1) := by decide +kernel
theorem dX2_measure_57 : decode cX2_measure 57 = .ok (.lcmp, 1) := by decide +kernel
theorem dX2_measure_58 : decode cX2_measure 58 = .ok (.ifCond .eq 22, 3) := by decide +kernel
theorem dX2_measure_61 : decode cX2_measure 61 = .ok (.lload_n 1, 1) := by decide +kernel
theorem dX2_measure_62 : decode cX2_measure 62 = .ok (.aload_n 0, 1) := by decide +kernel
theorem dX2_measure_63 : decode cX2_measure 63 = .ok (.iload_n 3, 1) := by decide +kernel
theorem dX2_measure_64 : decode cX2_measure 64 = .ok (.lload_n 1, 1) := by decide +kernel
theorem dX2_measure_65 : decode cX2_measure 65 = .ok (.invokevirtual 55, 3) := by decide +kernel
theorem dX2_measure_68 : decode cX2_measure 68 = .ok (.ldc2_w 59, 3) := by decide +kernel
theorem dX2_measure_71 : decode cX2_measure 71 = .ok (.lxor, 1) := by decide +kernel
theorem dX2_measure_72 : decode cX2_measure 72 = .ok (.land, 1) := by decide +kernel
theorem dX2_measure_73 : decode cX2_measure 73 = .ok (.lstore_n 1, 1) := by decide +kernel
theorem dX2_measure_74 : decode cX2_measure 74 = .ok (.iinc 3 1, 3) := by decide +kernel
theorem dX2_measure_77 : decode cX2_measure 77 = .ok (.goto (-28), 3) := by decide +kernel
theorem dX2_measure_80 : decode cX2_measure 80 = .ok (.return_, 1) := by decide +kernel
theorem dX2_give_0 : decode cX2_give 0 = .ok (.lconst 0, 1) := by decide +kernel
theorem dX2_give_1 : decode cX2_give 1 = .ok (.lstore 4, 2) := by decide +kernel
theorem dX2_give_3 : decode cX2_give 3 = .ok (.iconst 0, 1) := by decide +kernel
theorem dX2_give_4 : decode cX2_give 4 = .ok (.istore 6, 2) := by decide +kernel
theorem dX2_give_6 : decode cX2_give 6 = .ok (.iload 6, 2) := by decide +kernel
theorem dX2_give_8 : decode cX2_give 8 = .ok (.aload_n 0, 1) := by decide +kernel
theorem dX2_give_9 : decode cX2_give 9 = .ok (.getfield 18, 3) := by decide +kernel
theorem dX2_give_12 : decode cX2_give 12 = .ok (.getfield 61, 3) := by decide +kernel
theorem dX2_give_15 : decode cX2_give 15 = .ok (.if_icmp .ge 82, 3) := by decide +kernel
theorem dX2_give_18 : decode cX2_give 18 = .ok (.aload_n 0, 1) := by decide +kernel
theorem dX2_give_19 : decode cX2_give 19 = .ok (.getfield 33, 3) := by decide +kernel
theorem dX2_give_22 : decode cX2_give 22 = .ok (.bipush 64, 2) := by decide +kernel
theorem dX2_give_24 : decode cX2_give 24 = .ok (.if_icmp .ge 73, 3) := by decide +kernel
theorem dX2_give_27 : decode cX2_give 27 = .ok (.lload_n 2, 1) := by decide +kernel
theorem dX2_give_28 : decode cX2_give 28 = .ok (.iload 6, 2) := by decide +kernel
theorem dX2_give_30 : decode cX2_give 30 = .ok (.invokestatic 66, 3) := by decide +kernel
theorem dX2_give_33 : decode cX2_give 33 = .ok (.ifCond .eq 58, 3) := by decide +kernel
theorem dX2_give_36 : decode cX2_give 36 = .ok (.aload_n 0, 1) := by decide +kernel
theorem dX2_give_37 : decode cX2_give 37 = .ok (.getfield 22, 3) := by decide +kernel
theorem dX2_give_40 : decode cX2_give 40 = .ok (.iload 6, 2) := by decide +kernel
theorem dX2_give_42 : decode cX2_give 42 = .ok (.invokevirtual 70, 3) := by decide +kernel
theorem dX2_give_45 : decode cX2_give 45 = .ok (.lload_n 2, 1) := by decide +kernel
theorem dX2_give_46 : decode cX2_give 46 = .ok (.land, 1) := by decide +kernel
theorem dX2_give_47 : decode cX2_give 47 = .ok (.lconst 0, 1) := by decide +kernel
theorem dX2_give_48 : decode cX2_give 48 = .ok (.lcmp, 1) := by decide +kernel
theorem dX2_give_49 : decode cX2_give 49 = .ok (.ifCond .ne 42, 3) := by decide +kernel
theorem dX2_give_52 : decode cX2_give 52 = .ok (.lload 4, 2) := by decide +kernel
theorem dX2_give_54 : decode cX2_give 54 = .ok (.iload 6, 2) := by decide +kernel
theorem dX2_give_56 : decode cX2_give 56 = .ok (.invokestatic 36, 3) := by decide +kernel
theorem dX2_give_59 : decode cX2_give 59 = .ok (.lor, 1) := by decide +kernel
theorem dX2_give_60 : decode cX2_give 60 = .ok (.lstore 4, 2) := by decide +kernel
theorem dX2_give_62 : decode cX2_give 62 = .ok (.aload_n 0, 1) := by decide +kernel
theorem dX2_give_63 : decode cX2_give 63 = .ok (.getfield 9, 3) := by decide +kernel
theorem dX2_give_66 : decode cX2_give 66 = .ok (.iload 6, 2) := by decide +kernel
theorem dX2_give_68 : decode cX2_give 68 = .ok (.iload_n 1, 1) := by decide +kernel
theorem dX2_give_69 : decode cX2_give 69 = .ok (.iastore, 1) := by decide +kernel
theorem dX2_give_70 : decode cX2_give 70 = .ok (.aload_n 0, 1) := by decide +kernel
theorem dX2_give_71 : decode cX2_give 71 = .ok (.getfield 15, 3) := by decide +kernel
theorem dX2_give_74 : decode cX2_give 74 = .ok (.aload_n 0, 1) := by decide +kernel
theorem dX2_give_75 : decode cX2_give 75 = .ok (.getfield 33, 3) := by decide +kernel
theorem dX2_give_78 : decode cX2_give 78 = .ok (.iload 6, 2) := by decide +kernel
theorem dX2_give_80 : decode cX2_give 80 = .ok (.iastore, 1) := by decide +kernel
theorem dX2_give_81 : decode cX2_give 81 = .ok (.aload_n 0, 1) := by decide +kernel
theorem dX2_give_82 : decode cX2_give 82 = .ok (.dup, 1) := by decide +kernel
theorem dX2_give_83 : decode cX2_give 83 = .ok (.getfield 33, 3) := by decide +kernel
theorem dX2_give_86 : decode cX2_give 86 = .ok (.iconst 1, 1) := by decide +kernel
theorem dX2_give_87 : decode cX2_give 87 = .ok (.iadd, 1) := by decide +kernel
theorem dX2_give_88 : decode cX2_give 88 = .ok (.putfield 33, 3) := by decide +kernel
theorem dX2_give_91 : decode cX2_give 91 = .ok (.iinc 6 1, 3) := by decide +kernel
theorem dX2_give_94 : decode cX2_give 94 = .ok (.goto (-88), 3) := by decide +kernel
theorem dX2_give_97 : decode cX2_give 97 = .ok (.lload 4, 2) := by decide +kernel
theorem dX2_give_99 : decode cX2_give 99 = .ok (.lreturn, 1) := by decide +kernel
theorem dX3_save_0 : decode cX3_save 0 = .ok (.aload_n 1, 1) := by decide +kernel
theorem dX3_save_1 : decode cX3_save 1 = .ok (.getfield 19, 3) := by decide +kernel
theorem dX3_save_4 : decode cX3_save 4 = .ok (.iconst 0, 1) := by decide +kernel
theorem dX3_save_5 : decode cX3_save 5 = .ok (.aload_n 0, 1) := by decide +kernel
theorem dX3_save_6 : decode cX3_save 6 = .ok (.getfield 9, 3) := by decide +kernel
theorem dX3_save_9 : decode cX3_save 9 = .ok (.aload_n 0, 1) := by decide +kernel
theorem dX3_save_10 : decode cX3_save 10 = .ok (.getfield 24, 3) := by decide +kernel
theorem dX3_save_13 : decode cX3_save 13 = .ok (.bipush 64, 2) := by decide +kernel
theorem dX3_save_15 : decode cX3_save 15 = .ok (.imul, 1) := by decide +kernel
theorem dX3_save_16 : decode cX3_save 16 = .ok (.bipush 64, 2) := by decide +kernel
theorem dX3_save_18 : decode cX3_save 18 = .ok (.invokestatic 28, 3) := by decide +kernel
theorem dX3_save_21 : decode cX3_save 21 = .ok (.aload_n 0, 1) := by decide +kernel
theorem dX3_save_22 : decode cX3_save 22 = .ok (.getfield 15, 3) := by decide +kernel
theorem dX3_save_25 : decode cX3_save 25 = .ok (.aload_n 0, 1) := by decide +kernel
theorem dX3_save_26 : decode cX3_save 26 = .ok (.getfield 24, 3) := by decide +kernel
theorem dX3_save_29 : decode cX3_save 29 = .ok (.aload_n 1, 1) := by decide +kernel
theorem dX3_save_30 : decode cX3_save 30 = .ok (.getfield 34, 3) := by decide +kernel
theorem dX3_save_33 : decode cX3_save 33 = .ok (.lastore, 1) := by decide +kernel
theorem dX3_save_34 : decode cX3_save 34 = .ok (.aload_n 0, 1) := by decide +kernel
theorem dX3_save_35 : decode cX3_save 35 = .ok (.aload_n 0, 1) := by decide +kernel
theorem dX3_save_36 : decode cX3_save 36 = .ok (.getfield 24, 3) := by decide +kernel
theorem dX3_save_39 : decode cX3_save 39 = .ok (.iconst 1, 1) := by decide +kernel
theorem dX3_save_40 : decode cX3_save 40 = .ok (.iadd, 1) := by decide +kernel
theorem dX3_save_41 : decode cX3_save 41 = .ok (.bipush 16, 2) := by decide +kernel
theorem dX3_save_43 : decode cX3_save 43 = .ok (.irem, 1) := by decide +kernel
theorem dX3_save_44 : decode cX3_save 44 = .ok (.putfield 24, 3) := by decide +kernel
theorem dX3_save_47 : decode cX3_save 47 = .ok (.aload_n 0, 1) := by decide +kernel
theorem dX3_save_48 : decode cX3_save 48 = .ok (.aload_n 0, 1) := by decide +kernel
theorem dX3_save_49 : decode cX3_save 49 = .ok (.getfield 38, 3) := by decide +kernel
theorem dX3_save_52 : decode cX3_save 52 = .ok (.iconst 1, 1) := by decide +kernel
theorem dX3_save_53 : decode cX3_save 53 = .ok (.iadd, 1) := by decide +kernel
theorem dX3_save_54 : decode cX3_save 54 = .ok (.bipush 16, 2) := by decide +kernel
theorem dX3_save_56 : decode cX3_save 56 = .ok (.invokestatic 41, 3) := by decide +kernel
theorem dX3_save_59 : decode cX3_save 59 = .ok (.putfield 38, 3) := by decide +kernel
theorem dX3_save_62 : decode cX3_save 62 = .ok (.return_, 1) := by decide +kernel
theorem dX3_restore_0 : decode cX3_restore 0 = .ok (.aload_n 0, 1) := by decide +kernel
theorem dX3_restore_1 : decode cX3_restore 1 = .ok (.getfield 38, 3) := by decide +kernel
theorem dX3_restore_4 : decode cX3_restore 4 = .ok (.ifCond .ne 4, 3) := by decide +kernel
theorem dX3_restore_7 : decode cX3_restore 7 = .ok (.return_, 1) := by decide +kernel
theorem dX3_restore_8 : decode cX3_restore 8 = .ok (.aload_n 0, 1) := by decide +kernel
theorem dX3_restore_9 : decode cX3_restore 9 = .ok (.aload_n 0, 1) := by decide +kernel
theorem dX3_restore_10 : decode cX3_restore 10 = .ok (.getfield 24, 3) := by decide +kernel
theorem dX3_restore_13 : decode cX3_restore 13 = .ok (.bipush 16, 2) := by decide +kernel
theorem dX3_restore_15 : decode cX3_restore 15 = .ok (.iadd, 1) := by decide +kernel
theorem dX3_restore_16 : decode cX3_restore 16 = .ok (.iconst 1, 1) := by decide +kernel
theorem dX3_restore_17 : decode cX3_restore 17 = .ok (.isub, 1) := by decide +kernel
theorem dX3_restore_18 : decode cX3_restore 18 = .ok (.bipush 16, 2) := by decide +kernel
theorem dX3_restore_20 : decode cX3_restore 20 = .ok (.irem, 1) := by decide +kernel
theorem dX3_restore_21 : decode cX3_restore 21 = .ok (.putfield 24, 3) := by decide +kernel
theorem dX3_restore_24 : decode cX3_restore 24 = .ok (.aload_n 0, 1) := by decide +kernel
theorem dX3_restore_25 : decode cX3_restore 25 = .ok (.dup, 1) := by decide +kernel
theorem dX3_restore_26 : decode cX3_restore 26 = .ok (.getfield 38, 3) := by decide +kernel
theorem dX3_restore_29 : decode cX3_restore 29 = .ok (.iconst 1, 1) := by decide +kernel
theorem dX3_restore_30 : decode cX3_restore 30 = .ok (.isub, 1) := by decide +kernel
theorem dX3_restore_31 : decode cX3_restore 31 = .ok (.putfield 38, 3) := by decide +kernel
theorem dX3_restore_34 : decode cX3_restore 34 = .ok (.aload_n 1, 1) := by decide +kernel
theorem dX3_restore_35 : decode cX3_restore 35 = .ok (.aload_n 0, 1) := by decide +kernel
theorem dX3_restore_36 : decode cX3_restore 36 = .ok (.getfield 9, 3) := by decide +kernel
theorem dX3_restore_39 : decode cX3_restore 39 = .ok (.aload_n 0, 1) := by decide +kernel
theorem dX3_restore_40 : decode cX3_restore 40 = .ok (.getfield 24, 3) := by decide +kernel
theorem dX3_restore_43 : decode cX3_restore 43 = .ok (.bipush 64, 2) := by decide +kernel
theorem dX3_restore_45 : decode cX3_restore 45 = .ok (.imul, 1) := by decide +kernel
theorem dX3_restore_46 : decode cX3_restore 46 = .ok (.aload_n 0, 1) := by decide +kernel
theorem dX3_restore_47 : decode cX3_restore 47 = .ok (.getfield 15, 3) := by decide +kernel
theorem dX3_restore_50 : decode cX3_restore 50 = .ok (.aload_n 0, 1) := by decide +kernel
theorem dX3_restore_51 : decode cX3_restore 51 = .ok (.getfield 24, 3) := by decide +kernel
theorem dX3_restore_54 : decode cX3_restore 54 = .ok (.laload, 1) := by decide +kernel
theorem dX3_restore_55 : decode cX3_restore 55 = .ok (.invokevirtual 47, 3) := by decide +kernel
theorem dX3_restore_58 : decode cX3_restore 58 = .ok (.return_, 1) := by decide +kernel
theorem dX4_forget_0 : decode cX4_forget 0 = .ok (.aload_n 0, 1) := by decide +kernel
theorem dX4_forget_1 : decode cX4_forget 1 = .ok (.lconst 0, 1) := by decide +kernel
theorem dX4_forget_2 : decode cX4_forget 2 = .ok (.putfield 15, 3) := by decide +kernel
theorem dX4_forget_5 : decode cX4_forget 5 = .ok (.return_, 1) := by decide +kernel
theorem dX4_store_0 : decode cX4_store 0 = .ok (.aload_n 2, 1) := by decide +kernel
theorem dX4_store_1 : decode cX4_store 1 = .ok (.getfield 19, 3) := by decide +kernel
theorem dX4_store_4 : decode cX4_store 4 = .ok (.iconst 0, 1) := by decide +kernel
theorem dX4_store_5 : decode cX4_store 5 = .ok (.aload_n 0, 1) := by decide +kernel
theorem dX4_store_6 : decode cX4_store 6 = .ok (.getfield 9, 3) := by decide +kernel
theorem dX4_store_9 : decode cX4_store 9 = .ok (.iload_n 1, 1) := by decide +kernel
theorem dX4_store_10 : decode cX4_store 10 = .ok (.bipush 64, 2) := by decide +kernel
theorem dX4_store_12 : decode cX4_store 12 = .ok (.imul, 1) := by decide +kernel
theorem dX4_store_13 : decode cX4_store 13 = .ok (.bipush 64, 2) := by decide +kernel
theorem dX4_store_15 : decode cX4_store 15 = .ok (.invokestatic 24, 3) := by decide +kernel
theorem dX4_store_18 : decode cX4_store 18 = .ok (.aload_n 0, 1) := by decide +kernel
theorem dX4_store_19 : decode cX4_store 19 = .ok (.dup, 1) := by decide +kernel
theorem dX4_store_20 : decode cX4_store 20 = .ok (.getfield 15, 3) := by decide +kernel
theorem dX4_store_23 : decode cX4_store 23 = .ok (.iload_n 1, 1) := by decide +kernel
theorem dX4_store_24 : decode cX4_store 24 = .ok (.invokestatic 30, 3) := by decide +kernel
theorem dX4_store_27 : decode cX4_store 27 = .ok (.lor, 1) := by decide +kernel
theorem dX4_store_28 : decode cX4_store 28 = .ok (.putfield 15, 3) := by decide +kernel
theorem dX4_store_31 : decode cX4_store 31 = .ok (.return_, 1) := by decide +kernel
theorem dX4_shared_0 : decode cX4_shared 0 = .ok (.iconst 0, 1) := by decide +kernel
theorem dX4_shared_1 : decode cX4_shared 1 = .ok (.istore_n 3, 1) := by decide +kernel
theorem dX4_shared_2 : decode cX4_shared 2 = .ok (.iconst 0, 1) := by decide +kernel
theorem dX4_shared_3 : decode cX4_shared 3 = .ok (.istore 4, 2) := by decide +kernel
theorem dX4_shared_5 : decode cX4_shared 5 = .ok (.iload 4, 2) := by decide +kernel
theorem dX4_shared_7 : decode cX4_shared 7 = .ok (.bipush 64, 2) := by decide +kernel
theorem dX4_shared_9 : decode cX4_shared 9 = .ok (.if_icmp .ge 46, 3) := by decide +kernel
theorem dX4_shared_12 : decode cX4_shared 12 = .ok (.aload_n 2, 1) := by decide +kernel
theorem dX4_shared_13 : decode cX4_shared 13 = .ok (.getfield 19, 3) := by decide +kernel
theorem dX4_shared_16 : decode cX4_shared 16 = .ok (.iload 4, 2) := by decide +kernel
theorem dX4_shared_18 : decode cX4_shared 18 = .ok (.iaload, 1) := by decide +kernel
theorem dX4_shared_19 : decode cX4_shared 19 = .ok (.iload 4, 2) := by decide +kernel
theorem dX4_shared_21 : decode cX4_shared 21 = .ok (.if_icmp .le 28, 3) := by decide +kernel
theorem dX4_shared_24 : decode cX4_shared 24 = .ok (.aload_n 2, 1) := by decide +kernel
theorem dX4_shared_25 : decode cX4_shared 25 = .ok (.getfield 19, 3) := by decide +kernel
theorem dX4_shared_28 : decode cX4_shared 28 = .ok (.iload 4, 2) := by decide +kernel
theorem dX4_shared_30 : decode cX4_shared 30 = .ok (.iaload, 1) := by decide +kernel
theorem dX4_shared_31 : decode cX4_shared 31 = .ok (.aload_n 0, 1) := by decide +kernel
theorem dX4_shared_32 : decode cX4_shared 32 = .ok (.getfield 9, 3) := by decide +kernel
theorem dX4_shared_35 : decode cX4_shared 35 = .ok (.iload_n 1, 1) := by decide +kernel
theorem dX4_shared_36 : decode cX4_shared 36 = .ok (.bipush 64, 2) := by decide +kernel
theorem dX4_shared_38 : decode cX4_shared 38 = .ok (.imul, 1) := by decide +kernel
theorem dX4_shared_39 : decode cX4_shared 39 = .ok (.iload 4, 2) := by decide +kernel
theorem dX4_shared_41 : decode cX4_shared 41 = .ok (.iadd, 1) := by decide +kernel
theorem dX4_shared_42 : decode cX4_shared 42 = .ok (.iaload, 1) := by decide +kernel
theorem dX4_shared_43 : decode cX4_shared 43 = .ok (.if_icmp .ne 6, 3) := by decide +kernel
theorem dX4_shared_46 : decode cX4_shared 46 = .ok (.iinc 3 1, 3) := by decide +kernel
theorem dX4_shared_49 : decode cX4_shared 49 = .ok (.iinc 4 1, 3) := by decide +kernel
theorem dX4_shared_52 : decode cX4_shared 52 = .ok (.goto (-47), 3) := by decide +kernel
theorem dX4_shared_55 : decode cX4_shared 55 = .ok (.iload_n 3, 1) := by decide +kernel
theorem dX4_shared_56 : decode cX4_shared 56 = .ok (.ireturn, 1) := by decide +kernel
theorem dX5_resize_0 : decode cX5_resize 0 = .ok (.iload_n 1, 1) := by decide +kernel
theorem dX5_resize_1 : decode cX5_resize 1 = .ok (.ifCond .lt 32, 3) := by decide +kernel
theorem dX5_resize_4 : decode cX5_resize 4 = .ok (.iload_n 2, 1) := by decide +kernel
theorem dX5_resize_5 : decode cX5_resize 5 = .ok (.ifCond .lt 28, 3) := by decide +kernel
theorem dX5_resize_8 : decode cX5_resize 8 = .ok (.iload_n 1, 1) := by decide +kernel
theorem dX5_resize_9 : decode cX5_resize 9 = .ok (.bipush 64, 2) := by decide +kernel
theorem dX5_resize_11 : decode cX5_resize 11 = .ok (.if_icmp .ge 22, 3) := by decide +kernel
theorem dX5_resize_14 : decode cX5_resize 14 = .ok (.iload_n 2, 1) := by decide +kernel
theorem dX5_resize_15 : decode cX5_resize 15 = .ok (.bipush 64, 2) := by decide +kernel
theorem dX5_resize_17 : decode cX5_resize 17 = .ok (.if_icmp .ge 16, 3) := by decide +kernel
theorem dX5_resize_20 : decode cX5_resize 20 = .ok (.iload_n 1, 1) := by decide +kernel
theorem dX5_resize_21 : decode cX5_resize 21 = .ok (.iload_n 2, 1) := by decide +kernel
theorem dX5_resize_22 : decode cX5_resize 22 = .ok (.imul, 1) := by decide +kernel
theorem dX5_resize_23 : decode cX5_resize 23 = .ok (.sipush 900, 3) := by decide +kernel
theorem dX5_resize_26 : decode cX5_resize 26 = .ok (.if_icmp .gt 7, 3) := by decide +kernel
theorem dX5_resize_29 : decode cX5_resize 29 = .ok (.iconst 1, 1) := by decide +kernel
theorem dX5_resize_30 : decode cX5_resize 30 = .ok (.goto 4, 3) := by decide +kernel
theorem dX5_resize_33 : decode cX5_resize 33 = .ok (.iconst 0, 1) := by decide +kernel
theorem dX5_resize_34 : decode cX5_resize 34 = .ok (.istore_n 3, 1) := by decide +kernel
theorem dX5_resize_35 : decode cX5_resize 35 = .ok (.aload_n 0, 1) := by decide +kernel
theorem dX5_resize_36 : decode cX5_resize 36 = .ok (.iload_n 3, 1) := by decide +kernel
theorem dX5_resize_37 : decode cX5_resize 37 = .ok (.ifCond .eq 7, 3) := by decide +kernel
theorem dX5_resize_40 : decode cX5_resize 40 = .ok (.iload_n 1, 1) := by decide +kernel
theorem dX5_resize_41 : decode cX5_resize 41 = .ok (.goto 4, 3) := by decide +kernel
theorem dX5_resize_44 : decode cX5_resize 44 = .ok (.iconst 0, 1) := by decide +kernel
theorem dX5_resize_45 : decode cX5_resize 45 = .ok (.putfield 21, 3) := by decide +kernel
theorem dX5_resize_48 : decode cX5_resize 48 = .ok (.aload_n 0, 1) := by decide +kernel
theorem dX5_resize_49 : decode cX5_resize 49 = .ok (.iload_n 3, 1) := by decide +kernel
theorem dX5_resize_50 : decode cX5_resize 50 = .ok (.ifCond .eq 7, 3) := by decide +kernel
theorem dX5_resize_53 : decode cX5_resize 53 = .ok (.iload_n 2, 1) := by decide +kernel
theorem dX5_resize_54 : decode cX5_resize 54 = .ok (.goto 4, 3) := by decide +kernel
theorem dX5_resize_57 : decode cX5_resize 57 = .ok (.iconst 0, 1) := by decide +kernel
theorem dX5_resize_58 : decode cX5_resize 58 = .ok (.putfield 25, 3) := by decide +kernel
theorem dX5_resize_61 : decode cX5_resize 61 = .ok (.return_, 1) := by decide +kernel
theorem dX5_put_0 : decode cX5_put 0 = .ok (.iload_n 1, 1) := by decide +kernel
theorem dX5_put_1 : decode cX5_put 1 = .ok (.ifCond .lt 37, 3) := by decide +kernel
theorem dX5_put_4 : decode cX5_put 4 = .ok (.iload_n 1, 1) := by decide +kernel
theorem dX5_put_5 : decode cX5_put 5 = .ok (.aload_n 0, 1) := by decide +kernel
theorem dX5_put_6 : decode cX5_put 6 = .ok (.getfield 21, 3) := by decide +kernel
theorem dX5_put_9 : decode cX5_put 9 = .ok (.if_icmp .ge 29, 3) := by decide +kernel
theorem dX5_put_12 : decode cX5_put 12 = .ok (.iload_n 2, 1) := by decide +kernel
theorem dX5_put_13 : decode cX5_put 13 = .ok (.ifCond .lt 25, 3) := by decide +kernel
theorem dX5_put_16 : decode cX5_put 16 = .ok (.iload_n 2, 1) := by decide +kernel
theorem dX5_put_17 : decode cX5_put 17 = .ok (.aload_n 0, 1) := by decide +kernel
theorem dX5_put_18 : decode cX5_put 18 = .ok (.getfield 25, 3) := by decide +kernel
theorem dX5_put_21 : decode cX5_put 21 = .ok (.if_icmp .ge 17, 3) := by decide +kernel
theorem dX5_put_24 : decode cX5_put 24 = .ok (.aload_n 0, 1) := by decide +kernel
theorem dX5_put_25 : decode cX5_put 25 = .ok (.getfield 9, 3) := by decide +kernel
theorem dX5_put_28 : decode cX5_put 28 = .ok (.iload_n 1, 1) := by decide +kernel
theorem dX5_put_29 : decode cX5_put 29 = .ok (.aload_n 0, 1) := by decide +kernel
theorem dX5_put_30 : decode cX5_put 30 = .ok (.getfield 25, 3) := by decide +kernel
theorem dX5_put_33 : decode cX5_put 33 = .ok (.imul, 1) := by decide +kernel
theorem dX5_put_34 : decode cX5_put 34 = .ok (.iload_n 2, 1) := by decide +kernel
theorem dX5_put_35 : decode cX5_put 35 = .ok (.iadd, 1) := by decide +kernel
theorem dX5_put_36 : decode cX5_put 36 = .ok (.lload_n 3, 1) := by decide +kernel
theorem dX5_put_37 : decode cX5_put 37 = .ok (.lastore, 1) := by decide +kernel
theorem dX5_put_38 : decode cX5_put 38 = .ok (.return_, 1) := by decide +kernel
theorem dX5_eliminate_0 : decode cX5_eliminate 0 = .ok (.aload_n 0, 1) := by decide +kernel
theorem dX5_eliminate_1 : decode cX5_eliminate 1 = .ok (.getfield 9, 3) := by decide +kernel
theorem dX5_eliminate_4 : decode cX5_eliminate 4 = .ok (.iconst 0, 1) := by decide +kernel
theorem dX5_eliminate_5 : decode cX5_eliminate 5 = .ok (.aload_n 0, 1) := by decide +kernel
theorem dX5_eliminate_6 : decode cX5_eliminate 6 = .ok (.getfield 15, 3) := by decide +kernel
theorem dX5_eliminate_9 : decode cX5_eliminate 9 = .ok (.iconst 0, 1) := by decide +kernel
theorem dX5_eliminate_10 : decode cX5_eliminate 10 = .ok (.aload_n 0, 1) := by decide +kernel
theorem dX5_eliminate_11 : decode cX5_eliminate 11 = .ok (.getfield 21, 3) := by decide +kernel
theorem dX5_eliminate_14 : decode cX5_eliminate 14 = .ok (.aload_n 0, 1) := by decide +kernel
theorem dX5_eliminate_15 : decode cX5_eliminate 15 = .ok (.getfield 25, 3) := by decide +kernel
theorem dX5_eliminate_18 : decode cX5_eliminate 18 = .ok (.imul, 1) := by decide +kernel
theorem dX5_eliminate_19 : decode cX5_eliminate 19 = .ok (.invokestatic 28, 3) := by decide +kernel
theorem dX5_eliminate_22 : decode cX5_eliminate 22 = .ok (.iconst 0, 1) := by decide +kernel
theorem dX5_eliminate_23 : decode cX5_eliminate 23 = .ok (.istore_n 1, 1) := by decide +kernel
theorem dX5_eliminate_24 : decode cX5_eliminate 24 = .ok (.lconst 1, 1) := by decide +kernel
theorem dX5_eliminate_25 : decode cX5_eliminate 25 = .ok (.lstore_n 2, 1) := by decide +kernel
theorem dX5_eliminate_26 : decode cX5_eliminate 26 = .ok (.iconst 0, 1) := by decide +kernel
theorem dX5_eliminate_27 : decode cX5_eliminate 27 = .ok (.istore 4, 2) := by decide +kernel
theorem dX5_eliminate_29 : decode cX5_eliminate 29 = .ok (.iload 4, 2) := by decide +kernel
theorem dX5_eliminate_31 : decode cX5_eliminate 31 = .ok (.aload_n 0, 1) := by decide +kernel
theorem dX5_eliminate_32 : decode cX5_eliminate 32 = .ok (.getfield 25, 3) := by decide +kernel
theorem dX5_eliminate_35 : decode cX5_eliminate 35 = .ok (.if_icmp .ge 76, 3) := by decide +kernel
theorem dX5_eliminate_38 : decode cX5_eliminate 38 = .ok (.iload_n 1, 1) := by decide +kernel
theorem dX5_eliminate_39 : decode cX5_eliminate 39 = .ok (.aload_n 0, 1) := by decide +kernel
theorem dX5_eliminate_40 : decode cX5_eliminate 40 = .ok (.getfield 21, 3) := by decide +kernel
theorem dX5_eliminate_43 : decode cX5_eliminate 43 = .ok (.if_icmp .ge 68, 3) := by decide +kernel
theorem dX5_eliminate_46 : decode cX5_eliminate 46 = .ok (.aload_n 0, 1) := by decide +kernel
theorem dX5_eliminate_47 : decode cX5_eliminate 47 = .ok (.iload_n 1, 1) := by decide +kernel
theorem dX5_eliminate_48 : decode cX5_eliminate 48 = .ok (.iload 4, 2) := by decide +kernel
theorem dX5_eliminate_50 : decode cX5_eliminate 50 = .ok (.invokevirtual 34, 3) := by decide +kernel
theorem dX5_eliminate_53 : decode cX5_eliminate 53 = .ok (.istore 5, 2) := by decide +kernel
theorem dX5_eliminate_55 : decode cX5_eliminate 55 = .ok (.iload 5, 2) := by decide +kernel
theorem dX5_eliminate_57 : decode cX5_eliminate 57 = .ok (.iconst (-1), 1) := by decide +kernel
theorem dX5_eliminate_58 : decode cX5_eliminate 58 = .ok (.if_icmp .eq 47, 3) := by decide +kernel
theorem dX5_eliminate_61 : decode cX5_eliminate 61 = .ok (.aload_n 0, 1) := by decide +kernel
theorem dX5_eliminate_62 : decode cX5_eliminate 62 = .ok (.aload_n 0, 1) := by decide +kernel
theorem dX5_eliminate_63 : decode cX5_eliminate 63 = .ok (.getfield 15, 3) := by decide +kernel
theorem dX5_eliminate_66 : decode cX5_eliminate 66 = .ok (.iload_n 1, 1) := by decide +kernel
theorem dX5_eliminate_67 : decode cX5_eliminate 67 = .ok (.iload 5, 2) := by decide +kernel
theorem dX5_eliminate_69 : decode cX5_eliminate 69 = .ok (.invokevirtual 38, 3) := by decide +kernel
theorem dX5_eliminate_72 : decode cX5_eliminate 72 = .ok (.aload_n 0, 1) := by decide +kernel
theorem dX5_eliminate_73 : decode cX5_eliminate 73 = .ok (.iload_n 1, 1) := by decide +kernel
theorem dX5_eliminate_74 : decode cX5_eliminate 74 = .ok (.iload 4, 2) := by decide +kernel
theorem dX5_eliminate_76 : decode cX5_eliminate 76 = .ok (.invokevirtual 42, 3) := by decide +kernel
theorem dX5_eliminate_79 : decode cX5_eliminate 79 = .ok (.aload_n 0, 1) := by decide +kernel
theorem dX5_eliminate_80 : decode cX5_eliminate 80 = .ok (.iload_n 1, 1) := by decide +kernel
theorem dX5_eliminate_81 : decode cX5_eliminate 81 = .ok (.iload 4, 2) := by decide +kernel
theorem dX5_eliminate_83 : decode cX5_eliminate 83 = .ok (.lload_n 2, 1) := by decide +kernel
theorem dX5_eliminate_84 : decode cX5_eliminate 84 = .ok (.invokevirtual 46, 3) := by decide +kernel
theorem dX5_eliminate_87 : decode cX5_eliminate 87 = .ok (.aload_n 0, 1) := by decide +kernel
theorem dX5_eliminate_88 : decode cX5_eliminate 88 = .ok (.getfield 15, 3) := by decide +kernel
theorem dX5_eliminate_91 : decode cX5_eliminate 91 = .ok (.iload_n 1, 1) := by decide +kernel
theorem dX5_eliminate_92 : decode cX5_eliminate 92 = .ok (.aload_n 0, 1) := by decide +kernel
theorem dX5_eliminate_93 : decode cX5_eliminate 93 = .ok (.getfield 25, 3) := by decide +kernel
theorem dX5_eliminate_96 : decode cX5_eliminate 96 = .ok (.imul, 1) := by decide +kernel
theorem dX5_eliminate_97 : decode cX5_eliminate 97 = .ok (.iload 4, 2) := by decide +kernel
theorem dX5_eliminate_99 : decode cX5_eliminate 99 = .ok (.iadd, 1) := by decide +kernel
theorem dX5_eliminate_100 : decode cX5_eliminate 100 = .ok (.laload, 1) := by decide +kernel
theorem dX5_eliminate_101 : decode cX5_eliminate 101 = .ok (.lstore_n 2, 1) := by decide +kernel
theorem dX5_eliminate_102 : decode cX5_eliminate 102 = .ok (.iinc 1 1, 3) := by decide +kernel
theorem dX5_eliminate_105 : decode cX5_eliminate 105 = .ok (.iinc 4 1, 3) := by decide +kernel
theorem dX5_eliminate_108 : decode cX5_eliminate 108 = .ok (.goto (-79), 3) := by decide +kernel
theorem dX5_eliminate_111 : decode cX5_eliminate 111 = .ok (.aload_n 0, 1) := by decide +kernel
theorem dX5_eliminate_112 : decode cX5_eliminate 112 = .ok (.lload_n 2, 1) := by decide +kernel
theorem dX5_eliminate_113 : decode cX5_eliminate 113 = .ok (.putfield 50, 3) := by decide +kernel
theorem dX5_eliminate_116 : decode cX5_eliminate 116 = .ok (.iload_n 1, 1) := by decide +kernel
theorem dX5_eliminate_117 : decode cX5_eliminate 117 = .ok (.ireturn, 1) := by decide +kernel
theorem dX5_firstRow_0 : decode cX5_firstRow 0 = .ok (.iload_n 1, 1) := by decide +kernel
theorem dX5_firstRow_1 : decode cX5_firstRow 1 = .ok (.istore_n 3, 1) := by decide +kernel
theorem dX5_firstRow_2 : decode cX5_firstRow 2 = .ok (.iload_n 3, 1) := by decide +kernel
theorem dX5_firstRow_3 : decode cX5_firstRow 3 = .ok (.aload_n 0, 1) := by decide +kernel
theorem dX5_firstRow_4 : decode cX5_firstRow 4 = .ok (.getfield 21, 3) := by decide +kernel
theorem dX5_firstRow_7 : decode cX5_firstRow 7 = .ok (.if_icmp .ge 29, 3) := by decide +kernel
theorem dX5_firstRow_10 : decode cX5_firstRow 10 = .ok (.aload_n 0, 1) := by decide +kernel
theorem dX5_firstRow_11 : decode cX5_firstRow 11 = .ok (.getfield 15, 3) := by decide +kernel
theorem dX5_firstRow_14 : decode cX5_firstRow 14 = .ok (.iload_n 3, 1) := by decide +kernel
theorem dX5_firstRow_15 : decode cX5_firstRow 15 = .ok (.aload_n 0, 1) := by decide +kernel
theorem dX5_firstRow_16 : decode cX5_firstRow 16 = .ok (.getfield 25, 3) := by decide +kernel
theorem dX5_firstRow_19 : decode cX5_firstRow 19 = .ok (.imul, 1) := by decide +kernel
theorem dX5_firstRow_20 : decode cX5_firstRow 20 = .ok (.iload_n 2, 1) := by decide +kernel
theorem dX5_firstRow_21 : decode cX5_firstRow 21 = .ok (.iadd, 1) := by decide +kernel
theorem dX5_firstRow_22 : decode cX5_firstRow 22 = .ok (.laload, 1) := by decide +kernel
theorem dX5_firstRow_23 : decode cX5_firstRow 23 = .ok (.lconst 0, 1) := by decide +kernel
theorem dX5_firstRow_24 : decode cX5_firstRow 24 = .ok (.lcmp, 1) := by decide +kernel
theorem dX5_firstRow_25 : decode cX5_firstRow 25 = .ok (.ifCond .eq 5, 3) := by decide +kernel
theorem dX5_firstRow_28 : decode cX5_firstRow 28 = .ok (.iload_n 3, 1) := by decide +kernel
theorem dX5_firstRow_29 : decode cX5_firstRow 29 = .ok (.ireturn, 1) := by decide +kernel
theorem dX5_firstRow_30 : decode cX5_firstRow 30 = .ok (.iinc 3 1, 3) := by decide +kernel
theorem dX5_firstRow_33 : decode cX5_firstRow 33 = .ok (.goto (-31), 3) := by decide +kernel
theorem dX5_firstRow_36 : decode cX5_firstRow 36 = .ok (.iconst (-1), 1) := by decide +kernel
theorem dX5_firstRow_37 : decode cX5_firstRow 37 = .ok (.ireturn, 1) := by decide +kernel
theorem dX5_clearBelow_0 : decode cX5_clearBelow 0 = .ok (.aload_n 0, 1) := by decide +kernel
theorem dX5_clearBelow_1 : decode cX5_clearBelow 1 = .ok (.getfield 15, 3) := by decide +kernel
theorem dX5_clearBelow_4 : decode cX5_clearBelow 4 = .ok (.iload_n 1, 1) := by decide +kernel
theorem dX5_clearBelow_5 : decode cX5_clearBelow 5 = .ok (.aload_n 0, 1) := by decide +kernel
theorem dX5_clearBelow_6 : decode cX5_clearBelow 6 = .ok (.getfield 25, 3) := by decide +kernel
theorem dX5_clearBelow_9 : decode cX5_clearBelow 9 = .ok (.imul, 1) := by decide +kernel
theorem dX5_clearBelow_10 : decode cX5_clearBelow 10 = .ok (.iload_n 2, 1) := by decide +kernel
theorem dX5_clearBelow_11 : decode cX5_clearBelow 11 = .ok (.iadd, 1) := by decide +kernel
theorem dX5_clearBelow_12 : decode cX5_clearBelow 12 = .ok (.laload, 1) := by decide +kernel
theorem dX5_clearBelow_13 : decode cX5_clearBelow 13 = .ok (.lstore 5, 2) := by decide +kernel
theorem dX5_clearBelow_15 : decode cX5_clearBelow 15 = .ok (.lload_n 3, 1) := by decide +kernel
theorem dX5_clearBelow_16 : decode cX5_clearBelow 16 = .ok (.lconst 0, 1) := by decide +kernel
theorem dX5_clearBelow_17 : decode cX5_clearBelow 17 = .ok (.lcmp, 1) := by decide +kernel
theorem dX5_clearBelow_18 : decode cX5_clearBelow 18 = .ok (.ifCond .ne 4, 3) := by decide +kernel
theorem dX5_clearBelow_21 : decode cX5_clearBelow 21 = .ok (.return_, 1) := by decide +kernel
theorem dX5_clearBelow_22 : decode cX5_clearBelow 22 = .ok (.iload_n 1, 1) := by decide +kernel
theorem dX5_clearBelow_23 : decode cX5_clearBelow 23 = .ok (.iconst 1, 1) := by decide +kernel
theorem dX5_clearBelow_24 : decode cX5_clearBelow 24 = .ok (.iadd, 1) := by decide +kernel
theorem dX5_clearBelow_25 : decode cX5_clearBelow 25 = .ok (.istore 7, 2) := by decide +kernel
theorem dX5_clearBelow_27 : decode cX5_clearBelow 27 = .ok (.iload 7, 2) := by decide +kernel
theorem dX5_clearBelow_29 : decode cX5_clearBelow 29 = .ok (.aload_n 0, 1) := by decide +kernel
theorem dX5_clearBelow_30 : decode cX5_clearBelow 30 = .ok (.getfield 21, 3) := by decide +kernel
theorem dX5_clearBelow_33 : decode cX5_clearBelow 33 = .ok (.if_icmp .ge 118, 3) := by decide +kernel
theorem dX5_clearBelow_36 : decode cX5_clearBelow 36 = .ok (.aload_n 0, 1) := by decide +kernel
theorem dX5_clearBelow_37 : decode cX5_clearBelow 37 = .ok (.getfield 15, 3) := by decide +kernel
theorem dX5_clearBelow_40 : decode cX5_clearBelow 40 = .ok (.iload 7, 2) := by decide +kernel
theorem dX5_clearBelow_42 : decode cX5_clearBelow 42 = .ok (.aload_n 0, 1) := by decide +kernel
theorem dX5_clearBelow_43 : decode cX5_clearBelow 43 = .ok (.getfield 25, 3) := by decide +kernel
theorem dX5_clearBelow_46 : decode cX5_clearBelow 46 = .ok (.imul, 1) := by decide +kernel
theorem dX5_clearBelow_47 : decode cX5_clearBelow 47 = .ok (.iload_n 2, 1) := by decide +kernel
theorem dX5_clearBelow_48 : decode cX5_clearBelow 48 = .ok (.iadd, 1) := by decide +kernel
theorem dX5_clearBelow_49 : decode cX5_clearBelow 49 = .ok (.laload, 1) := by decide +kernel
theorem dX5_clearBelow_50 : decode cX5_clearBelow 50 = .ok (.lstore 8, 2) := by decide +kernel
theorem dX5_clearBelow_52 : decode cX5_clearBelow 52 = .ok (.lload 8, 2) := by decide +kernel
theorem dX5_clearBelow_54 : decode cX5_clearBelow 54 = .ok (.lconst 0, 1) := by decide +kernel
theorem dX5_clearBelow_55 : decode cX5_clearBelow 55 = .ok (.lcmp, 1) := by decide +kernel
theorem dX5_clearBelow_56 : decode cX5_clearBelow 56 = .ok (.ifCond .ne 10, 3) := by decide +kernel
theorem dX5_clearBelow_59 : decode cX5_clearBelow 59 = .ok (.lload 5, 2) := by decide +kernel
theorem dX5_clearBelow_61 : decode cX5_clearBelow 61 = .ok (.lload_n 3, 1) := by decide +kernel
theorem dX5_clearBelow_62 : decode cX5_clearBelow 62 = .ok (.lcmp, 1) := by decide +kernel
theorem dX5_clearBelow_63 : decode cX5_clearBelow 63 = .ok (.ifCond .eq 7, 3) := by decide +kernel
theorem dX5_clearBelow_66 : decode cX5_clearBelow 66 = .ok (.iconst 1, 1) := by decide +kernel
theorem dX5_clearBelow_67 : decode cX5_clearBelow 67 = .ok (.goto 4, 3) := by decide +kernel
theorem dX5_clearBelow_70 : decode cX5_clearBelow 70 = .ok (.iconst 0, 1) := by decide +kernel
theorem dX5_clearBelow_71 : decode cX5_clearBelow 71 = .ok (.istore 10, 2) := by decide +kernel
theorem dX5_clearBelow_73 : decode cX5_clearBelow 73 = .ok (.iload_n 2, 1) := by decide +kernel
theorem dX5_clearBelow_74 : decode cX5_clearBelow 74 = .ok (.istore 11, 2) := by decide +kernel
theorem dX5_clearBelow_76 : decode cX5_clearBelow 76 = .ok (.iload 11, 2) := by decide +kernel
theorem dX5_clearBelow_78 : decode cX5_clearBelow 78 = .ok (.aload_n 0, 1) := by decide +kernel
theorem dX5_clearBelow_79 : decode cX5_clearBelow 79 = .ok (.getfield 25, 3) := by decide +kernel
theorem dX5_clearBelow_82 : decode cX5_clearBelow 82 = .ok (.if_icmp .ge 63, 3) := by decide +kernel
theorem dX5_clearBelow_85 : decode cX5_clearBelow 85 = .ok (.iload 10, 2) := by decide +kernel
theorem dX5_clearBelow_87 : decode cX5_clearBelow 87 = .ok (.ifCond .eq 58, 3) := by decide +kernel
theorem dX5_clearBelow_90 : decode cX5_clearBelow 90 = .ok (.iload 7, 2) := by decide +kernel
theorem dX5_clearBelow_92 : decode cX5_clearBelow 92 = .ok (.aload_n 0, 1) := by decide +kernel
theorem dX5_clearBelow_93 : decode cX5_clearBelow 93 = .ok (.getfield 25, 3) := by decide +kernel
theorem dX5_clearBelow_96 : decode cX5_clearBelow 96 = .ok (.imul, 1) := by decide +kernel
theorem dX5_clearBelow_97 : decode cX5_clearBelow 97 = .ok (.iload 11, 2) := by decide +kernel
theorem dX5_clearBelow_99 : decode cX5_clearBelow 99 = .ok (.iadd, 1) := by decide +kernel
theorem dX5_clearBelow_100 : decode cX5_clearBelow 100 = .ok (.istore 12, 2) := by decide +kernel
theorem dX5_clearBelow_102 : decode cX5_clearBelow 102 = .ok (.aload_n 0, 1) := by decide +kernel
theorem dX5_clearBelow_103 : decode cX5_clearBelow 103 = .ok (.getfield 15, 3) := by decide +kernel
theorem dX5_clearBelow_106 : decode cX5_clearBelow 106 = .ok (.iload 12, 2) := by decide +kernel
theorem dX5_clearBelow_108 : decode cX5_clearBelow 108 = .ok (.aload_n 0, 1) := by decide +kernel
theorem dX5_clearBelow_109 : decode cX5_clearBelow 109 = .ok (.getfield 15, 3) := by decide +kernel
theorem dX5_clearBelow_112 : decode cX5_clearBelow 112 = .ok (.iload 12, 2) := by decide +kernel
theorem dX5_clearBelow_114 : decode cX5_clearBelow 114 = .ok (.laload, 1) := by decide +kernel
theorem dX5_clearBelow_115 : decode cX5_clearBelow 115 = .ok (.lload 5, 2) := by decide +kernel
theorem dX5_clearBelow_117 : decode cX5_clearBelow 117 = .ok (.lmul, 1) := by decide +kernel
theorem dX5_clearBelow_118 : decode cX5_clearBelow 118 = .ok (.lload 8, 2) := by decide +kernel
theorem dX5_clearBelow_120 : decode cX5_clearBelow 120 = .ok (.aload_n 0, 1) := by decide +kernel
theorem dX5_clearBelow_121 : decode cX5_clearBelow 121 = .ok (.getfield 15, 3) := by decide +kernel
theorem dX5_clearBelow_124 : decode cX5_clearBelow 124 = .ok (.iload_n 1, 1) := by decide +kernel
theorem dX5_clearBelow_125 : decode cX5_clearBelow 125 = .ok (.aload_n 0, 1) := by decide +kernel
theorem dX5_clearBelow_126 : decode cX5_clearBelow 126 = .ok (.getfield 25, 3) := by decide +kernel
theorem dX5_clearBelow_129 : decode cX5_clearBelow 129 = .ok (.imul, 1) := by decide +kernel
theorem dX5_clearBelow_130 : decode cX5_clearBelow 130 = .ok (.iload 11, 2) := by decide +kernel
theorem dX5_clearBelow_132 : decode cX5_clearBelow 132 = .ok (.iadd, 1) := by decide +kernel
theorem dX5_clearBelow_133 : decode cX5_clearBelow 133 = .ok (.laload, 1) := by decide +kernel
theorem dX5_clearBelow_134 : decode cX5_clearBelow 134 = .ok (.lmul, 1) := by decide +kernel
theorem dX5_clearBelow_135 : decode cX5_clearBelow 135 = .ok (.lsub, 1) := by decide +kernel
theorem dX5_clearBelow_136 : decode cX5_clearBelow 136 = .ok (.lload_n 3, 1) := by decide +kernel
theorem dX5_clearBelow_137 : decode cX5_clearBelow 137 = .ok (.ldiv, 1) := by decide +kernel
theorem dX5_clearBelow_138 : decode cX5_clearBelow 138 = .ok (.lastore, 1) := by decide +kernel
theorem dX5_clearBelow_139 : decode cX5_clearBelow 139 = .ok (.iinc 11 1, 3) := by decide +kernel
theorem dX5_clearBelow_142 : decode cX5_clearBelow 142 = .ok (.goto (-66), 3) := by decide +kernel
theorem dX5_clearBelow_145 : decode cX5_clearBelow 145 = .ok (.iinc 7 1, 3) := by decide +kernel
theorem dX5_clearBelow_148 : decode cX5_clearBelow 148 = .ok (.goto (-121), 3) := by decide +kernel
theorem dX5_clearBelow_151 : decode cX5_clearBelow 151 = .ok (.return_, 1) := by decide +kernel
theorem dX5_makePositive_0 : decode cX5_makePositive 0 = .ok (.aload_n 0, 1) := by decide +kernel
theorem dX5_makePositive_1 : decode cX5_makePositive 1 = .ok (.getfield 15, 3) := by decide +kernel
theorem dX5_makePositive_4 : decode cX5_makePositive 4 = .ok (.iload_n 1, 1) := by decide +kernel
theorem dX5_makePositive_5 : decode cX5_makePositive 5 = .ok (.aload_n 0, 1) := by decide +kernel
theorem dX5_makePositive_6 : decode cX5_makePositive 6 = .ok (.getfield 25, 3) := by decide +kernel
theorem dX5_makePositive_9 : decode cX5_makePositive 9 = .ok (.imul, 1) := by decide +kernel
theorem dX5_makePositive_10 : decode cX5_makePositive 10 = .ok (.iload_n 2, 1) := by decide +kernel
theorem dX5_makePositive_11 : decode cX5_makePositive 11 = .ok (.iadd, 1) := by decide +kernel
theorem dX5_makePositive_12 : decode cX5_makePositive 12 = .ok (.laload, 1) := by decide +kernel
theorem dX5_makePositive_13 : decode cX5_makePositive 13 = .ok (.lconst 0, 1) := by decide +kernel
theorem dX5_makePositive_14 : decode cX5_makePositive 14 = .ok (.lcmp, 1) := by decide +kernel
theorem dX5_makePositive_15 : decode cX5_makePositive 15 = .ok (.ifCond .le 4, 3) := by decide +kernel
theorem dX5_makePositive_18 : decode cX5_makePositive 18 = .ok (.return_, 1) := by decide +kernel
theorem dX5_makePositive_19 : decode cX5_makePositive 19 = .ok (.iload_n 2, 1) := by decide +kernel
theorem dX5_makePositive_20 : decode cX5_makePositive 20 = .ok (.istore_n 3, 1) := by decide +kernel
theorem dX5_makePositive_21 : decode cX5_makePositive 21 = .ok (.iload_n 3, 1) := by decide +kernel
theorem dX5_makePositive_22 : decode cX5_makePositive 22 = .ok (.aload_n 0, 1) := by decide +kernel
theorem dX5_makePositive_23 : decode cX5_makePositive 23 = .ok (.getfield 25, 3) := by decide +kernel
theorem dX5_makePositive_26 : decode cX5_makePositive 26 = .ok (.if_icmp .ge 36, 3) := by decide +kernel
theorem dX5_makePositive_29 : decode cX5_makePositive 29 = .ok (.aload_n 0, 1) := by decide +kernel
theorem dX5_makePositive_30 : decode cX5_makePositive 30 = .ok (.getfield 15, 3) := by decide +kernel
theorem dX5_makePositive_33 : decode cX5_makePositive 33 = .ok (.iload_n 1, 1) := by decide +kernel
theorem dX5_makePositive_34 : decode cX5_makePositive 34 = .ok (.aload_n 0, 1) := by decide +kernel
theorem dX5_makePositive_35 : decode cX5_makePositive 35 = .ok (.getfield 25, 3) := by decide +kernel
theorem dX5_makePositive_38 : decode cX5_makePositive 38 = .ok (.imul, 1) := by decide +kernel
theorem dX5_makePositive_39 : decode cX5_makePositive 39 = .ok (.iload_n 3, 1) := by decide +kernel
theorem dX5_makePositive_40 : decode cX5_makePositive 40 = .ok (.iadd, 1) := by decide +kernel
theorem dX5_makePositive_41 : decode cX5_makePositive 41 = .ok (.aload_n 0, 1) := by decide +kernel
theorem dX5_makePositive_42 : decode cX5_makePositive 42 = .ok (.getfield 15, 3) := by decide +kernel
theorem dX5_makePositive_45 : decode cX5_makePositive 45 = .ok (.iload_n 1, 1) := by decide +kernel
theorem dX5_makePositive_46 : decode cX5_makePositive 46 = .ok (.aload_n 0, 1) := by decide +kernel
theorem dX5_makePositive_47 : decode cX5_makePositive 47 = .ok (.getfield 25, 3) := by decide +kernel
theorem dX5_makePositive_50 : decode cX5_makePositive 50 = .ok (.imul, 1) := by decide +kernel
theorem dX5_makePositive_51 : decode cX5_makePositive 51 = .ok (.iload_n 3, 1) := by decide +kernel
theorem dX5_makePositive_52 : decode cX5_makePositive 52 = .ok (.iadd, 1) := by decide +kernel
theorem dX5_makePositive_53 : decode cX5_makePositive 53 = .ok (.laload, 1) := by decide +kernel
theorem dX5_makePositive_54 : decode cX5_makePositive 54 = .ok (.lneg, 1) := by decide +kernel
theorem dX5_makePositive_55 : decode cX5_makePositive 55 = .ok (.lastore, 1) := by decide +kernel
theorem dX5_makePositive_56 : decode cX5_makePositive 56 = .ok (.iinc 3 1, 3) := by decide +kernel
theorem dX5_makePositive_59 : decode cX5_makePositive 59 = .ok (.goto (-38), 3) := by decide +kernel
theorem dX5_makePositive_62 : decode cX5_makePositive 62 = .ok (.return_, 1) := by decide +kernel
theorem dX5_diagonalise_0 : decode cX5_diagonalise 0 = .ok (.aload_n 0, 1) := by decide +kernel
theorem dX5_diagonalise_1 : decode cX5_diagonalise 1 = .ok (.getfield 21, 3) := by decide +kernel
theorem dX5_diagonalise_4 : decode cX5_diagonalise 4 = .ok (.aload_n 0, 1) := by decide +kernel
theorem dX5_diagonalise_5 : decode cX5_diagonalise 5 = .ok (.getfield 25, 3) := by decide +kernel
theorem dX5_diagonalise_8 : decode cX5_diagonalise 8 = .ok (.invokestatic 54, 3) := by decide +kernel
theorem dX5_diagonalise_11 : decode cX5_diagonalise 11 = .ok (.istore_n 1, 1) := by decide +kernel
theorem dX5_diagonalise_12 : decode cX5_diagonalise 12 = .ok (.iconst 0, 1) := by decide +kernel
theorem dX5_diagonalise_13 : decode cX5_diagonalise 13 = .ok (.istore_n 2, 1) := by decide +kernel
theorem dX5_diagonalise_14 : decode cX5_diagonalise 14 = .ok (.iload_n 2, 1) := by decide +kernel
theorem dX5_diagonalise_15 : decode cX5_diagonalise 15 = .ok (.aload_n 0, 1) := by decide +kernel
theorem dX5_diagonalise_16 : decode cX5_diagonalise 16 = .ok (.getfield 21, 3) := by decide +kernel
theorem dX5_diagonalise_19 : decode cX5_diagonalise 19 = .ok (.aload_n 0, 1) := by decide +kernel
theorem dX5_diagonalise_20 : decode cX5_diagonalise 20 = .ok (.getfield 25, 3) := by decide +kernel
theorem dX5_diagonalise_23 : decode cX5_diagonalise 23 = .ok (.imul, 1) := by decide +kernel
theorem dX5_diagonalise_24 : decode cX5_diagonalise 24 = .ok (.if_icmp .ge 25, 3) := by decide +kernel
theorem dX5_diagonalise_27 : decode cX5_diagonalise 27 = .ok (.aload_n 0, 1) := by decide +kernel
theorem dX5_diagonalise_28 : decode cX5_diagonalise 28 = .ok (.getfield 9, 3) := by decide +kernel
theorem dX5_diagonalise_31 : decode cX5_diagonalise 31 = .ok (.iload_n 2, 1) := by decide +kernel
theorem dX5_diagonalise_32 : decode cX5_diagonalise 32 = .ok (.aload_n 0, 1) := by decide +kernel
theorem dX5_diagonalise_33 : decode cX5_diagonalise 33 = .ok (.aload_n 0, 1) := by decide +kernel
theorem dX5_diagonalise_34 : decode cX5_diagonalise 34 = .ok (.getfield 9, 3) := by decide +kernel
theorem dX5_diagonalise_37 : decode cX5_diagonalise 37 = .ok (.iload_n 2, 1) := by decide +kernel
theorem dX5_diagonalise_38 : decode cX5_diagonalise 38 = .ok (.laload, 1) := by decide +kernel
theorem dX5_diagonalise_39 : decode cX5_diagonalise 39 = .ok (.invokevirtual 59, 3) := by decide +kernel
theorem dX5_diagonalise_42 : decode cX5_diagonalise 42 = .ok (.lastore, 1) := by decide +kernel
theorem dX5_diagonalise_43 : decode cX5_diagonalise 43 = .ok (.iinc 2 1, 3) := by decide +kernel
theorem dX5_diagonalise_46 : decode cX5_diagonalise 46 = .ok (.goto (-32), 3) := by decide +kernel
theorem dX5_diagonalise_49 : decode cX5_diagonalise 49 = .ok (.iconst 0, 1) := by decide +kernel
theorem dX5_diagonalise_50 : decode cX5_diagonalise 50 = .ok (.istore_n 2, 1) := by decide +kernel
theorem dX5_diagonalise_51 : decode cX5_diagonalise 51 = .ok (.iload_n 2, 1) := by decide +kernel
theorem dX5_diagonalise_52 : decode cX5_diagonalise 52 = .ok (.iload_n 1, 1) := by decide +kernel
theorem dX5_diagonalise_53 : decode cX5_diagonalise 53 = .ok (.if_icmp .ge 20, 3) := by decide +kernel
theorem dX5_diagonalise_56 : decode cX5_diagonalise 56 = .ok (.aload_n 0, 1) := by decide +kernel
theorem dX5_diagonalise_57 : decode cX5_diagonalise 57 = .ok (.getfield 18, 3) := by decide +kernel
theorem dX5_diagonalise_60 : decode cX5_diagonalise 60 = .ok (.iload_n 2, 1) := by decide +kernel
theorem dX5_diagonalise_61 : decode cX5_diagonalise 61 = .ok (.aload_n 0, 1) := by decide +kernel
theorem dX5_diagonalise_62 : decode cX5_diagonalise 62 = .ok (.iload_n 2, 1) := by decide +kernel
theorem dX5_diagonalise_63 : decode cX5_diagonalise 63 = .ok (.invokevirtual 63, 3) := by decide +kernel
theorem dX5_diagonalise_66 : decode cX5_diagonalise 66 = .ok (.lastore, 1) := by decide +kernel
theorem dX5_diagonalise_67 : decode cX5_diagonalise 67 = .ok (.iinc 2 1, 3) := by decide +kernel
theorem dX5_diagonalise_70 : decode cX5_diagonalise 70 = .ok (.goto (-19), 3) := by decide +kernel
theorem dX5_diagonalise_73 : decode cX5_diagonalise 73 = .ok (.iconst 0, 1) := by decide +kernel
theorem dX5_diagonalise_74 : decode cX5_diagonalise 74 = .ok (.istore_n 2, 1) := by decide +kernel
theorem dX5_diagonalise_75 : decode cX5_diagonalise 75 = .ok (.iload_n 2, 1) := by decide +kernel
theorem dX5_diagonalise_76 : decode cX5_diagonalise 76 = .ok (.iload_n 1, 1) := by decide +kernel
theorem dX5_diagonalise_77 : decode cX5_diagonalise 77 = .ok (.if_icmp .ge 30, 3) := by decide +kernel
theorem dX5_diagonalise_80 : decode cX5_diagonalise 80 = .ok (.iload_n 2, 1) := by decide +kernel
theorem dX5_diagonalise_81 : decode cX5_diagonalise 81 = .ok (.iconst 1, 1) := by decide +kernel
theorem dX5_diagonalise_82 : decode cX5_diagonalise 82 = .ok (.iadd, 1) := by decide +kernel
theorem dX5_diagonalise_83 : decode cX5_diagonalise 83 = .ok (.istore_n 3, 1) := by decide +kernel
theorem dX5_diagonalise_84 : decode cX5_diagonalise 84 = .ok (.iload_n 3, 1) := by decide +kernel
theorem dX5_diagonalise_85 : decode cX5_diagonalise 85 = .ok (.iload_n 1, 1) := by decide +kernel
theorem dX5_diagonalise_86 : decode cX5_diagonalise 86 = .ok (.if_icmp .ge 15, 3) := by decide +kernel
theorem dX5_diagonalise_89 : decode cX5_diagonalise 89 = .ok (.aload_n 0, 1) := by decide +kernel
theorem dX5_diagonalise_90 : decode cX5_diagonalise 90 = .ok (.iload_n 2, 1) := by decide +kernel
theorem dX5_diagonalise_91 : decode cX5_diagonalise 91 = .ok (.iload_n 3, 1) := by decide +kernel
theorem dX5_diagonalise_92 : decode cX5_diagonalise 92 = .ok (.invokevirtual 67, 3) := by decide +kernel
theorem dX5_diagonalise_95 : decode cX5_diagonalise 95 = .ok (.iinc 3 1, 3) := by decide +kernel
theorem dX5_diagonalise_98 : decode cX5_diagonalise 98 = .ok (.goto (-14), 3) := by decide +kernel
theorem dX5_diagonalise_101 : decode cX5_diagonalise 101 = .ok (.iinc 2 1, 3) := by decide +kernel
theorem dX5_diagonalise_104 : decode cX5_diagonalise 104 = .ok (.goto (-29), 3) := by decide +kernel
theorem dX5_diagonalise_107 : decode cX5_diagonalise 107 = .ok (.return_, 1) := by decide +kernel
theorem dX5_makeDivide_0 : decode cX5_makeDivide 0 = .ok (.aload_n 0, 1) := by decide +kernel
theorem dX5_makeDivide_1 : decode cX5_makeDivide 1 = .ok (.getfield 18, 3) := by decide +kernel
theorem dX5_makeDivide_4 : decode cX5_makeDivide 4 = .ok (.iload_n 1, 1) := by decide +kernel
theorem dX5_makeDivide_5 : decode cX5_makeDivide 5 = .ok (.laload, 1) := by decide +kernel
theorem dX5_makeDivide_6 : decode cX5_makeDivide 6 = .ok (.aload_n 0, 1) := by decide +kernel
theorem dX5_makeDivide_7 : decode cX5_makeDivide 7 = .ok (.getfield 18, 3) := by decide +kernel
theorem dX5_makeDivide_10 : decode cX5_makeDivide 10 = .ok (.iload_n 2, 1) := by decide +kernel
theorem dX5_makeDivide_11 : decode cX5_makeDivide 11 = .ok (.laload, 1) := by decide +kernel
theorem dX5_makeDivide_12 : decode cX5_makeDivide 12 = .ok (.invokestatic 70, 3) := by decide +kernel
theorem dX5_makeDivide_15 : decode cX5_makeDivide 15 = .ok (.lstore_n 3, 1) := by decide +kernel
theorem dX5_makeDivide_16 : decode cX5_makeDivide 16 = .ok (.lload_n 3, 1) := by decide +kernel
theorem dX5_makeDivide_17 : decode cX5_makeDivide 17 = .ok (.lconst 0, 1) := by decide +kernel
theorem dX5_makeDivide_18 : decode cX5_makeDivide 18 = .ok (.lcmp, 1) := by decide +kernel
theorem dX5_makeDivide_19 : decode cX5_makeDivide 19 = .ok (.ifCond .eq 31, 3) := by decide +kernel
theorem dX5_makeDivide_22 : decode cX5_makeDivide 22 = .ok (.aload_n 0, 1) := by decide +kernel
theorem dX5_makeDivide_23 : decode cX5_makeDivide 23 = .ok (.getfield 18, 3) := by decide +kernel
theorem dX5_makeDivide_26 : decode cX5_makeDivide 26 = .ok (.iload_n 2, 1) := by decide +kernel
theorem dX5_makeDivide_27 : decode cX5_makeDivide 27 = .ok (.aload_n 0, 1) := by decide +kernel
theorem dX5_makeDivide_28 : decode cX5_makeDivide 28 = .ok (.getfield 18, 3) := by decide +kernel
theorem dX5_makeDivide_31 : decode cX5_makeDivide 31 = .ok (.iload_n 1, 1) := by decide +kernel
theorem dX5_makeDivide_32 : decode cX5_makeDivide 32 = .ok (.laload, 1) := by decide +kernel
theorem dX5_makeDivide_33 : decode cX5_makeDivide 33 = .ok (.lload_n 3, 1) := by decide +kernel
theorem dX5_makeDivide_34 : decode cX5_makeDivide 34 = .ok (.ldiv, 1) := by decide +kernel
theorem dX5_makeDivide_35 : decode cX5_makeDivide 35 = .ok (.aload_n 0, 1) := by decide +kernel
theorem dX5_makeDivide_36 : decode cX5_makeDivide 36 = .ok (.getfield 18, 3) := by decide +kernel
theorem dX5_makeDivide_39 : decode cX5_makeDivide 39 = .ok (.iload_n 2, 1) := by decide +kernel
theorem dX5_makeDivide_40 : decode cX5_makeDivide 40 = .ok (.laload, 1) := by decide +kernel
theorem dX5_makeDivide_41 : decode cX5_makeDivide 41 = .ok (.lmul, 1) := by decide +kernel
theorem dX5_makeDivide_42 : decode cX5_makeDivide 42 = .ok (.lastore, 1) := by decide +kernel
theorem dX5_makeDivide_43 : decode cX5_makeDivide 43 = .ok (.aload_n 0, 1) := by decide +kernel
theorem dX5_makeDivide_44 : decode cX5_makeDivide 44 = .ok (.getfield 18, 3) := by decide +kernel
theorem dX5_makeDivide_47 : decode cX5_makeDivide 47 = .ok (.iload_n 1, 1) := by decide +kernel
theorem dX5_makeDivide_48 : decode cX5_makeDivide 48 = .ok (.lload_n 3, 1) := by decide +kernel
theorem dX5_makeDivide_49 : decode cX5_makeDivide 49 = .ok (.lastore, 1) := by decide +kernel
theorem dX5_makeDivide_50 : decode cX5_makeDivide 50 = .ok (.return_, 1) := by decide +kernel
theorem dX5_clearCorner_0 : decode cX5_clearCorner 0 = .ok (.iconst 0, 1) := by decide +kernel
theorem dX5_clearCorner_1 : decode cX5_clearCorner 1 = .ok (.istore_n 2, 1) := by decide +kernel
theorem dX5_clearCorner_2 : decode cX5_clearCorner 2 = .ok (.iload_n 2, 1) := by decide +kernel
theorem dX5_clearCorner_3 : decode cX5_clearCorner 3 = .ok (.sipush 1000, 3) := by decide +kernel
theorem dX5_clearCorner_6 : decode cX5_clearCorner 6 = .ok (.if_icmp .ge 103, 3) := by decide +kernel
theorem dX5_clearCorner_9 : decode cX5_clearCorner 9 = .ok (.aload_n 0, 1) := by decide +kernel
theorem dX5_clearCorner_10 : decode cX5_clearCorner 10 = .ok (.iload_n 1, 1) := by decide +kernel
theorem dX5_clearCorner_11 : decode cX5_clearCorner 11 = .ok (.invokevirtual 74, 3) := by decide +kernel
theorem dX5_clearCorner_14 : decode cX5_clearCorner 14 = .ok (.istore_n 3, 1) := by decide +kernel
theorem dX5_clearCorner_15 : decode cX5_clearCorner 15 = .ok (.iload_n 3, 1) := by decide +kernel
theorem dX5_clearCorner_16 : decode cX5_clearCorner 16 = .ok (.iconst (-1), 1) := by decide +kernel
theorem dX5_clearCorner_17 : decode cX5_clearCorner 17 = .ok (.if_icmp .eq 10, 3) := by decide +kernel
theorem dX5_clearCorner_20 : decode cX5_clearCorner 20 = .ok (.aload_n 0, 1) := by decide +kernel
theorem dX5_clearCorner_21 : decode cX5_clearCorner 21 = .ok (.getfield 25, 3) := by decide +kernel
theorem dX5_clearCorner_24 : decode cX5_clearCorner 24 = .ok (.ifCond .gt 8, 3) := by decide +kernel
theorem dX5_clearCorner_27 : decode cX5_clearCorner 27 = .ok (.aload_n 0, 1) := by decide +kernel
theorem dX5_clearCorner_28 : decode cX5_clearCorner 28 = .ok (.getfield 50, 3) := by decide +kernel
theorem dX5_clearCorner_31 : decode cX5_clearCorner 31 = .ok (.lreturn, 1) := by decide +kernel
theorem dX5_clearCorner_32 : decode cX5_clearCorner 32 = .ok (.aload_n 0, 1) := by decide +kernel
theorem dX5_clearCorner_33 : decode cX5_clearCorner 33 = .ok (.aload_n 0, 1) := by decide +kernel
theorem dX5_clearCorner_34 : decode cX5_clearCorner 34 = .ok (.getfield 9, 3) := by decide +kernel
theorem dX5_clearCorner_37 : decode cX5_clearCorner 37 = .ok (.iload_n 1, 1) := by decide +kernel
theorem dX5_clearCorner_38 : decode cX5_clearCorner 38 = .ok (.iload_n 3, 1) := by decide +kernel
theorem dX5_clearCorner_39 : decode cX5_clearCorner 39 = .ok (.aload_n 0, 1) := by decide +kernel
theorem dX5_clearCorner_40 : decode cX5_clearCorner 40 = .ok (.getfield 25, 3) := by decide +kernel
theorem dX5_clearCorner_43 : decode cX5_clearCorner 43 = .ok (.idiv, 1) := by decide +kernel
theorem dX5_clearCorner_44 : decode cX5_clearCorner 44 = .ok (.invokevirtual 38, 3) := by decide +kernel
theorem dX5_clearCorner_47 : decode cX5_clearCorner 47 = .ok (.aload_n 0, 1) := by decide +kernel
theorem dX5_clearCorner_48 : decode cX5_clearCorner 48 = .ok (.iload_n 1, 1) := by decide +kernel
theorem dX5_clearCorner_49 : decode cX5_clearCorner 49 = .ok (.iload_n 3, 1) := by decide +kernel
theorem dX5_clearCorner_50 : decode cX5_clearCorner 50 = .ok (.aload_n 0, 1) := by decide +kernel
theorem dX5_clearCorner_51 : decode cX5_clearCorner 51 = .ok (.getfield 25, 3) := by decide +kernel
theorem dX5_clearCorner_54 : decode cX5_clearCorner 54 = .ok (.irem, 1) := by decide +kernel
theorem dX5_clearCorner_55 : decode cX5_clearCorner 55 = .ok (.invokevirtual 78, 3) := by decide +kernel
theorem dX5_clearCorner_58 : decode cX5_clearCorner 58 = .ok (.aload_n 0, 1) := by decide +kernel
theorem dX5_clearCorner_59 : decode cX5_clearCorner 59 = .ok (.iload_n 1, 1) := by decide +kernel
theorem dX5_clearCorner_60 : decode cX5_clearCorner 60 = .ok (.invokevirtual 81, 3) := by decide +kernel
theorem dX5_clearCorner_63 : decode cX5_clearCorner 63 = .ok (.istore 4, 2) := by decide +kernel
theorem dX5_clearCorner_65 : decode cX5_clearCorner 65 = .ok (.aload_n 0, 1) := by decide +kernel
theorem dX5_clearCorner_66 : decode cX5_clearCorner 66 = .ok (.iload_n 1, 1) := by decide +kernel
theorem dX5_clearCorner_67 : decode cX5_clearCorner 67 = .ok (.invokevirtual 85, 3) := by decide +kernel
theorem dX5_clearCorner_70 : decode cX5_clearCorner 70 = .ok (.istore 5, 2) := by decide +kernel
theorem dX5_clearCorner_72 : decode cX5_clearCorner 72 = .ok (.iload 4, 2) := by decide +kernel
theorem dX5_clearCorner_74 : decode cX5_clearCorner 74 = .ok (.ifCond .eq 29, 3) := by decide +kernel
theorem dX5_clearCorner_77 : decode cX5_clearCorner 77 = .ok (.iload 5, 2) := by decide +kernel
theorem dX5_clearCorner_79 : decode cX5_clearCorner 79 = .ok (.ifCond .eq 24, 3) := by decide +kernel
theorem dX5_clearCorner_82 : decode cX5_clearCorner 82 = .ok (.aload_n 0, 1) := by decide +kernel
theorem dX5_clearCorner_83 : decode cX5_clearCorner 83 = .ok (.getfield 9, 3) := by decide +kernel
theorem dX5_clearCorner_86 : decode cX5_clearCorner 86 = .ok (.iload_n 1, 1) := by decide +kernel
theorem dX5_clearCorner_87 : decode cX5_clearCorner 87 = .ok (.aload_n 0, 1) := by decide +kernel
theorem dX5_clearCorner_88 : decode cX5_clearCorner 88 = .ok (.getfield 25, 3) := by decide +kernel
theorem dX5_clearCorner_91 : decode cX5_clearCorner 91 = .ok (.imul, 1) := by decide +kernel
theorem dX5_clearCorner_92 : decode cX5_clearCorner 92 = .ok (.iload_n 1, 1) := by decide +kernel
theorem dX5_clearCorner_93 : decode cX5_clearCorner 93 = .ok (.iadd, 1) := by decide +kernel
theorem dX5_clearCorner_94 : decode cX5_clearCorner 94 = .ok (.laload, 1) := by decide +kernel
theorem dX5_clearCorner_95 : decode cX5_clearCorner 95 = .ok (.aload_n 0, 1) := by decide +kernel
theorem dX5_clearCorner_96 : decode cX5_clearCorner 96 = .ok (.getfield 50, 3) := by decide +kernel
theorem dX5_clearCorner_99 : decode cX5_clearCorner 99 = .ok (.invokestatic 70, 3) := by decide +kernel
theorem dX5_clearCorner_102 : decode cX5_clearCorner 102 = .ok (.lreturn, 1) := by decide +kernel
theorem dX5_clearCorner_103 : decode cX5_clearCorner 103 = .ok (.iinc 2 1, 3) := by decide +kernel
theorem dX5_clearCorner_106 : decode cX5_clearCorner 106 = .ok (.goto (-104), 3) := by decide +kernel
theorem dX5_clearCorner_109 : decode cX5_clearCorner 109 = .ok (.aload_n 0, 1) := by decide +kernel
theorem dX5_clearCorner_110 : decode cX5_clearCorner 110 = .ok (.getfield 50, 3) := by decide +kernel
theorem dX5_clearCorner_113 : decode cX5_clearCorner 113 = .ok (.lreturn, 1) := by decide +kernel
theorem dX5_leastCell_0 : decode cX5_leastCell 0 = .ok (.iconst (-1), 1) := by decide +kernel
theorem dX5_leastCell_1 : decode cX5_leastCell 1 = .ok (.istore_n 2, 1) := by decide +kernel
theorem dX5_leastCell_2 : decode cX5_leastCell 2 = .ok (.iload_n 1, 1) := by decide +kernel
theorem dX5_leastCell_3 : decode cX5_leastCell 3 = .ok (.istore_n 3, 1) := by decide +kernel
theorem dX5_leastCell_4 : decode cX5_leastCell 4 = .ok (.iload_n 3, 1) := by decide +kernel
theorem dX5_leastCell_5 : decode cX5_leastCell 5 = .ok (.aload_n 0, 1) := by decide +kernel
theorem dX5_leastCell_6 : decode cX5_leastCell 6 = .ok (.getfield 21, 3) := by decide +kernel
theorem dX5_leastCell_9 : decode cX5_leastCell 9 = .ok (.if_icmp .ge 93, 3) := by decide +kernel
theorem dX5_leastCell_12 : decode cX5_leastCell 12 = .ok (.iload_n 1, 1) := by decide +kernel
theorem dX5_leastCell_13 : decode cX5_leastCell 13 = .ok (.istore 4, 2) := by decide +kernel
theorem dX5_leastCell_15 : decode cX5_leastCell 15 = .ok (.iload 4, 2) := by decide +kernel
theorem dX5_leastCell_17 : decode cX5_leastCell 17 = .ok (.aload_n 0, 1) := by decide +kernel
theorem dX5_leastCell_18 : decode cX5_leastCell 18 = .ok (.getfield 25, 3) := by decide +kernel
theorem dX5_leastCell_21 : decode cX5_leastCell 21 = .ok (.if_icmp .ge 75, 3) := by decide +kernel
theorem dX5_leastCell_24 : decode cX5_leastCell 24 = .ok (.iload_n 3, 1) := by decide +kernel
theorem dX5_leastCell_25 : decode cX5_leastCell 25 = .ok (.aload_n 0, 1) := by decide +kernel
theorem dX5_leastCell_26 : decode cX5_leastCell 26 = .ok (.getfield 25, 3) := by decide +kernel
theorem dX5_leastCell_29 : decode cX5_leastCell 29 = .ok (.imul, 1) := by decide +kernel
theorem dX5_leastCell_30 : decode cX5_leastCell 30 = .ok (.iload 4, 2) := by decide +kernel
theorem dX5_leastCell_32 : decode cX5_leastCell 32 = .ok (.iadd, 1) := by decide +kernel
theorem dX5_leastCell_33 : decode cX5_leastCell 33 = .ok (.istore 5, 2) := by decide +kernel
theorem dX5_leastCell_35 : decode cX5_leastCell 35 = .ok (.iload_n 2, 1) := by decide +kernel
theorem dX5_leastCell_36 : decode cX5_leastCell 36 = .ok (.iconst (-1), 1) := by decide +kernel
theorem dX5_leastCell_37 : decode cX5_leastCell 37 = .ok (.if_icmp .eq 26, 3) := by decide +kernel
theorem dX5_leastCell_40 : decode cX5_leastCell 40 = .ok (.aload_n 0, 1) := by decide +kernel
theorem dX5_leastCell_41 : decode cX5_leastCell 41 = .ok (.getfield 9, 3) := by decide +kernel
theorem dX5_leastCell_44 : decode cX5_leastCell 44 = .ok (.iload 5, 2) := by decide +kernel
theorem dX5_leastCell_46 : decode cX5_leastCell 46 = .ok (.laload, 1) := by decide +kernel
theorem dX5_leastCell_47 : decode cX5_leastCell 47 = .ok (.invokestatic 88, 3) := by decide +kernel
theorem dX5_leastCell_50 : decode cX5_leastCell 50 = .ok (.aload_n 0, 1) := by decide +kernel
theorem dX5_leastCell_51 : decode cX5_leastCell 51 = .ok (.getfield 9, 3) := by decide +kernel
theorem dX5_leastCell_54 : decode cX5_leastCell 54 = .ok (.iload_n 2, 1) := by decide +kernel
theorem dX5_leastCell_55 : decode cX5_leastCell 55 = .ok (.laload, 1) := by decide +kernel
theorem dX5_leastCell_56 : decode cX5_leastCell 56 = .ok (.invokestatic 88, 3) := by decide +kernel
theorem dX5_leastCell_59 : decode cX5_leastCell 59 = .ok (.lcmp, 1) := by decide +kernel
theorem dX5_leastCell_60 : decode cX5_leastCell 60 = .ok (.ifCond .ge 7, 3) := by decide +kernel
theorem dX5_leastCell_63 : decode cX5_leastCell 63 = .ok (.iconst 1, 1) := by decide +kernel
theorem dX5_leastCell_64 : decode cX5_leastCell 64 = .ok (.goto 4, 3) := by decide +kernel
theorem dX5_leastCell_67 : decode cX5_leastCell 67 = .ok (.iconst 0, 1) := by decide +kernel
theorem dX5_leastCell_68 : decode cX5_leastCell 68 = .ok (.istore 6, 2) := by decide +kernel
theorem dX5_leastCell_70 : decode cX5_leastCell 70 = .ok (.aload_n 0, 1) := by decide +kernel
theorem dX5_leastCell_71 : decode cX5_leastCell 71 = .ok (.getfield 9, 3) := by decide +kernel
theorem dX5_leastCell_74 : decode cX5_leastCell 74 = .ok (.iload 5, 2) := by decide +kernel
theorem dX5_leastCell_76 : decode cX5_leastCell 76 = .ok (.laload, 1) := by decide +kernel
theorem dX5_leastCell_77 : decode cX5_leastCell 77 = .ok (.lconst 0, 1) := by decide +kernel
theorem dX5_leastCell_78 : decode cX5_leastCell 78 = .ok (.lcmp, 1) := by decide +kernel
theorem dX5_leastCell_79 : decode cX5_leastCell 79 = .ok (.ifCond .eq 11, 3) := by decide +kernel
theorem dX5_leastCell_82 : decode cX5_leastCell 82 = .ok (.iload 6, 2) := by decide +kernel
theorem dX5_leastCell_84 : decode cX5_leastCell 84 = .ok (.ifCond .eq 6, 3) := by decide +kernel
theorem dX5_leastCell_87 : decode cX5_leastCell 87 = .ok (.iload 5, 2) := by decide +kernel
theorem dX5_leastCell_89 : decode cX5_leastCell 89 = .ok (.istore_n 2, 1) := by decide +kernel
theorem dX5_leastCell_90 : decode cX5_leastCell 90 = .ok (.iinc 4 1, 3) := by decide +kernel
theorem dX5_leastCell_93 : decode cX5_leastCell 93 = .ok (.goto (-78), 3) := by decide +kernel
theorem dX5_leastCell_96 : decode cX5_leastCell 96 = .ok (.iinc 3 1, 3) := by decide +kernel
theorem dX5_leastCell_99 : decode cX5_leastCell 99 = .ok (.goto (-95), 3) := by decide +kernel
theorem dX5_leastCell_102 : decode cX5_leastCell 102 = .ok (.iload_n 2, 1) := by decide +kernel
theorem dX5_leastCell_103 : decode cX5_leastCell 103 = .ok (.ireturn, 1) := by decide +kernel
theorem dX5_reduceRows_0 : decode cX5_reduceRows 0 = .ok (.iconst 1, 1) := by decide +kernel
theorem dX5_reduceRows_1 : decode cX5_reduceRows 1 = .ok (.istore_n 2, 1) := by decide +kernel
theorem dX5_reduceRows_2 : decode cX5_reduceRows 2 = .ok (.iload_n 1, 1) := by decide +kernel
theorem dX5_reduceRows_3 : decode cX5_reduceRows 3 = .ok (.iconst 1, 1) := by decide +kernel
theorem dX5_reduceRows_4 : decode cX5_reduceRows 4 = .ok (.iadd, 1) := by decide +kernel
theorem dX5_reduceRows_5 : decode cX5_reduceRows 5 = .ok (.istore_n 3, 1) := by decide +kernel
theorem dX5_reduceRows_6 : decode cX5_reduceRows 6 = .ok (.iload_n 3, 1) := by decide +kernel
theorem dX5_reduceRows_7 : decode cX5_reduceRows 7 = .ok (.aload_n 0, 1) := by decide +kernel
theorem dX5_reduceRows_8 : decode cX5_reduceRows 8 = .ok (.getfield 21, 3) := by decide +kernel
theorem dX5_reduceRows_11 : decode cX5_reduceRows 11 = .ok (.if_icmp .ge 140, 3) := by decide +kernel
theorem dX5_reduceRows_14 : decode cX5_reduceRows 14 = .ok (.aload_n 0, 1) := by decide +kernel
theorem dX5_reduceRows_15 : decode cX5_reduceRows 15 = .ok (.getfield 9, 3) := by decide +kernel
theorem dX5_reduceRows_18 : decode cX5_reduceRows 18 = .ok (.iload_n 3, 1) := by decide +kernel
theorem dX5_reduceRows_19 : decode cX5_reduceRows 19 = .ok (.aload_n 0, 1) := by decide +kernel
theorem dX5_reduceRows_20 : decode cX5_reduceRows 20 = .ok (.getfield 25, 3) := by decide +kernel
theorem dX5_reduceRows_23 : decode cX5_reduceRows 23 = .ok (.imul, 1) := by decide +kernel
theorem dX5_reduceRows_24 : decode cX5_reduceRows 24 = .ok (.iload_n 1, 1) := by decide +kernel
theorem dX5_reduceRows_25 : decode cX5_reduceRows 25 = .ok (.iadd, 1) := by decide +kernel
theorem dX5_reduceRows_26 : decode cX5_reduceRows 26 = .ok (.laload, 1) := by decide +kernel
theorem dX5_reduceRows_27 : decode cX5_reduceRows 27 = .ok (.aload_n 0, 1) := by decide +kernel
theorem dX5_reduceRows_28 : decode cX5_reduceRows 28 = .ok (.getfield 9, 3) := by decide +kernel
theorem dX5_reduceRows_31 : decode cX5_reduceRows 31 = .ok (.iload_n 1, 1) := by decide +kernel
theorem dX5_reduceRows_32 : decode cX5_reduceRows 32 = .ok (.aload_n 0, 1) := by decide +kernel
theorem dX5_reduceRows_33 : decode cX5_reduceRows 33 = .ok (.getfield 25, 3) := by decide +kernel
theorem dX5_reduceRows_36 : decode cX5_reduceRows 36 = .ok (.imul, 1) := by decide +kernel
theorem dX5_reduceRows_37 : decode cX5_reduceRows 37 = .ok (.iload_n 1, 1) := by decide +kernel
theorem dX5_reduceRows_38 : decode cX5_reduceRows 38 = .ok (.iadd, 1) := by decide +kernel
theorem dX5_reduceRows_39 : decode cX5_reduceRows 39 = .ok (.laload, 1) := by decide +kernel
theorem dX5_reduceRows_40 : decode cX5_reduceRows 40 = .ok (.invokestatic 91, 3) := by decide +kernel
theorem dX5_reduceRows_43 : decode cX5_reduceRows 43 = .ok (.lstore 4, 2) := by decide +kernel
theorem dX5_reduceRows_45 : decode cX5_reduceRows 45 = .ok (.iload_n 1, 1) := by decide +kernel
theorem dX5_reduceRows_46 : decode cX5_reduceRows 46 = .ok (.istore 6, 2) := by decide +kernel
theorem dX5_reduceRows_48 : decode cX5_reduceRows 48 = .ok (.iload 6, 2) := by decide +kernel
theorem dX5_reduceRows_50 : decode cX5_reduceRows 50 = .ok (.aload_n 0, 1) := by decide +kernel
theorem dX5_reduceRows_51 : decode cX5_reduceRows 51 = .ok (.getfield 25, 3) := by decide +kernel
theorem dX5_reduceRows_54 : decode cX5_reduceRows 54 = .ok (.if_icmp .ge 63, 3) := by decide +kernel
theorem dX5_reduceRows_57 : decode cX5_reduceRows 57 = .ok (.lload 4, 2) := by decide +kernel
theorem dX5_reduceRows_59 : decode cX5_reduceRows 59 = .ok (.lconst 0, 1) := by decide +kernel
theorem dX5_reduceRows_60 : decode cX5_reduceRows 60 = .ok (.lcmp, 1) := by decide +kernel
theorem dX5_reduceRows_61 : decode cX5_reduceRows 61 = .ok (.ifCond .eq 56, 3) := by decide +kernel
theorem dX5_reduceRows_64 : decode cX5_reduceRows 64 = .ok (.iload_n 3, 1) := by decide +kernel
theorem dX5_reduceRows_65 : decode cX5_reduceRows 65 = .ok (.aload_n 0, 1) := by decide +kernel
theorem dX5_reduceRows_66 : decode cX5_reduceRows 66 = .ok (.getfield 25, 3) := by decide +kernel
theorem dX5_reduceRows_69 : decode cX5_reduceRows 69 = .ok (.imul, 1) := by decide +kernel
theorem dX5_reduceRows_70 : decode cX5_reduceRows 70 = .ok (.iload 6, 2) := by decide +kernel
theorem dX5_reduceRows_72 : decode cX5_reduceRows 72 = .ok (.iadd, 1) := by decide +kernel
theorem dX5_reduceRows_73 : decode cX5_reduceRows 73 = .ok (.istore 7, 2) := by decide +kernel
theorem dX5_reduceRows_75 : decode cX5_reduceRows 75 = .ok (.aload_n 0, 1) := by decide +kernel
theorem dX5_reduceRows_76 : decode cX5_reduceRows 76 = .ok (.getfield 9, 3) := by decide +kernel
theorem dX5_reduceRows_79 : decode cX5_reduceRows 79 = .ok (.iload 7, 2) := by decide +kernel
theorem dX5_reduceRows_81 : decode cX5_reduceRows 81 = .ok (.aload_n 0, 1) := by decide +kernel
theorem dX5_reduceRows_82 : decode cX5_reduceRows 82 = .ok (.aload_n 0, 1) := by decide +kernel
theorem dX5_reduceRows_83 : decode cX5_reduceRows 83 = .ok (.getfield 9, 3) := by decide +kernel
theorem dX5_reduceRows_86 : decode cX5_reduceRows 86 = .ok (.iload 7, 2) := by decide +kernel
theorem dX5_reduceRows_88 : decode cX5_reduceRows 88 = .ok (.laload, 1) := by decide +kernel
theorem dX5_reduceRows_89 : decode cX5_reduceRows 89 = .ok (.lload 4, 2) := by decide +kernel
theorem dX5_reduceRows_91 : decode cX5_reduceRows 91 = .ok (.aload_n 0, 1) := by decide +kernel
theorem dX5_reduceRows_92 : decode cX5_reduceRows 92 = .ok (.getfield 9, 3) := by decide +kernel
theorem dX5_reduceRows_95 : decode cX5_reduceRows 95 = .ok (.iload_n 1, 1) := by decide +kernel
theorem dX5_reduceRows_96 : decode cX5_reduceRows 96 = .ok (.aload_n 0, 1) := by decide +kernel
theorem dX5_reduceRows_97 : decode cX5_reduceRows 97 = .ok (.getfield 25, 3) := by decide +kernel
theorem dX5_reduceRows_100 : decode cX5_reduceRows 100 = .ok (.imul, 1) := by decide +kernel
theorem dX5_reduceRows_101 : decode cX5_reduceRows 101 = .ok (.iload 6, 2) := by decide +kernel
theorem dX5_reduceRows_103 : decode cX5_reduceRows 103 = .ok (.iadd, 1) := by decide +kernel
theorem dX5_reduceRows_104 : decode cX5_reduceRows 104 = .ok (.laload, 1) := by decide +kernel
theorem dX5_reduceRows_105 : decode cX5_reduceRows 105 = .ok (.lmul, 1) := by decide +kernel
theorem dX5_reduceRows_106 : decode cX5_reduceRows 106 = .ok (.lsub, 1) := by decide +kernel
theorem dX5_reduceRows_107 : decode cX5_reduceRows 107 = .ok (.invokevirtual 59, 3) := by decide +kernel
theorem dX5_reduceRows_110 : decode cX5_reduceRows 110 = .ok (.lastore, 1) := by decide +kernel
theorem dX5_reduceRows_111 : decode cX5_reduceRows 111 = .ok (.iinc 6 1, 3) := by decide +kernel
theorem dX5_reduceRows_114 : decode cX5_reduceRows 114 = .ok (.goto (-66), 3) := by decide +kernel
theorem dX5_reduceRows_117 : decode cX5_reduceRows 117 = .ok (.iload_n 2, 1) := by decide +kernel
theorem dX5_reduceRows_118 : decode cX5_reduceRows 118 = .ok (.ifCond .eq 25, 3) := by decide +kernel
theorem dX5_reduceRows_121 : decode cX5_reduceRows 121 = .ok (.aload_n 0, 1) := by decide +kernel
theorem dX5_reduceRows_122 : decode cX5_reduceRows 122 = .ok (.getfield 9, 3) := by decide +kernel
theorem dX5_reduceRows_125 : decode cX5_reduceRows 125 = .ok (.iload_n 3, 1) := by decide +kernel
theorem dX5_reduceRows_126 : decode cX5_reduceRows 126 = .ok (.aload_n 0, 1) := by decide +kernel
theorem dX5_reduceRows_127 : decode cX5_reduceRows 127 = .ok (.getfield 25, 3) := by decide +kernel
theorem dX5_reduceRows_130 : decode cX5_reduceRows 130 = .ok (.imul, 1) := by decide +kernel
theorem dX5_reduceRows_131 : decode cX5_reduceRows 131 = .ok (.iload_n 1, 1) := by decide +kernel
theorem dX5_reduceRows_132 : decode cX5_reduceRows 132 = .ok (.iadd, 1) := by decide +kernel
theorem dX5_reduceRows_133 : decode cX5_reduceRows 133 = .ok (.laload, 1) := by decide +kernel
theorem dX5_reduceRows_134 : decode cX5_reduceRows 134 = .ok (.lconst 0, 1) := by decide +kernel
theorem dX5_reduceRows_135 : decode cX5_reduceRows 135 = .ok (.lcmp, 1) := by decide +kernel
theorem dX5_reduceRows_136 : decode cX5_reduceRows 136 = .ok (.ifCond .ne 7, 3) := by decide +kernel
theorem dX5_reduceRows_139 : decode cX5_reduceRows 139 = .ok (.iconst 1, 1) := by decide +kernel
theorem dX5_reduceRows_140 : decode cX5_reduceRows 140 = .ok (.goto 4, 3) := by decide +kernel
theorem dX5_reduceRows_143 : decode cX5_reduceRows 143 = .ok (.iconst 0, 1) := by decide +kernel
theorem dX5_reduceRows_144 : decode cX5_reduceRows 144 = .ok (.istore_n 2, 1) := by decide +kernel
theorem dX5_reduceRows_145 : decode cX5_reduceRows 145 = .ok (.iinc 3 1, 3) := by decide +kernel
theorem dX5_reduceRows_148 : decode cX5_reduceRows 148 = .ok (.goto (-142), 3) := by decide +kernel
theorem dX5_reduceRows_151 : decode cX5_reduceRows 151 = .ok (.iload_n 2, 1) := by decide +kernel
theorem dX5_reduceRows_152 : decode cX5_reduceRows 152 = .ok (.ireturn, 1) := by decide +kernel
theorem dX5_reduceColumns_0 : decode cX5_reduceColumns 0 = .ok (.iconst 1, 1) := by decide +kernel
theorem dX5_reduceColumns_1 : decode cX5_reduceColumns 1 = .ok (.istore_n 2, 1) := by decide +kernel
theorem dX5_reduceColumns_2 : decode cX5_reduceColumns 2 = .ok (.iload_n 1, 1) := by decide +kernel
theorem dX5_reduceColumns_3 : decode cX5_reduceColumns 3 = .ok (.iconst 1, 1) := by decide +kernel
theorem dX5_reduceColumns_4 : decode cX5_reduceColumns 4 = .ok (.iadd, 1) := by decide +kernel
theorem dX5_reduceColumns_5 : decode cX5_reduceColumns 5 = .ok (.istore_n 3, 1) := by decide +kernel
theorem dX5_reduceColumns_6 : decode cX5_reduceColumns 6 = .ok (.iload_n 3, 1) := by decide +kernel
theorem dX5_reduceColumns_7 : decode cX5_reduceColumns 7 = .ok (.aload_n 0, 1) := by decide +kernel
theorem dX5_reduceColumns_8 : decode cX5_reduceColumns 8 = .ok (.getfield 25, 3) := by decide +kernel
theorem dX5_reduceColumns_11 : decode cX5_reduceColumns 11 = .ok (.if_icmp .ge 140, 3) := by decide +kernel
theorem dX5_reduceColumns_14 : decode cX5_reduceColumns 14 = .ok (.aload_n 0, 1) := by decide +kernel
theorem dX5_reduceColumns_15 : decode cX5_reduceColumns 15 = .ok (.getfield 9, 3) := by decide +kernel
theorem dX5_reduceColumns_18 : decode cX5_reduceColumns 18 = .ok (.iload_n 1, 1) := by decide +kernel
theorem dX5_reduceColumns_19 : decode cX5_reduceColumns 19 = .ok (.aload_n 0, 1) := by decide +kernel
theorem dX5_reduceColumns_20 : decode cX5_reduceColumns 20 = .ok (.getfield 25, 3) := by decide +kernel
theorem dX5_reduceColumns_23 : decode cX5_reduceColumns 23 = .ok (.imul, 1) := by decide +kernel
theorem dX5_reduceColumns_24 : decode cX5_reduceColumns 24 = .ok (.iload_n 3, 1) := by decide +kernel
theorem dX5_reduceColumns_25 : decode cX5_reduceColumns 25 = .ok (.iadd, 1) := by decide +kernel
theorem dX5_reduceColumns_26 : decode cX5_reduceColumns 26 = .ok (.laload, 1) := by decide +kernel
theorem dX5_reduceColumns_27 : decode cX5_reduceColumns 27 = .ok (.aload_n 0, 1) := by decide +kernel
theorem dX5_reduceColumns_28 : decode cX5_reduceColumns 28 = .ok (.getfield 9, 3) := by decide +kernel
theorem dX5_reduceColumns_31 : decode cX5_reduceColumns 31 = .ok (.iload_n 1, 1) := by decide +kernel
theorem dX5_reduceColumns_32 : decode cX5_reduceColumns 32 = .ok (.aload_n 0, 1) := by decide +kernel
theorem dX5_reduceColumns_33 : decode cX5_reduceColumns 33 = .ok (.getfield 25, 3) := by decide +kernel
theorem dX5_reduceColumns_36 : decode cX5_reduceColumns 36 = .ok (.imul, 1) := by decide +kernel
theorem dX5_reduceColumns_37 : decode cX5_reduceColumns 37 = .ok (.iload_n 1, 1) := by decide +kernel
theorem dX5_reduceColumns_38 : decode cX5_reduceColumns 38 = .ok (.iadd, 1) := by decide +kernel
theorem dX5_reduceColumns_39 : decode cX5_reduceColumns 39 = .ok (.laload, 1) := by decide +kernel
theorem dX5_reduceColumns_40 : decode cX5_reduceColumns 40 = .ok (.invokestatic 91, 3) := by decide +kernel
theorem dX5_reduceColumns_43 : decode cX5_reduceColumns 43 = .ok (.lstore 4, 2) := by decide +kernel
theorem dX5_reduceColumns_45 : decode cX5_reduceColumns 45 = .ok (.iload_n 1, 1) := by decide +kernel
theorem dX5_reduceColumns_46 : decode cX5_reduceColumns 46 = .ok (.istore 6, 2) := by decide +kernel
theorem dX5_reduceColumns_48 : decode cX5_reduceColumns 48 = .ok (.iload 6, 2) := by decide +kernel
theorem dX5_reduceColumns_50 : decode cX5_reduceColumns 50 = .ok (.aload_n 0, 1) := by decide +kernel
theorem dX5_reduceColumns_51 : decode cX5_reduceColumns 51 = .ok (.getfield 21, 3) := by decide +kernel
theorem dX5_reduceColumns_54 : decode cX5_reduceColumns 54 = .ok (.if_icmp .ge 63, 3) := by decide +kernel
theorem dX5_reduceColumns_57 : decode cX5_reduceColumns 57 = .ok (.lload 4, 2) := by decide +kernel
theorem dX5_reduceColumns_59 : decode cX5_reduceColumns 59 = .ok (.lconst 0, 1) := by decide +kernel
theorem dX5_reduceColumns_60 : decode cX5_reduceColumns 60 = .ok (.lcmp, 1) := by decide +kernel
theorem dX5_reduceColumns_61 : decode cX5_reduceColumns 61 = .ok (.ifCond .eq 56, 3) := by decide +kernel
theorem dX5_reduceColumns_64 : decode cX5_reduceColumns 64 = .ok (.iload 6, 2) := by decide +kernel
theorem dX5_reduceColumns_66 : decode cX5_reduceColumns 66 = .ok (.aload_n 0, 1) := by decide +kernel
theorem dX5_reduceColumns_67 : decode cX5_reduceColumns 67 = .ok (.getfield 25, 3) := by decide +kernel
theorem dX5_reduceColumns_70 : decode cX5_reduceColumns 70 = .ok (.imul, 1) := by decide +kernel
theorem dX5_reduceColumns_71 : decode cX5_reduceColumns 71 = .ok (.iload_n 3, 1) := by decide +kernel
theorem dX5_reduceColumns_72 : decode cX5_reduceColumns 72 = .ok (.iadd, 1) := by decide +kernel
theorem dX5_reduceColumns_73 : decode cX5_reduceColumns 73 = .ok (.istore 7, 2) := by decide +kernel
theorem dX5_reduceColumns_75 : decode cX5_reduceColumns 75 = .ok (.aload_n 0, 1) := by decide +kernel
theorem dX5_reduceColumns_76 : decode cX5_reduceColumns 76 = .ok (.getfield 9, 3) := by decide +kernel
theorem dX5_reduceColumns_79 : decode cX5_reduceColumns 79 = .ok (.iload 7, 2) := by decide +kernel
theorem dX5_reduceColumns_81 : decode cX5_reduceColumns 81 = .ok (.aload_n 0, 1) := by decide +kernel
theorem dX5_reduceColumns_82 : decode cX5_reduceColumns 82 = .ok (.aload_n 0, 1) := by decide +kernel
theorem dX5_reduceColumns_83 : decode cX5_reduceColumns 83 = .ok (.getfield 9, 3) := by decide +kernel
theorem dX5_reduceColumns_86 : decode cX5_reduceColumns 86 = .ok (.iload 7, 2) := by decide +kernel
theorem dX5_reduceColumns_88 : decode cX5_reduceColumns 88 = .ok (.laload, 1) := by decide +kernel
theorem dX5_reduceColumns_89 : decode cX5_reduceColumns 89 = .ok (.lload 4, 2) := by decide +kernel
theorem dX5_reduceColumns_91 : decode cX5_reduceColumns 91 = .ok (.aload_n 0, 1) := by decide +kernel
theorem dX5_reduceColumns_92 : decode cX5_reduceColumns 92 = .ok (.getfield 9, 3) := by decide +kernel
theorem dX5_reduceColumns_95 : decode cX5_reduceColumns 95 = .ok (.iload 6, 2) := by decide +kernel
theorem dX5_reduceColumns_97 : decode cX5_reduceColumns 97 = .ok (.aload_n 0, 1) := by decide +kernel
theorem dX5_reduceColumns_98 : decode cX5_reduceColumns 98 = .ok (.getfield 25, 3) := by decide +kernel
theorem dX5_reduceColumns_101 : decode cX5_reduceColumns 101 = .ok (.imul, 1) := by decide +kernel
theorem dX5_reduceColumns_102 : decode cX5_reduceColumns 102 = .ok (.iload_n 1, 1) := by decide +kernel
theorem dX5_reduceColumns_103 : decode cX5_reduceColumns 103 = .ok (.iadd, 1) := by decide +kernel
theorem dX5_reduceColumns_104 : decode cX5_reduceColumns 104 = .ok (.laload, 1) := by decide +kernel
theorem dX5_reduceColumns_105 : decode cX5_reduceColumns 105 = .ok (.lmul, 1) := by decide +kernel
theorem dX5_reduceColumns_106 : decode cX5_reduceColumns 106 = .ok (.lsub, 1) := by decide +kernel
theorem dX5_reduceColumns_107 : decode cX5_reduceColumns 107 = .ok (.invokevirtual 59, 3) := by decide +kernel
theorem dX5_reduceColumns_110 : decode cX5_reduceColumns 110 = .ok (.lastore, 1) := by decide +kernel
theorem dX5_reduceColumns_111 : decode cX5_reduceColumns 111 = .ok (.iinc 6 1, 3) := by decide +kernel
theorem dX5_reduceColumns_114 : decode cX5_reduceColumns 114 = .ok (.goto (-66), 3) := by decide +kernel
theorem dX5_reduceColumns_117 : decode cX5_reduceColumns 117 = .ok (.iload_n 2, 1) := by decide +kernel
theorem dX5_reduceColumns_118 : decode cX5_reduceColumns 118 = .ok (.ifCond .eq 25, 3) := by decide +kernel
theorem dX5_reduceColumns_121 : decode cX5_reduceColumns 121 = .ok (.aload_n 0, 1) := by decide +kernel
theorem dX5_reduceColumns_122 : decode cX5_reduceColumns 122 = .ok (.getfield 9, 3) := by decide +kernel
theorem dX5_reduceColumns_125 : decode cX5_reduceColumns 125 = .ok (.iload_n 1, 1) := by decide +kernel
theorem dX5_reduceColumns_126 : decode cX5_reduceColumns 126 = .ok (.aload_n 0, 1) := by decide +kernel
theorem dX5_reduceColumns_127 : decode cX5_reduceColumns 127 = .ok (.getfield 25, 3) := by decide +kernel
theorem dX5_reduceColumns_130 : decode cX5_reduceColumns 130 = .ok (.imul, 1) := by decide +kernel
theorem dX5_reduceColumns_131 : decode cX5_reduceColumns 131 = .ok (.iload_n 3, 1) := by decide +kernel
theorem dX5_reduceColumns_132 : decode cX5_reduceColumns 132 = .ok (.iadd, 1) := by decide +kernel
theorem dX5_reduceColumns_133 : decode cX5_reduceColumns 133 = .ok (.laload, 1) := by decide +kernel
theorem dX5_reduceColumns_134 : decode cX5_reduceColumns 134 = .ok (.lconst 0, 1) := by decide +kernel
theorem dX5_reduceColumns_135 : decode cX5_reduceColumns 135 = .ok (.lcmp, 1) := by decide +kernel
theorem dX5_reduceColumns_136 : decode cX5_reduceColumns 136 = .ok (.ifCond .ne 7, 3) := by decide +kernel
theorem dX5_reduceColumns_139 : decode cX5_reduceColumns 139 = .ok (.iconst 1, 1) := by decide +kernel
theorem dX5_reduceColumns_140 : decode cX5_reduceColumns 140 = .ok (.goto 4, 3) := by decide +kernel
theorem dX5_reduceColumns_143 : decode cX5_reduceColumns 143 = .ok (.iconst 0, 1) := by decide +kernel
theorem dX5_reduceColumns_144 : decode cX5_reduceColumns 144 = .ok (.istore_n 2, 1) := by decide +kernel
theorem dX5_reduceColumns_145 : decode cX5_reduceColumns 145 = .ok (.iinc 3 1, 3) := by decide +kernel
theorem dX5_reduceColumns_148 : decode cX5_reduceColumns 148 = .ok (.goto (-142), 3) := by decide +kernel
theorem dX5_reduceColumns_151 : decode cX5_reduceColumns 151 = .ok (.iload_n 2, 1) := by decide +kernel
theorem dX5_reduceColumns_152 : decode cX5_reduceColumns 152 = .ok (.ireturn, 1) := by decide +kernel
theorem dX5_swapRows_0 : decode cX5_swapRows 0 = .ok (.iconst 0, 1) := by decide +kernel
theorem dX5_swapRows_1 : decode cX5_swapRows 1 = .ok (.istore 4, 2) := by decide +kernel
theorem dX5_swapRows_3 : decode cX5_swapRows 3 = .ok (.iload 4, 2) := by decide +kernel
theorem dX5_swapRows_5 : decode cX5_swapRows 5 = .ok (.aload_n 0, 1) := by decide +kernel
theorem dX5_swapRows_6 : decode cX5_swapRows 6 = .ok (.getfield 25, 3) := by decide +kernel
theorem dX5_swapRows_9 : decode cX5_swapRows 9 = .ok (.if_icmp .ge 62, 3) := by decide +kernel
theorem dX5_swapRows_12 : decode cX5_swapRows 12 = .ok (.iload_n 2, 1) := by decide +kernel
theorem dX5_swapRows_13 : decode cX5_swapRows 13 = .ok (.iload_n 3, 1) := by decide +kernel
theorem dX5_swapRows_14 : decode cX5_swapRows 14 = .ok (.if_icmp .eq 57, 3) := by decide +kernel
theorem dX5_swapRows_17 : decode cX5_swapRows 17 = .ok (.aload_n 1, 1) := by decide +kernel
theorem dX5_swapRows_18 : decode cX5_swapRows 18 = .ok (.iload_n 2, 1) := by decide +kernel
theorem dX5_swapRows_19 : decode cX5_swapRows 19 = .ok (.aload_n 0, 1) := by decide +kernel
theorem dX5_swapRows_20 : decode cX5_swapRows 20 = .ok (.getfield 25, 3) := by decide +kernel
theorem dX5_swapRows_23 : decode cX5_swapRows 23 = .ok (.imul, 1) := by decide +kernel
theorem dX5_swapRows_24 : decode cX5_swapRows 24 = .ok (.iload 4, 2) := by decide +kernel
theorem dX5_swapRows_26 : decode cX5_swapRows 26 = .ok (.iadd, 1) := by decide +kernel
theorem dX5_swapRows_27 : decode cX5_swapRows 27 = .ok (.laload, 1) := by decide +kernel
theorem dX5_swapRows_28 : decode cX5_swapRows 28 = .ok (.lstore 5, 2) := by decide +kernel
theorem dX5_swapRows_30 : decode cX5_swapRows 30 = .ok (.aload_n 1, 1) := by decide +kernel
theorem dX5_swapRows_31 : decode cX5_swapRows 31 = .ok (.iload_n 2, 1) := by decide +kernel
theorem dX5_swapRows_32 : decode cX5_swapRows 32 = .ok (.aload_n 0, 1) := by decide +kernel
theorem dX5_swapRows_33 : decode cX5_swapRows 33 = .ok (.getfield 25, 3) := by decide +kernel
theorem dX5_swapRows_36 : decode cX5_swapRows 36 = .ok (.imul, 1) := by decide +kernel
theorem dX5_swapRows_37 : decode cX5_swapRows 37 = .ok (.iload 4, 2) := by decide +kernel
theorem dX5_swapRows_39 : decode cX5_swapRows 39 = .ok (.iadd, 1) := by decide +kernel
theorem dX5_swapRows_40 : decode cX5_swapRows 40 = .ok (.aload_n 1, 1) := by decide +kernel
theorem dX5_swapRows_41 : decode cX5_swapRows 41 = .ok (.iload_n 3, 1) := by decide +kernel
theorem dX5_swapRows_42 : decode cX5_swapRows 42 = .ok (.aload_n 0, 1) := by decide +kernel
theorem dX5_swapRows_43 : decode cX5_swapRows 43 = .ok (.getfield 25, 3) := by decide +kernel
theorem dX5_swapRows_46 : decode cX5_swapRows 46 = .ok (.imul, 1) := by decide +kernel
theorem dX5_swapRows_47 : decode cX5_swapRows 47 = .ok (.iload 4, 2) := by decide +kernel
theorem dX5_swapRows_49 : decode cX5_swapRows 49 = .ok (.iadd, 1) := by decide +kernel
theorem dX5_swapRows_50 : decode cX5_swapRows 50 = .ok (.laload, 1) := by decide +kernel
theorem dX5_swapRows_51 : decode cX5_swapRows 51 = .ok (.lastore, 1) := by decide +kernel
theorem dX5_swapRows_52 : decode cX5_swapRows 52 = .ok (.aload_n 1, 1) := by decide +kernel
theorem dX5_swapRows_53 : decode cX5_swapRows 53 = .ok (.iload_n 3, 1) := by decide +kernel
theorem dX5_swapRows_54 : decode cX5_swapRows 54 = .ok (.aload_n 0, 1) := by decide +kernel
theorem dX5_swapRows_55 : decode cX5_swapRows 55 = .ok (.getfield 25, 3) := by decide +kernel
theorem dX5_swapRows_58 : decode cX5_swapRows 58 = .ok (.imul, 1) := by decide +kernel
theorem dX5_swapRows_59 : decode cX5_swapRows 59 = .ok (.iload 4, 2) := by decide +kernel
theorem dX5_swapRows_61 : decode cX5_swapRows 61 = .ok (.iadd, 1) := by decide +kernel
theorem dX5_swapRows_62 : decode cX5_swapRows 62 = .ok (.lload 5, 2) := by decide +kernel
theorem dX5_swapRows_64 : decode cX5_swapRows 64 = .ok (.lastore, 1) := by decide +kernel
theorem dX5_swapRows_65 : decode cX5_swapRows 65 = .ok (.iinc 4 1, 3) := by decide +kernel
theorem dX5_swapRows_68 : decode cX5_swapRows 68 = .ok (.goto (-65), 3) := by decide +kernel
theorem dX5_swapRows_71 : decode cX5_swapRows 71 = .ok (.return_, 1) := by decide +kernel
theorem dX5_swapColumns_0 : decode cX5_swapColumns 0 = .ok (.iconst 0, 1) := by decide +kernel
theorem dX5_swapColumns_1 : decode cX5_swapColumns 1 = .ok (.istore_n 3, 1) := by decide +kernel
theorem dX5_swapColumns_2 : decode cX5_swapColumns 2 = .ok (.iload_n 3, 1) := by decide +kernel
theorem dX5_swapColumns_3 : decode cX5_swapColumns 3 = .ok (.aload_n 0, 1) := by decide +kernel
theorem dX5_swapColumns_4 : decode cX5_swapColumns 4 = .ok (.getfield 21, 3) := by decide +kernel
theorem dX5_swapColumns_7 : decode cX5_swapColumns 7 = .ok (.if_icmp .ge 70, 3) := by decide +kernel
theorem dX5_swapColumns_10 : decode cX5_swapColumns 10 = .ok (.iload_n 1, 1) := by decide +kernel
theorem dX5_swapColumns_11 : decode cX5_swapColumns 11 = .ok (.iload_n 2, 1) := by decide +kernel
theorem dX5_swapColumns_12 : decode cX5_swapColumns 12 = .ok (.if_icmp .eq 65, 3) := by decide +kernel
theorem dX5_swapColumns_15 : decode cX5_swapColumns 15 = .ok (.aload_n 0, 1) := by decide +kernel
theorem dX5_swapColumns_16 : decode cX5_swapColumns 16 = .ok (.getfield 9, 3) := by decide +kernel
theorem dX5_swapColumns_19 : decode cX5_swapColumns 19 = .ok (.iload_n 3, 1) := by decide +kernel
theorem dX5_swapColumns_20 : decode cX5_swapColumns 20 = .ok (.aload_n 0, 1) := by decide +kernel
theorem dX5_swapColumns_21 : decode cX5_swapColumns 21 = .ok (.getfield 25, 3) := by decide +kernel
theorem dX5_swapColumns_24 : decode cX5_swapColumns 24 = .ok (.imul, 1) := by decide +kernel
theorem dX5_swapColumns_25 : decode cX5_swapColumns 25 = .ok (.iload_n 1, 1) := by decide +kernel
theorem dX5_swapColumns_26 : decode cX5_swapColumns 26 = .ok (.iadd, 1) := by decide +kernel
theorem dX5_swapColumns_27 : decode cX5_swapColumns 27 = .ok (.laload, 1) := by decide +kernel
theorem dX5_swapColumns_28 : decode cX5_swapColumns 28 = .ok (.lstore 4, 2) := by decide +kernel
theorem dX5_swapColumns_30 : decode cX5_swapColumns 30 = .ok (.aload_n 0, 1) := by decide +kernel
theorem dX5_swapColumns_31 : decode cX5_swapColumns 31 = .ok (.getfield 9, 3) := by decide +kernel
theorem dX5_swapColumns_34 : decode cX5_swapColumns 34 = .ok (.iload_n 3, 1) := by decide +kernel
theorem dX5_swapColumns_35 : decode cX5_swapColumns 35 = .ok (.aload_n 0, 1) := by decide +kernel
theorem dX5_swapColumns_36 : decode cX5_swapColumns 36 = .ok (.getfield 25, 3) := by decide +kernel
theorem dX5_swapColumns_39 : decode cX5_swapColumns 39 = .ok (.imul, 1) := by decide +kernel
theorem dX5_swapColumns_40 : decode cX5_swapColumns 40 = .ok (.iload_n 1, 1) := by decide +kernel
theorem dX5_swapColumns_41 : decode cX5_swapColumns 41 = .ok (.iadd, 1) := by decide +kernel
theorem dX5_swapColumns_42 : decode cX5_swapColumns 42 = .ok (.aload_n 0, 1) := by decide +kernel
theorem dX5_swapColumns_43 : decode cX5_swapColumns 43 = .ok (.getfield 9, 3) := by decide +kernel
theorem dX5_swapColumns_46 : decode cX5_swapColumns 46 = .ok (.iload_n 3, 1) := by decide +kernel
theorem dX5_swapColumns_47 : decode cX5_swapColumns 47 = .ok (.aload_n 0, 1) := by decide +kernel
theorem dX5_swapColumns_48 : decode cX5_swapColumns 48 = .ok (.getfield 25, 3) := by decide +kernel
theorem dX5_swapColumns_51 : decode cX5_swapColumns 51 = .ok (.imul, 1) := by decide +kernel
theorem dX5_swapColumns_52 : decode cX5_swapColumns 52 = .ok (.iload_n 2, 1) := by decide +kernel
theorem dX5_swapColumns_53 : decode cX5_swapColumns 53 = .ok (.iadd, 1) := by decide +kernel
theorem dX5_swapColumns_54 : decode cX5_swapColumns 54 = .ok (.laload, 1) := by decide +kernel
theorem dX5_swapColumns_55 : decode cX5_swapColumns 55 = .ok (.lastore, 1) := by decide +kernel
theorem dX5_swapColumns_56 : decode cX5_swapColumns 56 = .ok (.aload_n 0, 1) := by decide +kernel
theorem dX5_swapColumns_57 : decode cX5_swapColumns 57 = .ok (.getfield 9, 3) := by decide +kernel
theorem dX5_swapColumns_60 : decode cX5_swapColumns 60 = .ok (.iload_n 3, 1) := by decide +kernel
theorem dX5_swapColumns_61 : decode cX5_swapColumns 61 = .ok (.aload_n 0, 1) := by decide +kernel
theorem dX5_swapColumns_62 : decode cX5_swapColumns 62 = .ok (.getfield 25, 3) := by decide +kernel
theorem dX5_swapColumns_65 : decode cX5_swapColumns 65 = .ok (.imul, 1) := by decide +kernel
theorem dX5_swapColumns_66 : decode cX5_swapColumns 66 = .ok (.iload_n 2, 1) := by decide +kernel
theorem dX5_swapColumns_67 : decode cX5_swapColumns 67 = .ok (.iadd, 1) := by decide +kernel
theorem dX5_swapColumns_68 : decode cX5_swapColumns 68 = .ok (.lload 4, 2) := by decide +kernel
theorem dX5_swapColumns_70 : decode cX5_swapColumns 70 = .ok (.lastore, 1) := by decide +kernel
theorem dX5_swapColumns_71 : decode cX5_swapColumns 71 = .ok (.iinc 3 1, 3) := by decide +kernel
theorem dX5_swapColumns_74 : decode cX5_swapColumns 74 = .ok (.goto (-72), 3) := by decide +kernel
theorem dX5_swapColumns_77 : decode cX5_swapColumns 77 = .ok (.return_, 1) := by decide +kernel
theorem dX5_remainder_0 : decode cX5_remainder 0 = .ok (.aload_n 0, 1) := by decide +kernel
theorem dX5_remainder_1 : decode cX5_remainder 1 = .ok (.getfield 50, 3) := by decide +kernel
theorem dX5_remainder_4 : decode cX5_remainder 4 = .ok (.lconst 0, 1) := by decide +kernel
theorem dX5_remainder_5 : decode cX5_remainder 5 = .ok (.lcmp, 1) := by decide +kernel
theorem dX5_remainder_6 : decode cX5_remainder 6 = .ok (.ifCond .gt 5, 3) := by decide +kernel
theorem dX5_remainder_9 : decode cX5_remainder 9 = .ok (.lload_n 1, 1) := by decide +kernel
theorem dX5_remainder_10 : decode cX5_remainder 10 = .ok (.lreturn, 1) := by decide +kernel
theorem dX5_remainder_11 : decode cX5_remainder 11 = .ok (.lload_n 1, 1) := by decide +kernel
theorem dX5_remainder_12 : decode cX5_remainder 12 = .ok (.aload_n 0, 1) := by decide +kernel
theorem dX5_remainder_13 : decode cX5_remainder 13 = .ok (.getfield 50, 3) := by decide +kernel
theorem dX5_remainder_16 : decode cX5_remainder 16 = .ok (.invokestatic 94, 3) := by decide +kernel
theorem dX5_remainder_19 : decode cX5_remainder 19 = .ok (.lstore_n 3, 1) := by decide +kernel
theorem dX5_remainder_20 : decode cX5_remainder 20 = .ok (.ldc2_w 97, 3) := by decide +kernel
theorem dX5_remainder_23 : decode cX5_remainder 23 = .ok (.lload_n 3, 1) := by decide +kernel
theorem dX5_remainder_24 : decode cX5_remainder 24 = .ok (.lmul, 1) := by decide +kernel
theorem dX5_remainder_25 : decode cX5_remainder 25 = .ok (.aload_n 0, 1) := by decide +kernel
theorem dX5_remainder_26 : decode cX5_remainder 26 = .ok (.getfield 50, 3) := by decide +kernel
theorem dX5_remainder_29 : decode cX5_remainder 29 = .ok (.lcmp, 1) := by decide +kernel
theorem dX5_remainder_30 : decode cX5_remainder 30 = .ok (.ifCond .le 12, 3) := by decide +kernel
theorem dX5_remainder_33 : decode cX5_remainder 33 = .ok (.lload_n 3, 1) := by decide +kernel
theorem dX5_remainder_34 : decode cX5_remainder 34 = .ok (.aload_n 0, 1) := by decide +kernel
theorem dX5_remainder_35 : decode cX5_remainder 35 = .ok (.getfield 50, 3) := by decide +kernel
theorem dX5_remainder_38 : decode cX5_remainder 38 = .ok (.lsub, 1) := by decide +kernel
theorem dX5_remainder_39 : decode cX5_remainder 39 = .ok (.goto 4, 3) := by decide +kernel
theorem dX5_remainder_42 : decode cX5_remainder 42 = .ok (.lload_n 3, 1) := by decide +kernel
theorem dX5_remainder_43 : decode cX5_remainder 43 = .ok (.lreturn, 1) := by decide +kernel
theorem dX5_nearest_0 : decode cX5_nearest 0 = .ok (.lload_n 2, 1) := by decide +kernel
theorem dX5_nearest_1 : decode cX5_nearest 1 = .ok (.lconst 0, 1) := by decide +kernel
theorem dX5_nearest_2 : decode cX5_nearest 2 = .ok (.lcmp, 1) := by decide +kernel
theorem dX5_nearest_3 : decode cX5_nearest 3 = .ok (.ifCond .ne 5, 3) := by decide +kernel
theorem dX5_nearest_6 : decode cX5_nearest 6 = .ok (.lconst 0, 1) := by decide +kernel
theorem dX5_nearest_7 : decode cX5_nearest 7 = .ok (.lreturn, 1) := by decide +kernel
theorem dX5_nearest_8 : decode cX5_nearest 8 = .ok (.lload_n 2, 1) := by decide +kernel
theorem dX5_nearest_9 : decode cX5_nearest 9 = .ok (.invokestatic 88, 3) := by decide +kernel
theorem dX5_nearest_12 : decode cX5_nearest 12 = .ok (.lstore 4, 2) := by decide +kernel
theorem dX5_nearest_14 : decode cX5_nearest 14 = .ok (.ldc2_w 97, 3) := by decide +kernel
theorem dX5_nearest_17 : decode cX5_nearest 17 = .ok (.lload_n 0, 1) := by decide +kernel
theorem dX5_nearest_18 : decode cX5_nearest 18 = .ok (.lmul, 1) := by decide +kernel
theorem dX5_nearest_19 : decode cX5_nearest 19 = .ok (.lload 4, 2) := by decide +kernel
theorem dX5_nearest_21 : decode cX5_nearest 21 = .ok (.ladd, 1) := by decide +kernel
theorem dX5_nearest_22 : decode cX5_nearest 22 = .ok (.ldc2_w 97, 3) := by decide +kernel
theorem dX5_nearest_25 : decode cX5_nearest 25 = .ok (.lload 4, 2) := by decide +kernel
theorem dX5_nearest_27 : decode cX5_nearest 27 = .ok (.lmul, 1) := by decide +kernel
theorem dX5_nearest_28 : decode cX5_nearest 28 = .ok (.invokestatic 99, 3) := by decide +kernel
theorem dX5_nearest_31 : decode cX5_nearest 31 = .ok (.lstore 6, 2) := by decide +kernel
theorem dX5_nearest_33 : decode cX5_nearest 33 = .ok (.lload_n 2, 1) := by decide +kernel
theorem dX5_nearest_34 : decode cX5_nearest 34 = .ok (.lconst 0, 1) := by decide +kernel
theorem dX5_nearest_35 : decode cX5_nearest 35 = .ok (.lcmp, 1) := by decide +kernel
theorem dX5_nearest_36 : decode cX5_nearest 36 = .ok (.ifCond .ge 9, 3) := by decide +kernel
theorem dX5_nearest_39 : decode cX5_nearest 39 = .ok (.lload 6, 2) := by decide +kernel
theorem dX5_nearest_41 : decode cX5_nearest 41 = .ok (.lneg, 1) := by decide +kernel
theorem dX5_nearest_42 : decode cX5_nearest 42 = .ok (.goto 5, 3) := by decide +kernel
theorem dX5_nearest_45 : decode cX5_nearest 45 = .ok (.lload 6, 2) := by decide +kernel
theorem dX5_nearest_47 : decode cX5_nearest 47 = .ok (.lreturn, 1) := by decide +kernel
theorem dX5_gcd_0 : decode cX5_gcd 0 = .ok (.lload_n 0, 1) := by decide +kernel
theorem dX5_gcd_1 : decode cX5_gcd 1 = .ok (.invokestatic 88, 3) := by decide +kernel
theorem dX5_gcd_4 : decode cX5_gcd 4 = .ok (.lstore 4, 2) := by decide +kernel
theorem dX5_gcd_6 : decode cX5_gcd 6 = .ok (.lload_n 2, 1) := by decide +kernel
theorem dX5_gcd_7 : decode cX5_gcd 7 = .ok (.invokestatic 88, 3) := by decide +kernel
theorem dX5_gcd_10 : decode cX5_gcd 10 = .ok (.lstore 6, 2) := by decide +kernel
theorem dX5_gcd_12 : decode cX5_gcd 12 = .ok (.iconst 0, 1) := by decide +kernel
theorem dX5_gcd_13 : decode cX5_gcd 13 = .ok (.istore 8, 2) := by decide +kernel
theorem dX5_gcd_15 : decode cX5_gcd 15 = .ok (.iload 8, 2) := by decide +kernel
theorem dX5_gcd_17 : decode cX5_gcd 17 = .ok (.sipush 1000, 3) := by decide +kernel
theorem dX5_gcd_20 : decode cX5_gcd 20 = .ok (.if_icmp .ge 31, 3) := by decide +kernel
theorem dX5_gcd_23 : decode cX5_gcd 23 = .ok (.lload 6, 2) := by decide +kernel
theorem dX5_gcd_25 : decode cX5_gcd 25 = .ok (.lconst 0, 1) := by decide +kernel
theorem dX5_gcd_26 : decode cX5_gcd 26 = .ok (.lcmp, 1) := by decide +kernel
theorem dX5_gcd_27 : decode cX5_gcd 27 = .ok (.ifCond .eq 24, 3) := by decide +kernel
theorem dX5_gcd_30 : decode cX5_gcd 30 = .ok (.lload 4, 2) := by decide +kernel
theorem dX5_gcd_32 : decode cX5_gcd 32 = .ok (.lload 6, 2) := by decide +kernel
theorem dX5_gcd_34 : decode cX5_gcd 34 = .ok (.lrem, 1) := by decide +kernel
theorem dX5_gcd_35 : decode cX5_gcd 35 = .ok (.lstore 9, 2) := by decide +kernel
theorem dX5_gcd_37 : decode cX5_gcd 37 = .ok (.lload 6, 2) := by decide +kernel
theorem dX5_gcd_39 : decode cX5_gcd 39 = .ok (.lstore 4, 2) := by decide +kernel
theorem dX5_gcd_41 : decode cX5_gcd 41 = .ok (.lload 9, 2) := by decide +kernel
theorem dX5_gcd_43 : decode cX5_gcd 43 = .ok (.lstore 6, 2) := by decide +kernel
theorem dX5_gcd_45 : decode cX5_gcd 45 = .ok (.iinc 8 1, 3) := by decide +kernel
theorem dX5_gcd_48 : decode cX5_gcd 48 = .ok (.goto (-33), 3) := by decide +kernel
theorem dX5_gcd_51 : decode cX5_gcd 51 = .ok (.lload 4, 2) := by decide +kernel
theorem dX5_gcd_53 : decode cX5_gcd 53 = .ok (.lreturn, 1) := by decide +kernel
theorem dX6_restart_0 : decode cX6_restart 0 = .ok (.aload_n 0, 1) := by decide +kernel
theorem dX6_restart_1 : decode cX6_restart 1 = .ok (.getfield 9, 3) := by decide +kernel
theorem dX6_restart_4 : decode cX6_restart 4 = .ok (.iconst (-1), 1) := by decide +kernel
theorem dX6_restart_5 : decode cX6_restart 5 = .ok (.invokestatic 19, 3) := by decide +kernel
theorem dX6_restart_8 : decode cX6_restart 8 = .ok (.aload_n 0, 1) := by decide +kernel
theorem dX6_restart_9 : decode cX6_restart 9 = .ok (.lload_n 1, 1) := by decide +kernel
theorem dX6_restart_10 : decode cX6_restart 10 = .ok (.putfield 25, 3) := by decide +kernel
theorem dX6_restart_13 : decode cX6_restart 13 = .ok (.aload_n 0, 1) := by decide +kernel
theorem dX6_restart_14 : decode cX6_restart 14 = .ok (.lconst 0, 1) := by decide +kernel
theorem dX6_restart_15 : decode cX6_restart 15 = .ok (.putfield 29, 3) := by decide +kernel
theorem dX6_restart_18 : decode cX6_restart 18 = .ok (.aload_n 0, 1) := by decide +kernel
theorem dX6_restart_19 : decode cX6_restart 19 = .ok (.lconst 0, 1) := by decide +kernel
theorem dX6_restart_20 : decode cX6_restart 20 = .ok (.putfield 32, 3) := by decide +kernel
theorem dX6_restart_23 : decode cX6_restart 23 = .ok (.aload_n 0, 1) := by decide +kernel
theorem dX6_restart_24 : decode cX6_restart 24 = .ok (.dup, 1) := by decide +kernel
theorem dX6_restart_25 : decode cX6_restart 25 = .ok (.getfield 35, 3) := by decide +kernel
theorem dX6_restart_28 : decode cX6_restart 28 = .ok (.iconst 1, 1) := by decide +kernel
theorem dX6_restart_29 : decode cX6_restart 29 = .ok (.iadd, 1) := by decide +kernel
theorem dX6_restart_30 : decode cX6_restart 30 = .ok (.putfield 35, 3) := by decide +kernel
theorem dX6_restart_33 : decode cX6_restart 33 = .ok (.return_, 1) := by decide +kernel
theorem dX6_unite_0 : decode cX6_unite 0 = .ok (.aload_n 0, 1) := by decide +kernel
theorem dX6_unite_1 : decode cX6_unite 1 = .ok (.getfield 9, 3) := by decide +kernel
theorem dX6_unite_4 : decode cX6_unite 4 = .ok (.iload_n 1, 1) := by decide +kernel
theorem dX6_unite_5 : decode cX6_unite 5 = .ok (.iload_n 2, 1) := by decide +kernel
theorem dX6_unite_6 : decode cX6_unite 6 = .ok (.iastore, 1) := by decide +kernel
theorem dX6_unite_7 : decode cX6_unite 7 = .ok (.aload_n 0, 1) := by decide +kernel
theorem dX6_unite_8 : decode cX6_unite 8 = .ok (.getfield 9, 3) := by decide +kernel
theorem dX6_unite_11 : decode cX6_unite 11 = .ok (.iload_n 2, 1) := by decide +kernel
theorem dX6_unite_12 : decode cX6_unite 12 = .ok (.iload_n 1, 1) := by decide +kernel
theorem dX6_unite_13 : decode cX6_unite 13 = .ok (.iastore, 1) := by decide +kernel
theorem dX6_unite_14 : decode cX6_unite 14 = .ok (.aload_n 0, 1) := by decide +kernel
theorem dX6_unite_15 : decode cX6_unite 15 = .ok (.dup, 1) := by decide +kernel
theorem dX6_unite_16 : decode cX6_unite 16 = .ok (.getfield 29, 3) := by decide +kernel
theorem dX6_unite_19 : decode cX6_unite 19 = .ok (.iload_n 1, 1) := by decide +kernel
theorem dX6_unite_20 : decode cX6_unite 20 = .ok (.invokestatic 39, 3) := by decide +kernel
theorem dX6_unite_23 : decode cX6_unite 23 = .ok (.lor, 1) := by decide +kernel
theorem dX6_unite_24 : decode cX6_unite 24 = .ok (.putfield 29, 3) := by decide +kernel
theorem dX6_unite_27 : decode cX6_unite 27 = .ok (.aload_n 0, 1) := by decide +kernel
theorem dX6_unite_28 : decode cX6_unite 28 = .ok (.dup, 1) := by decide +kernel
theorem dX6_unite_29 : decode cX6_unite 29 = .ok (.getfield 32, 3) := by decide +kernel
theorem dX6_unite_32 : decode cX6_unite 32 = .ok (.iload_n 2, 1) := by decide +kernel
theorem dX6_unite_33 : decode cX6_unite 33 = .ok (.invokestatic 39, 3) := by decide +kernel
theorem dX6_unite_36 : decode cX6_unite 36 = .ok (.lor, 1) := by decide +kernel
theorem dX6_unite_37 : decode cX6_unite 37 = .ok (.putfield 32, 3) := by decide +kernel
theorem dX6_unite_40 : decode cX6_unite 40 = .ok (.aload_n 0, 1) := by decide +kernel
theorem dX6_unite_41 : decode cX6_unite 41 = .ok (.dup, 1) := by decide +kernel
theorem dX6_unite_42 : decode cX6_unite 42 = .ok (.getfield 35, 3) := by decide +kernel
theorem dX6_unite_45 : decode cX6_unite 45 = .ok (.iconst 1, 1) := by decide +kernel
theorem dX6_unite_46 : decode cX6_unite 46 = .ok (.iadd, 1) := by decide +kernel
theorem dX6_unite_47 : decode cX6_unite 47 = .ok (.putfield 35, 3) := by decide +kernel
theorem dX6_unite_50 : decode cX6_unite 50 = .ok (.return_, 1) := by decide +kernel
theorem dX6_divide_0 : decode cX6_divide 0 = .ok (.aload_n 0, 1) := by decide +kernel
theorem dX6_divide_1 : decode cX6_divide 1 = .ok (.getfield 9, 3) := by decide +kernel
theorem dX6_divide_4 : decode cX6_divide 4 = .ok (.iload_n 1, 1) := by decide +kernel
theorem dX6_divide_5 : decode cX6_divide 5 = .ok (.iaload, 1) := by decide +kernel
theorem dX6_divide_6 : decode cX6_divide 6 = .ok (.istore_n 2, 1) := by decide +kernel
theorem dX6_divide_7 : decode cX6_divide 7 = .ok (.iload_n 2, 1) := by decide +kernel
theorem dX6_divide_8 : decode cX6_divide 8 = .ok (.iconst (-1), 1) := by decide +kernel
theorem dX6_divide_9 : decode cX6_divide 9 = .ok (.if_icmp .ne 4, 3) := by decide +kernel
theorem dX6_divide_12 : decode cX6_divide 12 = .ok (.return_, 1) := by decide +kernel
theorem dX6_divide_13 : decode cX6_divide 13 = .ok (.aload_n 0, 1) := by decide +kernel
theorem dX6_divide_14 : decode cX6_divide 14 = .ok (.getfield 9, 3) := by decide +kernel
theorem dX6_divide_17 : decode cX6_divide 17 = .ok (.iload_n 1, 1) := by decide +kernel
theorem dX6_divide_18 : decode cX6_divide 18 = .ok (.iconst (-1), 1) := by decide +kernel
theorem dX6_divide_19 : decode cX6_divide 19 = .ok (.iastore, 1) := by decide +kernel
theorem dX6_divide_20 : decode cX6_divide 20 = .ok (.aload_n 0, 1) := by decide +kernel
theorem dX6_divide_21 : decode cX6_divide 21 = .ok (.getfield 9, 3) := by decide +kernel
theorem dX6_divide_24 : decode cX6_divide 24 = .ok (.iload_n 2, 1) := by decide +kernel
theorem dX6_divide_25 : decode cX6_divide 25 = .ok (.iconst (-1), 1) := by decide +kernel
theorem dX6_divide_26 : decode cX6_divide 26 = .ok (.iastore, 1) := by decide +kernel
theorem dX6_divide_27 : decode cX6_divide 27 = .ok (.iload_n 1, 1) := by decide +kernel
theorem dX6_divide_28 : decode cX6_divide 28 = .ok (.invokestatic 39, 3) := by decide +kernel
theorem dX6_divide_31 : decode cX6_divide 31 = .ok (.iload_n 2, 1) := by decide +kernel
theorem dX6_divide_32 : decode cX6_divide 32 = .ok (.invokestatic 39, 3) := by decide +kernel
theorem dX6_divide_35 : decode cX6_divide 35 = .ok (.lor, 1) := by decide +kernel
theorem dX6_divide_36 : decode cX6_divide 36 = .ok (.ldc2_w 43, 3) := by decide +kernel
theorem dX6_divide_39 : decode cX6_divide 39 = .ok (.lxor, 1) := by decide +kernel
theorem dX6_divide_40 : decode cX6_divide 40 = .ok (.lstore_n 3, 1) := by decide +kernel
theorem dX6_divide_41 : decode cX6_divide 41 = .ok (.aload_n 0, 1) := by decide +kernel
theorem dX6_divide_42 : decode cX6_divide 42 = .ok (.dup, 1) := by decide +kernel
theorem dX6_divide_43 : decode cX6_divide 43 = .ok (.getfield 29, 3) := by decide +kernel
theorem dX6_divide_46 : decode cX6_divide 46 = .ok (.lload_n 3, 1) := by decide +kernel
theorem dX6_divide_47 : decode cX6_divide 47 = .ok (.land, 1) := by decide +kernel
theorem dX6_divide_48 : decode cX6_divide 48 = .ok (.putfield 29, 3) := by decide +kernel
theorem dX6_divide_51 : decode cX6_divide 51 = .ok (.aload_n 0, 1) := by decide +kernel
theorem dX6_divide_52 : decode cX6_divide 52 = .ok (.dup, 1) := by decide +kernel
theorem dX6_divide_53 : decode cX6_divide 53 = .ok (.getfield 32, 3) := by decide +kernel
theorem dX6_divide_56 : decode cX6_divide 56 = .ok (.lload_n 3, 1) := by decide +kernel
theorem dX6_divide_57 : decode cX6_divide 57 = .ok (.land, 1) := by decide +kernel
theorem dX6_divide_58 : decode cX6_divide 58 = .ok (.putfield 32, 3) := by decide +kernel
theorem dX6_divide_61 : decode cX6_divide 61 = .ok (.aload_n 0, 1) := by decide +kernel
theorem dX6_divide_62 : decode cX6_divide 62 = .ok (.dup, 1) := by decide +kernel
theorem dX6_divide_63 : decode cX6_divide 63 = .ok (.getfield 35, 3) := by decide +kernel
theorem dX6_divide_66 : decode cX6_divide 66 = .ok (.iconst 1, 1) := by decide +kernel
theorem dX6_divide_67 : decode cX6_divide 67 = .ok (.iadd, 1) := by decide +kernel
theorem dX6_divide_68 : decode cX6_divide 68 = .ok (.putfield 35, 3) := by decide +kernel
theorem dX6_divide_71 : decode cX6_divide 71 = .ok (.return_, 1) := by decide +kernel
theorem dX6_drop_0 : decode cX6_drop 0 = .ok (.aload_n 0, 1) := by decide +kernel
theorem dX6_drop_1 : decode cX6_drop 1 = .ok (.iload_n 1, 1) := by decide +kernel
theorem dX6_drop_2 : decode cX6_drop 2 = .ok (.invokevirtual 45, 3) := by decide +kernel
theorem dX6_drop_5 : decode cX6_drop 5 = .ok (.aload_n 0, 1) := by decide +kernel
theorem dX6_drop_6 : decode cX6_drop 6 = .ok (.dup, 1) := by decide +kernel
theorem dX6_drop_7 : decode cX6_drop 7 = .ok (.getfield 25, 3) := by decide +kernel
theorem dX6_drop_10 : decode cX6_drop 10 = .ok (.iload_n 1, 1) := by decide +kernel
theorem dX6_drop_11 : decode cX6_drop 11 = .ok (.invokestatic 39, 3) := by decide +kernel
theorem dX6_drop_14 : decode cX6_drop 14 = .ok (.ldc2_w 43, 3) := by decide +kernel
theorem dX6_drop_17 : decode cX6_drop 17 = .ok (.lxor, 1) := by decide +kernel
theorem dX6_drop_18 : decode cX6_drop 18 = .ok (.land, 1) := by decide +kernel
theorem dX6_drop_19 : decode cX6_drop 19 = .ok (.putfield 25, 3) := by decide +kernel
theorem dX6_drop_22 : decode cX6_drop 22 = .ok (.aload_n 0, 1) := by decide +kernel
theorem dX6_drop_23 : decode cX6_drop 23 = .ok (.dup, 1) := by decide +kernel
theorem dX6_drop_24 : decode cX6_drop 24 = .ok (.getfield 35, 3) := by decide +kernel
theorem dX6_drop_27 : decode cX6_drop 27 = .ok (.iconst 1, 1) := by decide +kernel
theorem dX6_drop_28 : decode cX6_drop 28 = .ok (.iadd, 1) := by decide +kernel
theorem dX6_drop_29 : decode cX6_drop 29 = .ok (.putfield 35, 3) := by decide +kernel
theorem dX6_drop_32 : decode cX6_drop 32 = .ok (.return_, 1) := by decide +kernel
theorem dX6_takeBack_0 : decode cX6_takeBack 0 = .ok (.aload_n 0, 1) := by decide +kernel
theorem dX6_takeBack_1 : decode cX6_takeBack 1 = .ok (.lload_n 3, 1) := by decide +kernel
theorem dX6_takeBack_2 : decode cX6_takeBack 2 = .ok (.invokevirtual 49, 3) := by decide +kernel
theorem dX6_takeBack_5 : decode cX6_takeBack 5 = .ok (.iconst 0, 1) := by decide +kernel
theorem dX6_takeBack_6 : decode cX6_takeBack 6 = .ok (.istore 5, 2) := by decide +kernel
theorem dX6_takeBack_8 : decode cX6_takeBack 8 = .ok (.iload 5, 2) := by decide +kernel
theorem dX6_takeBack_10 : decode cX6_takeBack 10 = .ok (.bipush 64, 2) := by decide +kernel
theorem dX6_takeBack_12 : decode cX6_takeBack 12 = .ok (.if_icmp .ge 41, 3) := by decide +kernel
theorem dX6_takeBack_15 : decode cX6_takeBack 15 = .ok (.iload_n 2, 1) := by decide +kernel
theorem dX6_takeBack_16 : decode cX6_takeBack 16 = .ok (.iload 5, 2) := by decide +kernel
theorem dX6_takeBack_18 : decode cX6_takeBack 18 = .ok (.iadd, 1) := by decide +kernel
theorem dX6_takeBack_19 : decode cX6_takeBack 19 = .ok (.aload_n 1, 1) := by decide +kernel
theorem dX6_takeBack_20 : decode cX6_takeBack 20 = .ok (.arraylength, 1) := by decide +kernel
theorem dX6_takeBack_21 : decode cX6_takeBack 21 = .ok (.if_icmp .ge 32, 3) := by decide +kernel
theorem dX6_takeBack_24 : decode cX6_takeBack 24 = .ok (.aload_n 1, 1) := by decide +kernel
theorem dX6_takeBack_25 : decode cX6_takeBack 25 = .ok (.iload_n 2, 1) := by decide +kernel
theorem dX6_takeBack_26 : decode cX6_takeBack 26 = .ok (.iload 5, 2) := by decide +kernel
theorem dX6_takeBack_28 : decode cX6_takeBack 28 = .ok (.iadd, 1) := by decide +kernel
theorem dX6_takeBack_29 : decode cX6_takeBack 29 = .ok (.iaload, 1) := by decide +kernel
theorem dX6_takeBack_30 : decode cX6_takeBack 30 = .ok (.istore 6, 2) := by decide +kernel
theorem dX6_takeBack_32 : decode cX6_takeBack 32 = .ok (.iload 6, 2) := by decide +kernel
theorem dX6_takeBack_34 : decode cX6_takeBack 34 = .ok (.iload 5, 2) := by decide +kernel
theorem dX6_takeBack_36 : decode cX6_takeBack 36 = .ok (.if_icmp .le 11, 3) := by decide +kernel
theorem dX6_takeBack_39 : decode cX6_takeBack 39 = .ok (.aload_n 0, 1) := by decide +kernel
theorem dX6_takeBack_40 : decode cX6_takeBack 40 = .ok (.iload 5, 2) := by decide +kernel
theorem dX6_takeBack_42 : decode cX6_takeBack 42 = .ok (.iload 6, 2) := by decide +kernel
theorem dX6_takeBack_44 : decode cX6_takeBack 44 = .ok (.invokevirtual 53, 3) := by decide +kernel
theorem dX6_takeBack_47 : decode cX6_takeBack 47 = .ok (.iinc 5 1, 3) := by decide +kernel
theorem dX6_takeBack_50 : decode cX6_takeBack 50 = .ok (.goto (-42), 3) := by decide +kernel
theorem dX6_takeBack_53 : decode cX6_takeBack 53 = .ok (.return_, 1) := by decide +kernel
theorem dX6_unpaired_0 : decode cX6_unpaired 0 = .ok (.aload_n 0, 1) := by decide +kernel
theorem dX6_unpaired_1 : decode cX6_unpaired 1 = .ok (.getfield 25, 3) := by decide +kernel
theorem dX6_unpaired_4 : decode cX6_unpaired 4 = .ok (.aload_n 0, 1) := by decide +kernel
theorem dX6_unpaired_5 : decode cX6_unpaired 5 = .ok (.getfield 29, 3) := by decide +kernel
theorem dX6_unpaired_8 : decode cX6_unpaired 8 = .ok (.aload_n 0, 1) := by decide +kernel
theorem dX6_unpaired_9 : decode cX6_unpaired 9 = .ok (.getfield 32, 3) := by decide +kernel
theorem dX6_unpaired_12 : decode cX6_unpaired 12 = .ok (.lor, 1) := by decide +kernel
theorem dX6_unpaired_13 : decode cX6_unpaired 13 = .ok (.ldc2_w 43, 3) := by decide +kernel
theorem dX6_unpaired_16 : decode cX6_unpaired 16 = .ok (.lxor, 1) := by decide +kernel
theorem dX6_unpaired_17 : decode cX6_unpaired 17 = .ok (.land, 1) := by decide +kernel
theorem dX6_unpaired_18 : decode cX6_unpaired 18 = .ok (.lreturn, 1) := by decide +kernel
theorem dX6_isCritical_0 : decode cX6_isCritical 0 = .ok (.aload_n 0, 1) := by decide +kernel
theorem dX6_isCritical_1 : decode cX6_isCritical 1 = .ok (.invokevirtual 57, 3) := by decide +kernel
theorem dX6_isCritical_4 : decode cX6_isCritical 4 = .ok (.iload_n 1, 1) := by decide +kernel
theorem dX6_isCritical_5 : decode cX6_isCritical 5 = .ok (.invokestatic 61, 3) := by decide +kernel
theorem dX6_isCritical_8 : decode cX6_isCritical 8 = .ok (.ireturn, 1) := by decide +kernel
theorem dX6_howMany_0 : decode cX6_howMany 0 = .ok (.aload_n 0, 1) := by decide +kernel
theorem dX6_howMany_1 : decode cX6_howMany 1 = .ok (.getfield 29, 3) := by decide +kernel
theorem dX6_howMany_4 : decode cX6_howMany 4 = .ok (.invokestatic 65, 3) := by decide +kernel
theorem dX6_howMany_7 : decode cX6_howMany 7 = .ok (.ireturn, 1) := by decide +kernel
theorem dX6_side_0 : decode cX6_side 0 = .ok (.aload_n 0, 1) := by decide +kernel
theorem dX6_side_1 : decode cX6_side 1 = .ok (.getfield 9, 3) := by decide +kernel
theorem dX6_side_4 : decode cX6_side 4 = .ok (.iload_n 1, 1) := by decide +kernel
theorem dX6_side_5 : decode cX6_side 5 = .ok (.iaload, 1) := by decide +kernel
theorem dX6_side_6 : decode cX6_side 6 = .ok (.iconst (-1), 1) := by decide +kernel
theorem dX6_side_7 : decode cX6_side 7 = .ok (.if_icmp .ne 5, 3) := by decide +kernel
theorem dX6_side_10 : decode cX6_side 10 = .ok (.iconst (-1), 1) := by decide +kernel
theorem dX6_side_11 : decode cX6_side 11 = .ok (.ireturn, 1) := by decide +kernel
theorem dX6_side_12 : decode cX6_side 12 = .ok (.aload_n 0, 1) := by decide +kernel
theorem dX6_side_13 : decode cX6_side 13 = .ok (.getfield 29, 3) := by decide +kernel
theorem dX6_side_16 : decode cX6_side 16 = .ok (.iload_n 1, 1) := by decide +kernel
theorem dX6_side_17 : decode cX6_side 17 = .ok (.invokestatic 61, 3) := by decide +kernel
theorem dX6_side_20 : decode cX6_side 20 = .ok (.ifCond .eq 7, 3) := by decide +kernel
theorem dX6_side_23 : decode cX6_side 23 = .ok (.iconst 1, 1) := by decide +kernel
theorem dX6_side_24 : decode cX6_side 24 = .ok (.goto 4, 3) := by decide +kernel
theorem dX6_side_27 : decode cX6_side 27 = .ok (.iconst 0, 1) := by decide +kernel
theorem dX6_side_28 : decode cX6_side 28 = .ok (.ireturn, 1) := by decide +kernel
theorem dX6_below_0 : decode cX6_below 0 = .ok (.aload_n 0, 1) := by decide +kernel
theorem dX6_below_1 : decode cX6_below 1 = .ok (.getfield 9, 3) := by decide +kernel
theorem dX6_below_4 : decode cX6_below 4 = .ok (.iload_n 1, 1) := by decide +kernel
theorem dX6_below_5 : decode cX6_below 5 = .ok (.iaload, 1) := by decide +kernel
theorem dX6_below_6 : decode cX6_below 6 = .ok (.iconst (-1), 1) := by decide +kernel
theorem dX6_below_7 : decode cX6_below 7 = .ok (.if_icmp .ne 15, 3) := by decide +kernel
theorem dX6_below_10 : decode cX6_below 10 = .ok (.aload_n 0, 1) := by decide +kernel
theorem dX6_below_11 : decode cX6_below 11 = .ok (.getfield 15, 3) := by decide +kernel
theorem dX6_below_14 : decode cX6_below 14 = .ok (.getfield 71, 3) := by decide +kernel
theorem dX6_below_17 : decode cX6_below 17 = .ok (.iload_n 1, 1) := by decide +kernel
theorem dX6_below_18 : decode cX6_below 18 = .ok (.laload, 1) := by decide +kernel
theorem dX6_below_19 : decode cX6_below 19 = .ok (.goto 25, 3) := by decide +kernel
theorem dX6_below_22 : decode cX6_below 22 = .ok (.aload_n 0, 1) := by decide +kernel
theorem dX6_below_23 : decode cX6_below 23 = .ok (.getfield 15, 3) := by decide +kernel
theorem dX6_below_26 : decode cX6_below 26 = .ok (.getfield 71, 3) := by decide +kernel
theorem dX6_below_29 : decode cX6_below 29 = .ok (.iload_n 1, 1) := by decide +kernel
theorem dX6_below_30 : decode cX6_below 30 = .ok (.laload, 1) := by decide +kernel
theorem dX6_below_31 : decode cX6_below 31 = .ok (.lconst 1, 1) := by decide +kernel
theorem dX6_below_32 : decode cX6_below 32 = .ok (.aload_n 0, 1) := by decide +kernel
theorem dX6_below_33 : decode cX6_below 33 = .ok (.getfield 9, 3) := by decide +kernel
theorem dX6_below_36 : decode cX6_below 36 = .ok (.iload_n 1, 1) := by decide +kernel
theorem dX6_below_37 : decode cX6_below 37 = .ok (.iaload, 1) := by decide +kernel
theorem dX6_below_38 : decode cX6_below 38 = .ok (.lshl, 1) := by decide +kernel
theorem dX6_below_39 : decode cX6_below 39 = .ok (.ldc2_w 43, 3) := by decide +kernel
theorem dX6_below_42 : decode cX6_below 42 = .ok (.lxor, 1) := by decide +kernel
theorem dX6_below_43 : decode cX6_below 43 = .ok (.land, 1) := by decide +kernel
theorem dX6_below_44 : decode cX6_below 44 = .ok (.lreturn, 1) := by decide +kernel
theorem dX6_steps_0 : decode cX6_steps 0 = .ok (.aload_n 0, 1) := by decide +kernel
theorem dX6_steps_1 : decode cX6_steps 1 = .ok (.getfield 9, 3) := by decide +kernel
theorem dX6_steps_4 : decode cX6_steps 4 = .ok (.iload_n 1, 1) := by decide +kernel
theorem dX6_steps_5 : decode cX6_steps 5 = .ok (.iaload, 1) := by decide +kernel
theorem dX6_steps_6 : decode cX6_steps 6 = .ok (.iconst (-1), 1) := by decide +kernel
theorem dX6_steps_7 : decode cX6_steps 7 = .ok (.if_icmp .ne 15, 3) := by decide +kernel
theorem dX6_steps_10 : decode cX6_steps 10 = .ok (.aload_n 0, 1) := by decide +kernel
theorem dX6_steps_11 : decode cX6_steps 11 = .ok (.getfield 15, 3) := by decide +kernel
theorem dX6_steps_14 : decode cX6_steps 14 = .ok (.getfield 71, 3) := by decide +kernel
theorem dX6_steps_17 : decode cX6_steps 17 = .ok (.iload_n 1, 1) := by decide +kernel
theorem dX6_steps_18 : decode cX6_steps 18 = .ok (.laload, 1) := by decide +kernel
theorem dX6_steps_19 : decode cX6_steps 19 = .ok (.goto 21, 3) := by decide +kernel
theorem dX6_steps_22 : decode cX6_steps 22 = .ok (.aload_n 0, 1) := by decide +kernel
theorem dX6_steps_23 : decode cX6_steps 23 = .ok (.getfield 15, 3) := by decide +kernel
theorem dX6_steps_26 : decode cX6_steps 26 = .ok (.getfield 71, 3) := by decide +kernel
theorem dX6_steps_29 : decode cX6_steps 29 = .ok (.iload_n 1, 1) := by decide +kernel
theorem dX6_steps_30 : decode cX6_steps 30 = .ok (.laload, 1) := by decide +kernel
theorem dX6_steps_31 : decode cX6_steps 31 = .ok (.lconst 1, 1) := by decide +kernel
theorem dX6_steps_32 : decode cX6_steps 32 = .ok (.aload_n 0, 1) := by decide +kernel
theorem dX6_steps_33 : decode cX6_steps 33 = .ok (.getfield 9, 3) := by decide +kernel
theorem dX6_steps_36 : decode cX6_steps 36 = .ok (.iload_n 1, 1) := by decide +kernel
theorem dX6_steps_37 : decode cX6_steps 37 = .ok (.iaload, 1) := by decide +kernel
theorem dX6_steps_38 : decode cX6_steps 38 = .ok (.lshl, 1) := by decide +kernel
theorem dX6_steps_39 : decode cX6_steps 39 = .ok (.lxor, 1) := by decide +kernel
theorem dX6_steps_40 : decode cX6_steps 40 = .ok (.lreturn, 1) := by decide +kernel
theorem dX6_staysAcyclic_0 : decode cX6_staysAcyclic 0 = .ok (.aload_n 0, 1) := by decide +kernel
theorem dX6_staysAcyclic_1 : decode cX6_staysAcyclic 1 = .ok (.getfield 15, 3) := by decide +kernel
theorem dX6_staysAcyclic_4 : decode cX6_staysAcyclic 4 = .ok (.getfield 71, 3) := by decide +kernel
theorem dX6_staysAcyclic_7 : decode cX6_staysAcyclic 7 = .ok (.iload_n 2, 1) := by decide +kernel
theorem dX6_staysAcyclic_8 : decode cX6_staysAcyclic 8 = .ok (.laload, 1) := by decide +kernel
theorem dX6_staysAcyclic_9 : decode cX6_staysAcyclic 9 = .ok (.iload_n 1, 1) := by decide +kernel
theorem dX6_staysAcyclic_10 : decode cX6_staysAcyclic 10 = .ok (.invokestatic 39, 3) := by decide +kernel
theorem dX6_staysAcyclic_13 : decode cX6_staysAcyclic 13 = .ok (.ldc2_w 43, 3) := by decide +kernel
theorem dX6_staysAcyclic_16 : decode cX6_staysAcyclic 16 = .ok (.lxor, 1) := by decide +kernel
theorem dX6_staysAcyclic_17 : decode cX6_staysAcyclic 17 = .ok (.land, 1) := by decide +kernel
theorem dX6_staysAcyclic_18 : decode cX6_staysAcyclic 18 = .ok (.lstore_n 3, 1) := by decide +kernel
theorem dX6_staysAcyclic_19 : decode cX6_staysAcyclic 19 = .ok (.lload_n 3, 1) := by decide +kernel
theorem dX6_staysAcyclic_20 : decode cX6_staysAcyclic 20 = .ok (.aload_n 0, 1) := by decide +kernel
theorem dX6_staysAcyclic_21 : decode cX6_staysAcyclic 21 = .ok (.getfield 29, 3) := by decide +kernel
theorem dX6_staysAcyclic_24 : decode cX6_staysAcyclic 24 = .ok (.land, 1) := by decide +kernel
theorem dX6_staysAcyclic_25 : decode cX6_staysAcyclic 25 = .ok (.lstore 5, 2) := by decide +kernel
theorem dX6_staysAcyclic_27 : decode cX6_staysAcyclic 27 = .ok (.iconst 0, 1) := by decide +kernel
theorem dX6_staysAcyclic_28 : decode cX6_staysAcyclic 28 = .ok (.istore 7, 2) := by decide +kernel
theorem dX6_staysAcyclic_30 : decode cX6_staysAcyclic 30 = .ok (.iload 7, 2) := by decide +kernel
theorem dX6_staysAcyclic_32 : decode cX6_staysAcyclic 32 = .ok (.bipush 60, 2) := by decide +kernel
theorem dX6_staysAcyclic_34 : decode cX6_staysAcyclic 34 = .ok (.if_icmp .ge 88, 3) := by decide +kernel
theorem dX6_staysAcyclic_37 : decode cX6_staysAcyclic 37 = .ok (.lload 5, 2) := by decide +kernel
theorem dX6_staysAcyclic_39 : decode cX6_staysAcyclic 39 = .ok (.lconst 0, 1) := by decide +kernel
theorem dX6_staysAcyclic_40 : decode cX6_staysAcyclic 40 = .ok (.lcmp, 1) := by decide +kernel
theorem dX6_staysAcyclic_41 : decode cX6_staysAcyclic 41 = .ok (.ifCond .eq 81, 3) := by decide +kernel
theorem dX6_staysAcyclic_44 : decode cX6_staysAcyclic 44 = .ok (.lload 5, 2) := by decide +kernel
theorem dX6_staysAcyclic_46 : decode cX6_staysAcyclic 46 = .ok (.invokestatic 77, 3) := by decide +kernel
theorem dX6_staysAcyclic_49 : decode cX6_staysAcyclic 49 = .ok (.istore 8, 2) := by decide +kernel
theorem dX6_staysAcyclic_51 : decode cX6_staysAcyclic 51 = .ok (.lload 5, 2) := by decide +kernel
theorem dX6_staysAcyclic_53 : decode cX6_staysAcyclic 53 = .ok (.iload 8, 2) := by decide +kernel
theorem dX6_staysAcyclic_55 : decode cX6_staysAcyclic 55 = .ok (.invokestatic 39, 3) := by decide +kernel
theorem dX6_staysAcyclic_58 : decode cX6_staysAcyclic 58 = .ok (.ldc2_w 43, 3) := by decide +kernel
theorem dX6_staysAcyclic_61 : decode cX6_staysAcyclic 61 = .ok (.lxor, 1) := by decide +kernel
theorem dX6_staysAcyclic_62 : decode cX6_staysAcyclic 62 = .ok (.land, 1) := by decide +kernel
theorem dX6_staysAcyclic_63 : decode cX6_staysAcyclic 63 = .ok (.lstore 5, 2) := by decide +kernel
theorem dX6_staysAcyclic_65 : decode cX6_staysAcyclic 65 = .ok (.aload_n 0, 1) := by decide +kernel
theorem dX6_staysAcyclic_66 : decode cX6_staysAcyclic 66 = .ok (.getfield 9, 3) := by decide +kernel
theorem dX6_staysAcyclic_69 : decode cX6_staysAcyclic 69 = .ok (.iload 8, 2) := by decide +kernel
theorem dX6_staysAcyclic_71 : decode cX6_staysAcyclic 71 = .ok (.iaload, 1) := by decide +kernel
theorem dX6_staysAcyclic_72 : decode cX6_staysAcyclic 72 = .ok (.iconst (-1), 1) := by decide +kernel
theorem dX6_staysAcyclic_73 : decode cX6_staysAcyclic 73 = .ok (.if_icmp .eq 43, 3) := by decide +kernel
theorem dX6_staysAcyclic_76 : decode cX6_staysAcyclic 76 = .ok (.aload_n 0, 1) := by decide +kernel
theorem dX6_staysAcyclic_77 : decode cX6_staysAcyclic 77 = .ok (.getfield 15, 3) := by decide +kernel
theorem dX6_staysAcyclic_80 : decode cX6_staysAcyclic 80 = .ok (.getfield 71, 3) := by decide +kernel
theorem dX6_staysAcyclic_83 : decode cX6_staysAcyclic 83 = .ok (.aload_n 0, 1) := by decide +kernel
theorem dX6_staysAcyclic_84 : decode cX6_staysAcyclic 84 = .ok (.getfield 9, 3) := by decide +kernel
theorem dX6_staysAcyclic_87 : decode cX6_staysAcyclic 87 = .ok (.iload 8, 2) := by decide +kernel
theorem dX6_staysAcyclic_89 : decode cX6_staysAcyclic 89 = .ok (.iaload, 1) := by decide +kernel
theorem dX6_staysAcyclic_90 : decode cX6_staysAcyclic 90 = .ok (.laload, 1) := by decide +kernel
theorem dX6_staysAcyclic_91 : decode cX6_staysAcyclic 91 = .ok (.lload_n 3, 1) := by decide +kernel
theorem dX6_staysAcyclic_92 : decode cX6_staysAcyclic 92 = .ok (.ldc2_w 43, 3) := by decide +kernel
theorem dX6_staysAcyclic_95 : decode cX6_staysAcyclic 95 = .ok (.lxor, 1) := by decide +kernel
theorem dX6_staysAcyclic_96 : decode cX6_staysAcyclic 96 = .ok (.land, 1) := by decide +kernel
theorem dX6_staysAcyclic_97 : decode cX6_staysAcyclic 97 = .ok (.lstore 9, 2) := by decide +kernel
theorem dX6_staysAcyclic_99 : decode cX6_staysAcyclic 99 = .ok (.lload_n 3, 1) := by decide +kernel
theorem dX6_staysAcyclic_100 : decode cX6_staysAcyclic 100 = .ok (.lload 9, 2) := by decide +kernel
theorem dX6_staysAcyclic_102 : decode cX6_staysAcyclic 102 = .ok (.lor, 1) := by decide +kernel
theorem dX6_staysAcyclic_103 : decode cX6_staysAcyclic 103 = .ok (.lstore_n 3, 1) := by decide +kernel
theorem dX6_staysAcyclic_104 : decode cX6_staysAcyclic 104 = .ok (.lload 5, 2) := by decide +kernel
theorem dX6_staysAcyclic_106 : decode cX6_staysAcyclic 106 = .ok (.lload 9, 2) := by decide +kernel
theorem dX6_staysAcyclic_108 : decode cX6_staysAcyclic 108 = .ok (.aload_n 0, 1) := by decide +kernel
theorem dX6_staysAcyclic_109 : decode cX6_staysAcyclic 109 = .ok (.getfield 29, 3) := by decide +kernel
theorem dX6_staysAcyclic_112 : decode cX6_staysAcyclic 112 = .ok (.land, 1) := by decide +kernel
theorem dX6_staysAcyclic_113 : decode cX6_staysAcyclic 113 = .ok (.lor, 1) := by decide +kernel
theorem dX6_staysAcyclic_114 : decode cX6_staysAcyclic 114 = .ok (.lstore 5, 2) := by decide +kernel
theorem dX6_staysAcyclic_116 : decode cX6_staysAcyclic 116 = .ok (.iinc 7 1, 3) := by decide +kernel
theorem dX6_staysAcyclic_119 : decode cX6_staysAcyclic 119 = .ok (.goto (-89), 3) := by decide +kernel
theorem dX6_staysAcyclic_122 : decode cX6_staysAcyclic 122 = .ok (.lload_n 3, 1) := by decide +kernel
theorem dX6_staysAcyclic_123 : decode cX6_staysAcyclic 123 = .ok (.iload_n 1, 1) := by decide +kernel
theorem dX6_staysAcyclic_124 : decode cX6_staysAcyclic 124 = .ok (.invokestatic 61, 3) := by decide +kernel
theorem dX6_staysAcyclic_127 : decode cX6_staysAcyclic 127 = .ok (.ifCond .ne 7, 3) := by decide +kernel
theorem dX6_staysAcyclic_130 : decode cX6_staysAcyclic 130 = .ok (.iconst 1, 1) := by decide +kernel
theorem dX6_staysAcyclic_131 : decode cX6_staysAcyclic 131 = .ok (.goto 4, 3) := by decide +kernel
theorem dX6_staysAcyclic_134 : decode cX6_staysAcyclic 134 = .ok (.iconst 0, 1) := by decide +kernel
theorem dX6_staysAcyclic_135 : decode cX6_staysAcyclic 135 = .ok (.ireturn, 1) := by decide +kernel
theorem dX7_begin_0 : decode cX7_begin 0 = .ok (.aload_n 0, 1) := by decide +kernel
theorem dX7_begin_1 : decode cX7_begin 1 = .ok (.lload_n 1, 1) := by decide +kernel
theorem dX7_begin_2 : decode cX7_begin 2 = .ok (.putfield 15, 3) := by decide +kernel
theorem dX7_begin_5 : decode cX7_begin 5 = .ok (.aload_n 0, 1) := by decide +kernel
theorem dX7_begin_6 : decode cX7_begin 6 = .ok (.lconst 0, 1) := by decide +kernel
theorem dX7_begin_7 : decode cX7_begin 7 = .ok (.putfield 19, 3) := by decide +kernel
theorem dX7_begin_10 : decode cX7_begin 10 = .ok (.aload_n 0, 1) := by decide +kernel
theorem dX7_begin_11 : decode cX7_begin 11 = .ok (.lload_n 1, 1) := by decide +kernel
theorem dX7_begin_12 : decode cX7_begin 12 = .ok (.invokevirtual 22, 3) := by decide +kernel
theorem dX7_begin_15 : decode cX7_begin 15 = .ok (.return_, 1) := by decide +kernel
theorem dX7_close_0 : decode cX7_close 0 = .ok (.aload_n 0, 1) := by decide +kernel
theorem dX7_close_1 : decode cX7_close 1 = .ok (.dup, 1) := by decide +kernel
theorem dX7_close_2 : decode cX7_close 2 = .ok (.getfield 15, 3) := by decide +kernel
theorem dX7_close_5 : decode cX7_close 5 = .ok (.iload_n 1, 1) := by decide +kernel
theorem dX7_close_6 : decode cX7_close 6 = .ok (.invokestatic 26, 3) := by decide +kernel
theorem dX7_close_9 : decode cX7_close 9 = .ok (.ldc2_w 30, 3) := by decide +kernel
theorem dX7_close_12 : decode cX7_close 12 = .ok (.lxor, 1) := by decide +kernel
theorem dX7_close_13 : decode cX7_close 13 = .ok (.land, 1) := by decide +kernel
theorem dX7_close_14 : decode cX7_close 14 = .ok (.putfield 15, 3) := by decide +kernel
theorem dX7_close_17 : decode cX7_close 17 = .ok (.aload_n 0, 1) := by decide +kernel
theorem dX7_close_18 : decode cX7_close 18 = .ok (.dup, 1) := by decide +kernel
theorem dX7_close_19 : decode cX7_close 19 = .ok (.getfield 19, 3) := by decide +kernel
theorem dX7_close_22 : decode cX7_close 22 = .ok (.iload_n 1, 1) := by decide +kernel
theorem dX7_close_23 : decode cX7_close 23 = .ok (.invokestatic 26, 3) := by decide +kernel
theorem dX7_close_26 : decode cX7_close 26 = .ok (.ldc2_w 30, 3) := by decide +kernel
theorem dX7_close_29 : decode cX7_close 29 = .ok (.lxor, 1) := by decide +kernel
theorem dX7_close_30 : decode cX7_close 30 = .ok (.land, 1) := by decide +kernel
theorem dX7_close_31 : decode cX7_close 31 = .ok (.putfield 19, 3) := by decide +kernel
theorem dX7_close_34 : decode cX7_close 34 = .ok (.aload_n 0, 1) := by decide +kernel
theorem dX7_close_35 : decode cX7_close 35 = .ok (.aload_n 0, 1) := by decide +kernel
theorem dX7_close_36 : decode cX7_close 36 = .ok (.getfield 9, 3) := by decide +kernel
theorem dX7_close_39 : decode cX7_close 39 = .ok (.getfield 32, 3) := by decide +kernel
theorem dX7_close_42 : decode cX7_close 42 = .ok (.iload_n 1, 1) := by decide +kernel
theorem dX7_close_43 : decode cX7_close 43 = .ok (.laload, 1) := by decide +kernel
theorem dX7_close_44 : decode cX7_close 44 = .ok (.aload_n 0, 1) := by decide +kernel
theorem dX7_close_45 : decode cX7_close 45 = .ok (.getfield 15, 3) := by decide +kernel
theorem dX7_close_48 : decode cX7_close 48 = .ok (.land, 1) := by decide +kernel
theorem dX7_close_49 : decode cX7_close 49 = .ok (.invokevirtual 22, 3) := by decide +kernel
theorem dX7_close_52 : decode cX7_close 52 = .ok (.return_, 1) := by decide +kernel
theorem dX7_above_0 : decode cX7_above 0 = .ok (.aload_n 0, 1) := by decide +kernel
theorem dX7_above_1 : decode cX7_above 1 = .ok (.getfield 9, 3) := by decide +kernel
theorem dX7_above_4 : decode cX7_above 4 = .ok (.getfield 38, 3) := by decide +kernel
theorem dX7_above_7 : decode cX7_above 7 = .ok (.iload_n 1, 1) := by decide +kernel
theorem dX7_above_8 : decode cX7_above 8 = .ok (.laload, 1) := by decide +kernel
theorem dX7_above_9 : decode cX7_above 9 = .ok (.aload_n 0, 1) := by decide +kernel
theorem dX7_above_10 : decode cX7_above 10 = .ok (.getfield 15, 3) := by decide +kernel
theorem dX7_above_13 : decode cX7_above 13 = .ok (.land, 1) := by decide +kernel
theorem dX7_above_14 : decode cX7_above 14 = .ok (.invokestatic 41, 3) := by decide +kernel
theorem dX7_above_17 : decode cX7_above 17 = .ok (.ireturn, 1) := by decide +kernel
theorem dX7_greatest_0 : decode cX7_greatest 0 = .ok (.aload_n 0, 1) := by decide +kernel
theorem dX7_greatest_1 : decode cX7_greatest 1 = .ok (.getfield 9, 3) := by decide +kernel
theorem dX7_greatest_4 : decode cX7_greatest 4 = .ok (.aload_n 0, 1) := by decide +kernel
theorem dX7_greatest_5 : decode cX7_greatest 5 = .ok (.getfield 15, 3) := by decide +kernel
theorem dX7_greatest_8 : decode cX7_greatest 8 = .ok (.invokevirtual 45, 3) := by decide +kernel
theorem dX7_greatest_11 : decode cX7_greatest 11 = .ok (.istore_n 1, 1) := by decide +kernel
theorem dX7_greatest_12 : decode cX7_greatest 12 = .ok (.iload_n 1, 1) := by decide +kernel
theorem dX7_greatest_13 : decode cX7_greatest 13 = .ok (.invokestatic 48, 3) := by decide +kernel
theorem dX7_greatest_16 : decode cX7_greatest 16 = .ok (.ifCond .eq 20, 3) := by decide +kernel
theorem dX7_greatest_19 : decode cX7_greatest 19 = .ok (.aload_n 0, 1) := by decide +kernel
theorem dX7_greatest_20 : decode cX7_greatest 20 = .ok (.getfield 15, 3) := by decide +kernel
theorem dX7_greatest_23 : decode cX7_greatest 23 = .ok (.aload_n 0, 1) := by decide +kernel
theorem dX7_greatest_24 : decode cX7_greatest 24 = .ok (.getfield 9, 3) := by decide +kernel
theorem dX7_greatest_27 : decode cX7_greatest 27 = .ok (.getfield 52, 3) := by decide +kernel
theorem dX7_greatest_30 : decode cX7_greatest 30 = .ok (.iload_n 1, 1) := by decide +kernel
theorem dX7_greatest_31 : decode cX7_greatest 31 = .ok (.laload, 1) := by decide +kernel
theorem dX7_greatest_32 : decode cX7_greatest 32 = .ok (.land, 1) := by decide +kernel
theorem dX7_greatest_33 : decode cX7_greatest 33 = .ok (.goto 4, 3) := by decide +kernel
theorem dX7_greatest_36 : decode cX7_greatest 36 = .ok (.lconst 0, 1) := by decide +kernel
theorem dX7_greatest_37 : decode cX7_greatest 37 = .ok (.lreturn, 1) := by decide +kernel
theorem dX7_lookAgain_0 : decode cX7_lookAgain 0 = .ok (.lload_n 1, 1) := by decide +kernel
theorem dX7_lookAgain_1 : decode cX7_lookAgain 1 = .ok (.lstore_n 3, 1) := by decide +kernel
theorem dX7_lookAgain_2 : decode cX7_lookAgain 2 = .ok (.iconst 0, 1) := by decide +kernel
theorem dX7_lookAgain_3 : decode cX7_lookAgain 3 = .ok (.istore 5, 2) := by decide +kernel
theorem dX7_lookAgain_5 : decode cX7_lookAgain 5 = .ok (.iload 5, 2) := by decide +kernel
theorem dX7_lookAgain_7 : decode cX7_lookAgain 7 = .ok (.bipush 60, 2) := by decide +kernel
theorem dX7_lookAgain_9 : decode cX7_lookAgain 9 = .ok (.if_icmp .ge 84, 3) := by decide +kernel
theorem dX7_lookAgain_12 : decode cX7_lookAgain 12 = .ok (.lload_n 3, 1) := by decide +kernel
theorem dX7_lookAgain_13 : decode cX7_lookAgain 13 = .ok (.lconst 0, 1) := by decide +kernel
theorem dX7_lookAgain_14 : decode cX7_lookAgain 14 = .ok (.lcmp, 1) := by decide +kernel
theorem dX7_lookAgain_15 : decode cX7_lookAgain 15 = .ok (.ifCond .eq 78, 3) := by decide +kernel
theorem dX7_lookAgain_18 : decode cX7_lookAgain 18 = .ok (.lload_n 3, 1) := by decide +kernel
theorem dX7_lookAgain_19 : decode cX7_lookAgain 19 = .ok (.invokestatic 41, 3) := by decide +kernel
theorem dX7_lookAgain_22 : decode cX7_lookAgain 22 = .ok (.istore 6, 2) := by decide +kernel
theorem dX7_lookAgain_24 : decode cX7_lookAgain 24 = .ok (.lload_n 3, 1) := by decide +kernel
theorem dX7_lookAgain_25 : decode cX7_lookAgain 25 = .ok (.lload_n 3, 1) := by decide +kernel
theorem dX7_lookAgain_26 : decode cX7_lookAgain 26 = .ok (.lconst 1, 1) := by decide +kernel
theorem dX7_lookAgain_27 : decode cX7_lookAgain 27 = .ok (.lsub, 1) := by decide +kernel
theorem dX7_lookAgain_28 : decode cX7_lookAgain 28 = .ok (.land, 1) := by decide +kernel
theorem dX7_lookAgain_29 : decode cX7_lookAgain 29 = .ok (.lstore_n 3, 1) := by decide +kernel
theorem dX7_lookAgain_30 : decode cX7_lookAgain 30 = .ok (.aload_n 0, 1) := by decide +kernel
theorem dX7_lookAgain_31 : decode cX7_lookAgain 31 = .ok (.getfield 9, 3) := by decide +kernel
theorem dX7_lookAgain_34 : decode cX7_lookAgain 34 = .ok (.getfield 38, 3) := by decide +kernel
theorem dX7_lookAgain_37 : decode cX7_lookAgain 37 = .ok (.iload 6, 2) := by decide +kernel
theorem dX7_lookAgain_39 : decode cX7_lookAgain 39 = .ok (.laload, 1) := by decide +kernel
theorem dX7_lookAgain_40 : decode cX7_lookAgain 40 = .ok (.aload_n 0, 1) := by decide +kernel
theorem dX7_lookAgain_41 : decode cX7_lookAgain 41 = .ok (.getfield 15, 3) := by decide +kernel
theorem dX7_lookAgain_44 : decode cX7_lookAgain 44 = .ok (.land, 1) := by decide +kernel
theorem dX7_lookAgain_45 : decode cX7_lookAgain 45 = .ok (.invokestatic 55, 3) := by decide +kernel
theorem dX7_lookAgain_48 : decode cX7_lookAgain 48 = .ok (.iconst 1, 1) := by decide +kernel
theorem dX7_lookAgain_49 : decode cX7_lookAgain 49 = .ok (.if_icmp .ne 20, 3) := by decide +kernel
theorem dX7_lookAgain_52 : decode cX7_lookAgain 52 = .ok (.aload_n 0, 1) := by decide +kernel
theorem dX7_lookAgain_53 : decode cX7_lookAgain 53 = .ok (.dup, 1) := by decide +kernel
theorem dX7_lookAgain_54 : decode cX7_lookAgain 54 = .ok (.getfield 19, 3) := by decide +kernel
theorem dX7_lookAgain_57 : decode cX7_lookAgain 57 = .ok (.iload 6, 2) := by decide +kernel
theorem dX7_lookAgain_59 : decode cX7_lookAgain 59 = .ok (.invokestatic 26, 3) := by decide +kernel
theorem dX7_lookAgain_62 : decode cX7_lookAgain 62 = .ok (.lor, 1) := by decide +kernel
theorem dX7_lookAgain_63 : decode cX7_lookAgain 63 = .ok (.putfield 19, 3) := by decide +kernel
theorem dX7_lookAgain_66 : decode cX7_lookAgain 66 = .ok (.goto 21, 3) := by decide +kernel
theorem dX7_lookAgain_69 : decode cX7_lookAgain 69 = .ok (.aload_n 0, 1) := by decide +kernel
theorem dX7_lookAgain_70 : decode cX7_lookAgain 70 = .ok (.dup, 1) := by decide +kernel
theorem dX7_lookAgain_71 : decode cX7_lookAgain 71 = .ok (.getfield 19, 3) := by decide +kernel
theorem dX7_lookAgain_74 : decode cX7_lookAgain 74 = .ok (.iload 6, 2) := by decide +kernel
theorem dX7_lookAgain_76 : decode cX7_lookAgain 76 = .ok (.invokestatic 26, 3) := by decide +kernel
theorem dX7_lookAgain_79 : decode cX7_lookAgain 79 = .ok (.ldc2_w 30, 3) := by decide +kernel
theorem dX7_lookAgain_82 : decode cX7_lookAgain 82 = .ok (.lxor, 1) := by decide +kernel
theorem dX7_lookAgain_83 : decode cX7_lookAgain 83 = .ok (.land, 1) := by decide +kernel
theorem dX7_lookAgain_84 : decode cX7_lookAgain 84 = .ok (.putfield 19, 3) := by decide +kernel
theorem dX7_lookAgain_87 : decode cX7_lookAgain 87 = .ok (.iinc 5 1, 3) := by decide +kernel
theorem dX7_lookAgain_90 : decode cX7_lookAgain 90 = .ok (.goto (-85), 3) := by decide +kernel
theorem dX7_lookAgain_93 : decode cX7_lookAgain 93 = .ok (.return_, 1) := by decide +kernel
theorem dX8_read_0 : decode cX8_read 0 = .ok (.aload_n 0, 1) := by decide +kernel
theorem dX8_read_1 : decode cX8_read 1 = .ok (.getfield 9, 3) := by decide +kernel
theorem dX8_read_4 : decode cX8_read 4 = .ok (.iconst 0, 1) := by decide +kernel
theorem dX8_read_5 : decode cX8_read 5 = .ok (.invokestatic 15, 3) := by decide +kernel
theorem dX8_read_8 : decode cX8_read 8 = .ok (.aload_n 0, 1) := by decide +kernel
theorem dX8_read_9 : decode cX8_read 9 = .ok (.iconst 0, 1) := by decide +kernel
theorem dX8_read_10 : decode cX8_read 10 = .ok (.putfield 21, 3) := by decide +kernel
theorem dX8_read_13 : decode cX8_read 13 = .ok (.aload_n 0, 1) := by decide +kernel
theorem dX8_read_14 : decode cX8_read 14 = .ok (.iconst 0, 1) := by decide +kernel
theorem dX8_read_15 : decode cX8_read 15 = .ok (.putfield 25, 3) := by decide +kernel
theorem dX8_read_18 : decode cX8_read 18 = .ok (.iconst 0, 1) := by decide +kernel
theorem dX8_read_19 : decode cX8_read 19 = .ok (.istore_n 2, 1) := by decide +kernel
theorem dX8_read_20 : decode cX8_read 20 = .ok (.iload_n 2, 1) := by decide +kernel
theorem dX8_read_21 : decode cX8_read 21 = .ok (.bipush 24, 2) := by decide +kernel
theorem dX8_read_23 : decode cX8_read 23 = .ok (.if_icmp .gt 77, 3) := by decide +kernel
theorem dX8_read_26 : decode cX8_read 26 = .ok (.aload_n 0, 1) := by decide +kernel
theorem dX8_read_27 : decode cX8_read 27 = .ok (.aload_n 1, 1) := by decide +kernel
theorem dX8_read_28 : decode cX8_read 28 = .ok (.invokevirtual 28, 3) := by decide +kernel
theorem dX8_read_31 : decode cX8_read 31 = .ok (.aload_n 0, 1) := by decide +kernel
theorem dX8_read_32 : decode cX8_read 32 = .ok (.aload_n 1, 1) := by decide +kernel
theorem dX8_read_33 : decode cX8_read 33 = .ok (.iload_n 2, 1) := by decide +kernel
theorem dX8_read_34 : decode cX8_read 34 = .ok (.invokevirtual 32, 3) := by decide +kernel
theorem dX8_read_37 : decode cX8_read 37 = .ok (.istore_n 3, 1) := by decide +kernel
theorem dX8_read_38 : decode cX8_read 38 = .ok (.iload_n 3, 1) := by decide +kernel
theorem dX8_read_39 : decode cX8_read 39 = .ok (.ifCond .eq 5, 3) := by decide +kernel
theorem dX8_read_42 : decode cX8_read 42 = .ok (.iload_n 3, 1) := by decide +kernel
theorem dX8_read_43 : decode cX8_read 43 = .ok (.ireturn, 1) := by decide +kernel
theorem dX8_read_44 : decode cX8_read 44 = .ok (.aload_n 0, 1) := by decide +kernel
theorem dX8_read_45 : decode cX8_read 45 = .ok (.aload_n 1, 1) := by decide +kernel
theorem dX8_read_46 : decode cX8_read 46 = .ok (.invokevirtual 28, 3) := by decide +kernel
theorem dX8_read_49 : decode cX8_read 49 = .ok (.aload_n 0, 1) := by decide +kernel
theorem dX8_read_50 : decode cX8_read 50 = .ok (.getfield 25, 3) := by decide +kernel
theorem dX8_read_53 : decode cX8_read 53 = .ok (.aload_n 1, 1) := by decide +kernel
theorem dX8_read_54 : decode cX8_read 54 = .ok (.getfield 36, 3) := by decide +kernel
theorem dX8_read_57 : decode cX8_read 57 = .ok (.if_icmp .ne 5, 3) := by decide +kernel
theorem dX8_read_60 : decode cX8_read 60 = .ok (.iconst 0, 1) := by decide +kernel
theorem dX8_read_61 : decode cX8_read 61 = .ok (.ireturn, 1) := by decide +kernel
theorem dX8_read_62 : decode cX8_read 62 = .ok (.aload_n 1, 1) := by decide +kernel
theorem dX8_read_63 : decode cX8_read 63 = .ok (.aload_n 0, 1) := by decide +kernel
theorem dX8_read_64 : decode cX8_read 64 = .ok (.getfield 25, 3) := by decide +kernel
theorem dX8_read_67 : decode cX8_read 67 = .ok (.invokevirtual 41, 3) := by decide +kernel
theorem dX8_read_70 : decode cX8_read 70 = .ok (.bipush 44, 2) := by decide +kernel
theorem dX8_read_72 : decode cX8_read 72 = .ok (.if_icmp .eq 12, 3) := by decide +kernel
theorem dX8_read_75 : decode cX8_read 75 = .ok (.aload_n 0, 1) := by decide +kernel
theorem dX8_read_76 : decode cX8_read 76 = .ok (.getfield 25, 3) := by decide +kernel
theorem dX8_read_79 : decode cX8_read 79 = .ok (.iconst 1, 1) := by decide +kernel
theorem dX8_read_80 : decode cX8_read 80 = .ok (.invokestatic 45, 3) := by decide +kernel
theorem dX8_read_83 : decode cX8_read 83 = .ok (.ireturn, 1) := by decide +kernel
theorem dX8_read_84 : decode cX8_read 84 = .ok (.aload_n 0, 1) := by decide +kernel
theorem dX8_read_85 : decode cX8_read 85 = .ok (.dup, 1) := by decide +kernel
theorem dX8_read_86 : decode cX8_read 86 = .ok (.getfield 25, 3) := by decide +kernel
theorem dX8_read_89 : decode cX8_read 89 = .ok (.iconst 1, 1) := by decide +kernel
theorem dX8_read_90 : decode cX8_read 90 = .ok (.iadd, 1) := by decide +kernel
theorem dX8_read_91 : decode cX8_read 91 = .ok (.putfield 25, 3) := by decide +kernel
theorem dX8_read_94 : decode cX8_read 94 = .ok (.iinc 2 1, 3) := by decide +kernel
theorem dX8_read_97 : decode cX8_read 97 = .ok (.goto (-77), 3) := by decide +kernel
theorem dX8_read_100 : decode cX8_read 100 = .ok (.aload_n 0, 1) := by decide +kernel
theorem dX8_read_101 : decode cX8_read 101 = .ok (.getfield 25, 3) := by decide +kernel
theorem dX8_read_104 : decode cX8_read 104 = .ok (.iconst 4, 1) := by decide +kernel
theorem dX8_read_105 : decode cX8_read 105 = .ok (.invokestatic 45, 3) := by decide +kernel
theorem dX8_read_108 : decode cX8_read 108 = .ok (.ireturn, 1) := by decide +kernel
theorem dX8_readFacet_0 : decode cX8_readFacet 0 = .ok (.aload_n 0, 1) := by decide +kernel
theorem dX8_readFacet_1 : decode cX8_readFacet 1 = .ok (.getfield 25, 3) := by decide +kernel
theorem dX8_readFacet_4 : decode cX8_readFacet 4 = .ok (.istore_n 3, 1) := by decide +kernel
theorem dX8_readFacet_5 : decode cX8_readFacet 5 = .ok (.aload_n 1, 1) := by decide +kernel
theorem dX8_readFacet_6 : decode cX8_readFacet 6 = .ok (.aload_n 0, 1) := by decide +kernel
theorem dX8_readFacet_7 : decode cX8_readFacet 7 = .ok (.getfield 25, 3) := by decide +kernel
theorem dX8_readFacet_10 : decode cX8_readFacet 10 = .ok (.invokevirtual 41, 3) := by decide +kernel
theorem dX8_readFacet_13 : decode cX8_readFacet 13 = .ok (.invokestatic 49, 3) := by decide +kernel
theorem dX8_readFacet_16 : decode cX8_readFacet 16 = .ok (.ifCond .ne 12, 3) := by decide +kernel
theorem dX8_readFacet_19 : decode cX8_readFacet 19 = .ok (.aload_n 0, 1) := by decide +kernel
theorem dX8_readFacet_20 : decode cX8_readFacet 20 = .ok (.getfield 25, 3) := by decide +kernel
theorem dX8_readFacet_23 : decode cX8_readFacet 23 = .ok (.iconst 1, 1) := by decide +kernel
theorem dX8_readFacet_24 : decode cX8_readFacet 24 = .ok (.invokestatic 45, 3) := by decide +kernel
theorem dX8_readFacet_27 : decode cX8_readFacet 27 = .ok (.ireturn, 1) := by decide +kernel
theorem dX8_readFacet_28 : decode cX8_readFacet 28 = .ok (.iload_n 2, 1) := by decide +kernel
theorem dX8_readFacet_29 : decode cX8_readFacet 29 = .ok (.bipush 24, 2) := by decide +kernel
theorem dX8_readFacet_31 : decode cX8_readFacet 31 = .ok (.if_icmp .ne 12, 3) := by decide +kernel
theorem dX8_readFacet_34 : decode cX8_readFacet 34 = .ok (.aload_n 0, 1) := by decide +kernel
theorem dX8_readFacet_35 : decode cX8_readFacet 35 = .ok (.getfield 25, 3) := by decide +kernel
theorem dX8_readFacet_38 : decode cX8_readFacet 38 = .ok (.iconst 4, 1) := by decide +kernel
theorem dX8_readFacet_39 : decode cX8_readFacet 39 = .ok (.invokestatic 45, 3) := by decide +kernel
theorem dX8_readFacet_42 : decode cX8_readFacet 42 = .ok (.ireturn, 1) := by decide +kernel
theorem dX8_readFacet_43 : decode cX8_readFacet 43 = .ok (.iconst 0, 1) := by decide +kernel
theorem dX8_readFacet_44 : decode cX8_readFacet 44 = .ok (.istore 4, 2) := by decide +kernel
theorem dX8_readFacet_46 : decode cX8_readFacet 46 = .ok (.aload_n 0, 1) := by decide +kernel
theorem dX8_readFacet_47 : decode cX8_readFacet 47 = .ok (.getfield 25, 3) := by decide +kernel
theorem dX8_readFacet_50 : decode cX8_readFacet 50 = .ok (.aload_n 1, 1) := by decide +kernel
theorem dX8_readFacet_51 : decode cX8_readFacet 51 = .ok (.getfield 36, 3) := by decide +kernel
theorem dX8_readFacet_54 : decode cX8_readFacet 54 = .ok (.if_icmp .ge 87, 3) := by decide +kernel
theorem dX8_readFacet_57 : decode cX8_readFacet 57 = .ok (.aload_n 1, 1) := by decide +kernel
theorem dX8_readFacet_58 : decode cX8_readFacet 58 = .ok (.aload_n 0, 1) := by decide +kernel
theorem dX8_readFacet_59 : decode cX8_readFacet 59 = .ok (.getfield 25, 3) := by decide +kernel
theorem dX8_readFacet_62 : decode cX8_readFacet 62 = .ok (.invokevirtual 41, 3) := by decide +kernel
theorem dX8_readFacet_65 : decode cX8_readFacet 65 = .ok (.invokestatic 49, 3) := by decide +kernel
theorem dX8_readFacet_68 : decode cX8_readFacet 68 = .ok (.ifCond .eq 73, 3) := by decide +kernel
theorem dX8_readFacet_71 : decode cX8_readFacet 71 = .ok (.iconst 1, 1) := by decide +kernel
theorem dX8_readFacet_72 : decode cX8_readFacet 72 = .ok (.aload_n 1, 1) := by decide +kernel
theorem dX8_readFacet_73 : decode cX8_readFacet 73 = .ok (.aload_n 0, 1) := by decide +kernel
theorem dX8_readFacet_74 : decode cX8_readFacet 74 = .ok (.getfield 25, 3) := by decide +kernel
theorem dX8_readFacet_77 : decode cX8_readFacet 77 = .ok (.invokevirtual 41, 3) := by decide +kernel
theorem dX8_readFacet_80 : decode cX8_readFacet 80 = .ok (.bipush 97, 2) := by decide +kernel
theorem dX8_readFacet_82 : decode cX8_readFacet 82 = .ok (.isub, 1) := by decide +kernel
theorem dX8_readFacet_83 : decode cX8_readFacet 83 = .ok (.ishl, 1) := by decide +kernel
theorem dX8_readFacet_84 : decode cX8_readFacet 84 = .ok (.istore 5, 2) := by decide +kernel
theorem dX8_readFacet_86 : decode cX8_readFacet 86 = .ok (.iload 4, 2) := by decide +kernel
theorem dX8_readFacet_88 : decode cX8_readFacet 88 = .ok (.iload 5, 2) := by decide +kernel
theorem dX8_readFacet_90 : decode cX8_readFacet 90 = .ok (.iand, 1) := by decide +kernel
theorem dX8_readFacet_91 : decode cX8_readFacet 91 = .ok (.ifCond .eq 12, 3) := by decide +kernel
theorem dX8_readFacet_94 : decode cX8_readFacet 94 = .ok (.aload_n 0, 1) := by decide +kernel
theorem dX8_readFacet_95 : decode cX8_readFacet 95 = .ok (.getfield 25, 3) := by decide +kernel
theorem dX8_readFacet_98 : decode cX8_readFacet 98 = .ok (.iconst 2, 1) := by decide +kernel
theorem dX8_readFacet_99 : decode cX8_readFacet 99 = .ok (.invokestatic 45, 3) := by decide +kernel
theorem dX8_readFacet_102 : decode cX8_readFacet 102 = .ok (.ireturn, 1) := by decide +kernel
theorem dX8_readFacet_103 : decode cX8_readFacet 103 = .ok (.iload 4, 2) := by decide +kernel
theorem dX8_readFacet_105 : decode cX8_readFacet 105 = .ok (.invokestatic 53, 3) := by decide +kernel
theorem dX8_readFacet_108 : decode cX8_readFacet 108 = .ok (.iconst 5, 1) := by decide +kernel
theorem dX8_readFacet_109 : decode cX8_readFacet 109 = .ok (.if_icmp .ne 12, 3) := by decide +kernel
theorem dX8_readFacet_112 : decode cX8_readFacet 112 = .ok (.aload_n 0, 1) := by decide +kernel
theorem dX8_readFacet_113 : decode cX8_readFacet 113 = .ok (.getfield 25, 3) := by decide +kernel
theorem dX8_readFacet_116 : decode cX8_readFacet 116 = .ok (.iconst 3, 1) := by decide +kernel
theorem dX8_readFacet_117 : decode cX8_readFacet 117 = .ok (.invokestatic 45, 3) := by decide +kernel
theorem dX8_readFacet_120 : decode cX8_readFacet 120 = .ok (.ireturn, 1) := by decide +kernel
theorem dX8_readFacet_121 : decode cX8_readFacet 121 = .ok (.iload 4, 2) := by decide +kernel
theorem dX8_readFacet_123 : decode cX8_readFacet 123 = .ok (.iload 5, 2) := by decide +kernel
theorem dX8_readFacet_125 : decode cX8_readFacet 125 = .ok (.ior, 1) := by decide +kernel
theorem dX8_readFacet_126 : decode cX8_readFacet 126 = .ok (.istore 4, 2) := by decide +kernel
theorem dX8_readFacet_128 : decode cX8_readFacet 128 = .ok (.aload_n 0, 1) := by decide +kernel
theorem dX8_readFacet_129 : decode cX8_readFacet 129 = .ok (.dup, 1) := by decide +kernel
theorem dX8_readFacet_130 : decode cX8_readFacet 130 = .ok (.getfield 25, 3) := by decide +kernel
theorem dX8_readFacet_133 : decode cX8_readFacet 133 = .ok (.iconst 1, 1) := by decide +kernel
theorem dX8_readFacet_134 : decode cX8_readFacet 134 = .ok (.iadd, 1) := by decide +kernel
theorem dX8_readFacet_135 : decode cX8_readFacet 135 = .ok (.putfield 25, 3) := by decide +kernel
theorem dX8_readFacet_138 : decode cX8_readFacet 138 = .ok (.goto (-92), 3) := by decide +kernel
theorem dX8_readFacet_141 : decode cX8_readFacet 141 = .ok (.aload_n 0, 1) := by decide +kernel
theorem dX8_readFacet_142 : decode cX8_readFacet 142 = .ok (.iload 4, 2) := by decide +kernel
theorem dX8_readFacet_144 : decode cX8_readFacet 144 = .ok (.invokevirtual 58, 3) := by decide +kernel
theorem dX8_readFacet_147 : decode cX8_readFacet 147 = .ok (.aload_n 0, 1) := by decide +kernel
theorem dX8_readFacet_148 : decode cX8_readFacet 148 = .ok (.getfield 21, 3) := by decide +kernel
theorem dX8_readFacet_151 : decode cX8_readFacet 151 = .ok (.bipush 60, 2) := by decide +kernel
theorem dX8_readFacet_153 : decode cX8_readFacet 153 = .ok (.if_icmp .le 11, 3) := by decide +kernel
theorem dX8_readFacet_156 : decode cX8_readFacet 156 = .ok (.iload_n 3, 1) := by decide +kernel
theorem dX8_readFacet_157 : decode cX8_readFacet 157 = .ok (.iconst 5, 1) := by decide +kernel
theorem dX8_readFacet_158 : decode cX8_readFacet 158 = .ok (.invokestatic 45, 3) := by decide +kernel
theorem dX8_readFacet_161 : decode cX8_readFacet 161 = .ok (.goto 4, 3) := by decide +kernel
theorem dX8_readFacet_164 : decode cX8_readFacet 164 = .ok (.iconst 0, 1) := by decide +kernel
theorem dX8_readFacet_165 : decode cX8_readFacet 165 = .ok (.ireturn, 1) := by decide +kernel
theorem dX8_tell_0 : decode cX8_tell 0 = .ok (.iconst 1, 1) := by decide +kernel
theorem dX8_tell_1 : decode cX8_tell 1 = .ok (.istore_n 2, 1) := by decide +kernel
theorem dX8_tell_2 : decode cX8_tell 2 = .ok (.iload_n 2, 1) := by decide +kernel
theorem dX8_tell_3 : decode cX8_tell 3 = .ok (.iload_n 1, 1) := by decide +kernel
theorem dX8_tell_4 : decode cX8_tell 4 = .ok (.if_icmp .gt 50, 3) := by decide +kernel
theorem dX8_tell_7 : decode cX8_tell 7 = .ok (.iload_n 2, 1) := by decide +kernel
theorem dX8_tell_8 : decode cX8_tell 8 = .ok (.sipush 256, 3) := by decide +kernel
theorem dX8_tell_11 : decode cX8_tell 11 = .ok (.if_icmp .ge 43, 3) := by decide +kernel
theorem dX8_tell_14 : decode cX8_tell 14 = .ok (.iload_n 2, 1) := by decide +kernel
theorem dX8_tell_15 : decode cX8_tell 15 = .ok (.iload_n 1, 1) := by decide +kernel
theorem dX8_tell_16 : decode cX8_tell 16 = .ok (.iconst (-1), 1) := by decide +kernel
theorem dX8_tell_17 : decode cX8_tell 17 = .ok (.ixor, 1) := by decide +kernel
theorem dX8_tell_18 : decode cX8_tell 18 = .ok (.iand, 1) := by decide +kernel
theorem dX8_tell_19 : decode cX8_tell 19 = .ok (.ifCond .ne 29, 3) := by decide +kernel
theorem dX8_tell_22 : decode cX8_tell 22 = .ok (.aload_n 0, 1) := by decide +kernel
theorem dX8_tell_23 : decode cX8_tell 23 = .ok (.getfield 9, 3) := by decide +kernel
theorem dX8_tell_26 : decode cX8_tell 26 = .ok (.iload_n 2, 1) := by decide +kernel
theorem dX8_tell_27 : decode cX8_tell 27 = .ok (.iaload, 1) := by decide +kernel
theorem dX8_tell_28 : decode cX8_tell 28 = .ok (.ifCond .ne 20, 3) := by decide +kernel
theorem dX8_tell_31 : decode cX8_tell 31 = .ok (.aload_n 0, 1) := by decide +kernel
theorem dX8_tell_32 : decode cX8_tell 32 = .ok (.getfield 9, 3) := by decide +kernel
theorem dX8_tell_35 : decode cX8_tell 35 = .ok (.iload_n 2, 1) := by decide +kernel
theorem dX8_tell_36 : decode cX8_tell 36 = .ok (.iconst 1, 1) := by decide +kernel
theorem dX8_tell_37 : decode cX8_tell 37 = .ok (.iastore, 1) := by decide +kernel
theorem dX8_tell_38 : decode cX8_tell 38 = .ok (.aload_n 0, 1) := by decide +kernel
theorem dX8_tell_39 : decode cX8_tell 39 = .ok (.dup, 1) := by decide +kernel
theorem dX8_tell_40 : decode cX8_tell 40 = .ok (.getfield 21, 3) := by decide +kernel
theorem dX8_tell_43 : decode cX8_tell 43 = .ok (.iconst 1, 1) := by decide +kernel
theorem dX8_tell_44 : decode cX8_tell 44 = .ok (.iadd, 1) := by decide +kernel
theorem dX8_tell_45 : decode cX8_tell 45 = .ok (.putfield 21, 3) := by decide +kernel
theorem dX8_tell_48 : decode cX8_tell 48 = .ok (.iinc 2 1, 3) := by decide +kernel
theorem dX8_tell_51 : decode cX8_tell 51 = .ok (.goto (-49), 3) := by decide +kernel
theorem dX8_tell_54 : decode cX8_tell 54 = .ok (.return_, 1) := by decide +kernel
theorem dX8_skipBlanks_0 : decode cX8_skipBlanks 0 = .ok (.aload_n 0, 1) := by decide +kernel
theorem dX8_skipBlanks_1 : decode cX8_skipBlanks 1 = .ok (.getfield 25, 3) := by decide +kernel
theorem dX8_skipBlanks_4 : decode cX8_skipBlanks 4 = .ok (.aload_n 1, 1) := by decide +kernel
theorem dX8_skipBlanks_5 : decode cX8_skipBlanks 5 = .ok (.getfield 36, 3) := by decide +kernel
theorem dX8_skipBlanks_8 : decode cX8_skipBlanks 8 = .ok (.if_icmp .ge 29, 3) := by decide +kernel
theorem dX8_skipBlanks_11 : decode cX8_skipBlanks 11 = .ok (.aload_n 1, 1) := by decide +kernel
theorem dX8_skipBlanks_12 : decode cX8_skipBlanks 12 = .ok (.aload_n 0, 1) := by decide +kernel
theorem dX8_skipBlanks_13 : decode cX8_skipBlanks 13 = .ok (.getfield 25, 3) := by decide +kernel
theorem dX8_skipBlanks_16 : decode cX8_skipBlanks 16 = .ok (.invokevirtual 41, 3) := by decide +kernel
theorem dX8_skipBlanks_19 : decode cX8_skipBlanks 19 = .ok (.bipush 32, 2) := by decide +kernel
theorem dX8_skipBlanks_21 : decode cX8_skipBlanks 21 = .ok (.if_icmp .ne 16, 3) := by decide +kernel
theorem dX8_skipBlanks_24 : decode cX8_skipBlanks 24 = .ok (.aload_n 0, 1) := by decide +kernel
theorem dX8_skipBlanks_25 : decode cX8_skipBlanks 25 = .ok (.dup, 1) := by decide +kernel
theorem dX8_skipBlanks_26 : decode cX8_skipBlanks 26 = .ok (.getfield 25, 3) := by decide +kernel
theorem dX8_skipBlanks_29 : decode cX8_skipBlanks 29 = .ok (.iconst 1, 1) := by decide +kernel
theorem dX8_skipBlanks_30 : decode cX8_skipBlanks 30 = .ok (.iadd, 1) := by decide +kernel
theorem dX8_skipBlanks_31 : decode cX8_skipBlanks 31 = .ok (.putfield 25, 3) := by decide +kernel
theorem dX8_skipBlanks_34 : decode cX8_skipBlanks 34 = .ok (.goto (-34), 3) := by decide +kernel
theorem dX8_skipBlanks_37 : decode cX8_skipBlanks 37 = .ok (.return_, 1) := by decide +kernel
theorem dX8_isLetter_0 : decode cX8_isLetter 0 = .ok (.iload_n 0, 1) := by decide +kernel
theorem dX8_isLetter_1 : decode cX8_isLetter 1 = .ok (.bipush 97, 2) := by decide +kernel
theorem dX8_isLetter_3 : decode cX8_isLetter 3 = .ok (.if_icmp .lt 13, 3) := by decide +kernel
theorem dX8_isLetter_6 : decode cX8_isLetter 6 = .ok (.iload_n 0, 1) := by decide +kernel
theorem dX8_isLetter_7 : decode cX8_isLetter 7 = .ok (.bipush 105, 2) := by decide +kernel
theorem dX8_isLetter_9 : decode cX8_isLetter 9 = .ok (.if_icmp .ge 7, 3) := by decide +kernel
theorem dX8_isLetter_12 : decode cX8_isLetter 12 = .ok (.iconst 1, 1) := by decide +kernel
theorem dX8_isLetter_13 : decode cX8_isLetter 13 = .ok (.goto 4, 3) := by decide +kernel
theorem dX8_isLetter_16 : decode cX8_isLetter 16 = .ok (.iconst 0, 1) := by decide +kernel
theorem dX8_isLetter_17 : decode cX8_isLetter 17 = .ok (.ireturn, 1) := by decide +kernel
theorem dX8_fault_0 : decode cX8_fault 0 = .ok (.bipush 8, 2) := by decide +kernel
theorem dX8_fault_2 : decode cX8_fault 2 = .ok (.iload_n 0, 1) := by decide +kernel
theorem dX8_fault_3 : decode cX8_fault 3 = .ok (.imul, 1) := by decide +kernel
theorem dX8_fault_4 : decode cX8_fault 4 = .ok (.iload_n 1, 1) := by decide +kernel
theorem dX8_fault_5 : decode cX8_fault 5 = .ok (.iadd, 1) := by decide +kernel
theorem dX8_fault_6 : decode cX8_fault 6 = .ok (.ireturn, 1) := by decide +kernel
theorem dX9_has_0 : decode cX9_has 0 = .ok (.iload_n 1, 1) := by decide +kernel
theorem dX9_has_1 : decode cX9_has 1 = .ok (.ifCond .lt 15, 3) := by decide +kernel
theorem dX9_has_4 : decode cX9_has 4 = .ok (.iload_n 1, 1) := by decide +kernel
theorem dX9_has_5 : decode cX9_has 5 = .ok (.aload_n 0, 1) := by decide +kernel
theorem dX9_has_6 : decode cX9_has 6 = .ok (.getfield 37, 3) := by decide +kernel
theorem dX9_has_9 : decode cX9_has 9 = .ok (.if_icmp .ge 7, 3) := by decide +kernel
theorem dX9_has_12 : decode cX9_has 12 = .ok (.iconst 1, 1) := by decide +kernel
theorem dX9_has_13 : decode cX9_has 13 = .ok (.goto 4, 3) := by decide +kernel
theorem dX9_has_16 : decode cX9_has 16 = .ok (.iconst 0, 1) := by decide +kernel
theorem dX9_has_17 : decode cX9_has 17 = .ok (.ireturn, 1) := by decide +kernel
theorem dX9_all_0 : decode cX9_all 0 = .ok (.aload_n 0, 1) := by decide +kernel
theorem dX9_all_1 : decode cX9_all 1 = .ok (.getfield 37, 3) := by decide +kernel
theorem dX9_all_4 : decode cX9_all 4 = .ok (.invokestatic 41, 3) := by decide +kernel
theorem dX9_all_7 : decode cX9_all 7 = .ok (.lconst 1, 1) := by decide +kernel
theorem dX9_all_8 : decode cX9_all 8 = .ok (.lsub, 1) := by decide +kernel
theorem dX9_all_9 : decode cX9_all 9 = .ok (.lreturn, 1) := by decide +kernel
theorem dX9_build_0 : decode cX9_build 0 = .ok (.aload_n 0, 1) := by decide +kernel
theorem dX9_build_1 : decode cX9_build 1 = .ok (.iconst 0, 1) := by decide +kernel
theorem dX9_build_2 : decode cX9_build 2 = .ok (.putfield 37, 3) := by decide +kernel
theorem dX9_build_5 : decode cX9_build 5 = .ok (.aload_n 0, 1) := by decide +kernel
theorem dX9_build_6 : decode cX9_build 6 = .ok (.getfield 18, 3) := by decide +kernel
theorem dX9_build_9 : decode cX9_build 9 = .ok (.iconst (-1), 1) := by decide +kernel
theorem dX9_build_10 : decode cX9_build 10 = .ok (.invokestatic 31, 3) := by decide +kernel
theorem dX9_build_13 : decode cX9_build 13 = .ok (.aload_n 0, 1) := by decide +kernel
theorem dX9_build_14 : decode cX9_build 14 = .ok (.getfield 21, 3) := by decide +kernel
theorem dX9_build_17 : decode cX9_build 17 = .ok (.lconst 0, 1) := by decide +kernel
theorem dX9_build_18 : decode cX9_build 18 = .ok (.invokestatic 45, 3) := by decide +kernel
theorem dX9_build_21 : decode cX9_build 21 = .ok (.aload_n 0, 1) := by decide +kernel
theorem dX9_build_22 : decode cX9_build 22 = .ok (.getfield 25, 3) := by decide +kernel
theorem dX9_build_25 : decode cX9_build 25 = .ok (.lconst 0, 1) := by decide +kernel
theorem dX9_build_26 : decode cX9_build 26 = .ok (.invokestatic 45, 3) := by decide +kernel
theorem dX9_build_29 : decode cX9_build 29 = .ok (.aload_n 0, 1) := by decide +kernel
theorem dX9_build_30 : decode cX9_build 30 = .ok (.getfield 28, 3) := by decide +kernel
theorem dX9_build_33 : decode cX9_build 33 = .ok (.lconst 0, 1) := by decide +kernel
theorem dX9_build_34 : decode cX9_build 34 = .ok (.invokestatic 45, 3) := by decide +kernel
theorem dX9_build_37 : decode cX9_build 37 = .ok (.iconst 0, 1) := by decide +kernel
theorem dX9_build_38 : decode cX9_build 38 = .ok (.istore_n 2, 1) := by decide +kernel
theorem dX9_build_39 : decode cX9_build 39 = .ok (.iload_n 2, 1) := by decide +kernel
theorem dX9_build_40 : decode cX9_build 40 = .ok (.iconst 5, 1) := by decide +kernel
theorem dX9_build_41 : decode cX9_build 41 = .ok (.if_icmp .ge 61, 3) := by decide +kernel
theorem dX9_build_44 : decode cX9_build 44 = .ok (.iconst 1, 1) := by decide +kernel
theorem dX9_build_45 : decode cX9_build 45 = .ok (.istore_n 3, 1) := by decide +kernel
theorem dX9_build_46 : decode cX9_build 46 = .ok (.iload_n 3, 1) := by decide +kernel
theorem dX9_build_47 : decode cX9_build 47 = .ok (.sipush 256, 3) := by decide +kernel
theorem dX9_build_50 : decode cX9_build 50 = .ok (.if_icmp .ge 46, 3) := by decide +kernel
theorem dX9_build_53 : decode cX9_build 53 = .ok (.iload_n 3, 1) := by decide +kernel
theorem dX9_build_54 : decode cX9_build 54 = .ok (.aload_n 1, 1) := by decide +kernel
theorem dX9_build_55 : decode cX9_build 55 = .ok (.arraylength, 1) := by decide +kernel
theorem dX9_build_56 : decode cX9_build 56 = .ok (.if_icmp .ge 40, 3) := by decide +kernel
theorem dX9_build_59 : decode cX9_build 59 = .ok (.aload_n 1, 1) := by decide +kernel
theorem dX9_build_60 : decode cX9_build 60 = .ok (.iload_n 3, 1) := by decide +kernel
theorem dX9_build_61 : decode cX9_build 61 = .ok (.iaload, 1) := by decide +kernel
theorem dX9_build_62 : decode cX9_build 62 = .ok (.ifCond .eq 28, 3) := by decide +kernel
theorem dX9_build_65 : decode cX9_build 65 = .ok (.iload_n 3, 1) := by decide +kernel
theorem dX9_build_66 : decode cX9_build 66 = .ok (.invokestatic 48, 3) := by decide +kernel
theorem dX9_build_69 : decode cX9_build 69 = .ok (.iload_n 2, 1) := by decide +kernel
theorem dX9_build_70 : decode cX9_build 70 = .ok (.iconst 1, 1) := by decide +kernel
theorem dX9_build_71 : decode cX9_build 71 = .ok (.iadd, 1) := by decide +kernel
theorem dX9_build_72 : decode cX9_build 72 = .ok (.if_icmp .ne 18, 3) := by decide +kernel
theorem dX9_build_75 : decode cX9_build 75 = .ok (.aload_n 0, 1) := by decide +kernel
theorem dX9_build_76 : decode cX9_build 76 = .ok (.getfield 37, 3) := by decide +kernel
theorem dX9_build_79 : decode cX9_build 79 = .ok (.bipush 60, 2) := by decide +kernel
theorem dX9_build_81 : decode cX9_build 81 = .ok (.if_icmp .ge 9, 3) := by decide +kernel
theorem dX9_build_84 : decode cX9_build 84 = .ok (.aload_n 0, 1) := by decide +kernel
theorem dX9_build_85 : decode cX9_build 85 = .ok (.iload_n 3, 1) := by decide +kernel
theorem dX9_build_86 : decode cX9_build 86 = .ok (.iload_n 2, 1) := by decide +kernel
theorem dX9_build_87 : decode cX9_build 87 = .ok (.invokevirtual 54, 3) := by decide +kernel
theorem dX9_build_90 : decode cX9_build 90 = .ok (.iinc 3 1, 3) := by decide +kernel
theorem dX9_build_93 : decode cX9_build 93 = .ok (.goto (-47), 3) := by decide +kernel
theorem dX9_build_96 : decode cX9_build 96 = .ok (.iinc 2 1, 3) := by decide +kernel
theorem dX9_build_99 : decode cX9_build 99 = .ok (.goto (-60), 3) := by decide +kernel
theorem dX9_build_102 : decode cX9_build 102 = .ok (.return_, 1) := by decide +kernel
theorem dX9_add_0 : decode cX9_add 0 = .ok (.aload_n 0, 1) := by decide +kernel
theorem dX9_add_1 : decode cX9_add 1 = .ok (.getfield 9, 3) := by decide +kernel
theorem dX9_add_4 : decode cX9_add 4 = .ok (.aload_n 0, 1) := by decide +kernel
theorem dX9_add_5 : decode cX9_add 5 = .ok (.getfield 37, 3) := by decide +kernel
theorem dX9_add_8 : decode cX9_add 8 = .ok (.iload_n 1, 1) := by decide +kernel
theorem dX9_add_9 : decode cX9_add 9 = .ok (.iastore, 1) := by decide +kernel
theorem dX9_add_10 : decode cX9_add 10 = .ok (.aload_n 0, 1) := by decide +kernel
theorem dX9_add_11 : decode cX9_add 11 = .ok (.getfield 15, 3) := by decide +kernel
theorem dX9_add_14 : decode cX9_add 14 = .ok (.aload_n 0, 1) := by decide +kernel
theorem dX9_add_15 : decode cX9_add 15 = .ok (.getfield 37, 3) := by decide +kernel
theorem dX9_add_18 : decode cX9_add 18 = .ok (.iload_n 2, 1) := by decide +kernel
theorem dX9_add_19 : decode cX9_add 19 = .ok (.iastore, 1) := by decide +kernel
theorem dX9_add_20 : decode cX9_add 20 = .ok (.aload_n 0, 1) := by decide +kernel
theorem dX9_add_21 : decode cX9_add 21 = .ok (.getfield 18, 3) := by decide +kernel
theorem dX9_add_24 : decode cX9_add 24 = .ok (.iload_n 1, 1) := by decide +kernel
theorem dX9_add_25 : decode cX9_add 25 = .ok (.aload_n 0, 1) := by decide +kernel
theorem dX9_add_26 : decode cX9_add 26 = .ok (.getfield 37, 3) := by decide +kernel
theorem dX9_add_29 : decode cX9_add 29 = .ok (.iastore, 1) := by decide +kernel
theorem dX9_add_30 : decode cX9_add 30 = .ok (.aload_n 0, 1) := by decide +kernel
theorem dX9_add_31 : decode cX9_add 31 = .ok (.getfield 28, 3) := by decide +kernel
theorem dX9_add_34 : decode cX9_add 34 = .ok (.iload_n 2, 1) := by decide +kernel
theorem dX9_add_35 : decode cX9_add 35 = .ok (.dup2, 1) := by decide +kernel
theorem dX9_add_36 : decode cX9_add 36 = .ok (.laload, 1) := by decide +kernel
theorem dX9_add_37 : decode cX9_add 37 = .ok (.aload_n 0, 1) := by decide +kernel
theorem dX9_add_38 : decode cX9_add 38 = .ok (.getfield 37, 3) := by decide +kernel
theorem dX9_add_41 : decode cX9_add 41 = .ok (.invokestatic 41, 3) := by decide +kernel
theorem dX9_add_44 : decode cX9_add 44 = .ok (.lor, 1) := by decide +kernel
theorem dX9_add_45 : decode cX9_add 45 = .ok (.lastore, 1) := by decide +kernel
theorem dX9_add_46 : decode cX9_add 46 = .ok (.iconst 0, 1) := by decide +kernel
theorem dX9_add_47 : decode cX9_add 47 = .ok (.istore_n 3, 1) := by decide +kernel
theorem dX9_add_48 : decode cX9_add 48 = .ok (.iload_n 3, 1) := by decide +kernel
theorem dX9_add_49 : decode cX9_add 49 = .ok (.bipush 8, 2) := by decide +kernel
theorem dX9_add_51 : decode cX9_add 51 = .ok (.if_icmp .ge 77, 3) := by decide +kernel
theorem dX9_add_54 : decode cX9_add 54 = .ok (.iload_n 1, 1) := by decide +kernel
theorem dX9_add_55 : decode cX9_add 55 = .ok (.iconst 1, 1) := by decide +kernel
theorem dX9_add_56 : decode cX9_add 56 = .ok (.iload_n 3, 1) := by decide +kernel
theorem dX9_add_57 : decode cX9_add 57 = .ok (.ishl, 1) := by decide +kernel
theorem dX9_add_58 : decode cX9_add 58 = .ok (.iconst (-1), 1) := by decide +kernel
theorem dX9_add_59 : decode cX9_add 59 = .ok (.ixor, 1) := by decide +kernel
theorem dX9_add_60 : decode cX9_add 60 = .ok (.iand, 1) := by decide +kernel
theorem dX9_add_61 : decode cX9_add 61 = .ok (.istore 4, 2) := by decide +kernel
theorem dX9_add_63 : decode cX9_add 63 = .ok (.iload 4, 2) := by decide +kernel
theorem dX9_add_65 : decode cX9_add 65 = .ok (.iload_n 1, 1) := by decide +kernel
theorem dX9_add_66 : decode cX9_add 66 = .ok (.if_icmp .eq 13, 3) := by decide +kernel
theorem dX9_add_69 : decode cX9_add 69 = .ok (.aload_n 0, 1) := by decide +kernel
theorem dX9_add_70 : decode cX9_add 70 = .ok (.getfield 18, 3) := by decide +kernel
theorem dX9_add_73 : decode cX9_add 73 = .ok (.iload 4, 2) := by decide +kernel
theorem dX9_add_75 : decode cX9_add 75 = .ok (.iaload, 1) := by decide +kernel
theorem dX9_add_76 : decode cX9_add 76 = .ok (.goto 4, 3) := by decide +kernel
theorem dX9_add_79 : decode cX9_add 79 = .ok (.iconst (-1), 1) := by decide +kernel
theorem dX9_add_80 : decode cX9_add 80 = .ok (.istore 5, 2) := by decide +kernel
theorem dX9_add_82 : decode cX9_add 82 = .ok (.iload 5, 2) := by decide +kernel
theorem dX9_add_84 : decode cX9_add 84 = .ok (.iconst (-1), 1) := by decide +kernel
theorem dX9_add_85 : decode cX9_add 85 = .ok (.if_icmp .eq 37, 3) := by decide +kernel
theorem dX9_add_88 : decode cX9_add 88 = .ok (.aload_n 0, 1) := by decide +kernel
theorem dX9_add_89 : decode cX9_add 89 = .ok (.getfield 21, 3) := by decide +kernel
theorem dX9_add_92 : decode cX9_add 92 = .ok (.aload_n 0, 1) := by decide +kernel
theorem dX9_add_93 : decode cX9_add 93 = .ok (.getfield 37, 3) := by decide +kernel
theorem dX9_add_96 : decode cX9_add 96 = .ok (.dup2, 1) := by decide +kernel
theorem dX9_add_97 : decode cX9_add 97 = .ok (.laload, 1) := by decide +kernel
theorem dX9_add_98 : decode cX9_add 98 = .ok (.iload 5, 2) := by decide +kernel
theorem dX9_add_100 : decode cX9_add 100 = .ok (.invokestatic 41, 3) := by decide +kernel
theorem dX9_add_103 : decode cX9_add 103 = .ok (.lor, 1) := by decide +kernel
theorem dX9_add_104 : decode cX9_add 104 = .ok (.lastore, 1) := by decide +kernel
theorem dX9_add_105 : decode cX9_add 105 = .ok (.aload_n 0, 1) := by decide +kernel
theorem dX9_add_106 : decode cX9_add 106 = .ok (.getfield 25, 3) := by decide +kernel
theorem dX9_add_109 : decode cX9_add 109 = .ok (.iload 5, 2) := by decide +kernel
theorem dX9_add_111 : decode cX9_add 111 = .ok (.dup2, 1) := by decide +kernel
theorem dX9_add_112 : decode cX9_add 112 = .ok (.laload, 1) := by decide +kernel
theorem dX9_add_113 : decode cX9_add 113 = .ok (.aload_n 0, 1) := by decide +kernel
theorem dX9_add_114 : decode cX9_add 114 = .ok (.getfield 37, 3) := by decide +kernel
theorem dX9_add_117 : decode cX9_add 117 = .ok (.invokestatic 41, 3) := by decide +kernel
theorem dX9_add_120 : decode cX9_add 120 = .ok (.lor, 1) := by decide +kernel
theorem dX9_add_121 : decode cX9_add 121 = .ok (.lastore, 1) := by decide +kernel
theorem dX9_add_122 : decode cX9_add 122 = .ok (.iinc 3 1, 3) := by decide +kernel
theorem dX9_add_125 : decode cX9_add 125 = .ok (.goto (-77), 3) := by decide +kernel
theorem dX9_add_128 : decode cX9_add 128 = .ok (.aload_n 0, 1) := by decide +kernel
theorem dX9_add_129 : decode cX9_add 129 = .ok (.dup, 1) := by decide +kernel
theorem dX9_add_130 : decode cX9_add 130 = .ok (.getfield 37, 3) := by decide +kernel
theorem dX9_add_133 : decode cX9_add 133 = .ok (.iconst 1, 1) := by decide +kernel
theorem dX9_add_134 : decode cX9_add 134 = .ok (.iadd, 1) := by decide +kernel
theorem dX9_add_135 : decode cX9_add 135 = .ok (.putfield 37, 3) := by decide +kernel
theorem dX9_add_138 : decode cX9_add 138 = .ok (.return_, 1) := by decide +kernel
theorem dX9_signOf_0 : decode cX9_signOf 0 = .ok (.aload_n 0, 1) := by decide +kernel
theorem dX9_signOf_1 : decode cX9_signOf 1 = .ok (.getfield 21, 3) := by decide +kernel
theorem dX9_signOf_4 : decode cX9_signOf 4 = .ok (.iload_n 2, 1) := by decide +kernel
theorem dX9_signOf_5 : decode cX9_signOf 5 = .ok (.laload, 1) := by decide +kernel
theorem dX9_signOf_6 : decode cX9_signOf 6 = .ok (.iload_n 1, 1) := by decide +kernel
theorem dX9_signOf_7 : decode cX9_signOf 7 = .ok (.invokestatic 58, 3) := by decide +kernel
theorem dX9_signOf_10 : decode cX9_signOf 10 = .ok (.ifCond .ne 5, 3) := by decide +kernel
theorem dX9_signOf_13 : decode cX9_signOf 13 = .ok (.iconst 0, 1) := by decide +kernel
theorem dX9_signOf_14 : decode cX9_signOf 14 = .ok (.ireturn, 1) := by decide +kernel
theorem dX9_signOf_15 : decode cX9_signOf 15 = .ok (.aload_n 0, 1) := by decide +kernel
theorem dX9_signOf_16 : decode cX9_signOf 16 = .ok (.getfield 9, 3) := by decide +kernel
theorem dX9_signOf_19 : decode cX9_signOf 19 = .ok (.iload_n 2, 1) := by decide +kernel
theorem dX9_signOf_20 : decode cX9_signOf 20 = .ok (.iaload, 1) := by decide +kernel
theorem dX9_signOf_21 : decode cX9_signOf 21 = .ok (.aload_n 0, 1) := by decide +kernel
theorem dX9_signOf_22 : decode cX9_signOf 22 = .ok (.getfield 9, 3) := by decide +kernel
theorem dX9_signOf_25 : decode cX9_signOf 25 = .ok (.iload_n 1, 1) := by decide +kernel
theorem dX9_signOf_26 : decode cX9_signOf 26 = .ok (.iaload, 1) := by decide +kernel
theorem dX9_signOf_27 : decode cX9_signOf 27 = .ok (.iconst (-1), 1) := by decide +kernel
theorem dX9_signOf_28 : decode cX9_signOf 28 = .ok (.ixor, 1) := by decide +kernel
theorem dX9_signOf_29 : decode cX9_signOf 29 = .ok (.iand, 1) := by decide +kernel
theorem dX9_signOf_30 : decode cX9_signOf 30 = .ok (.istore_n 3, 1) := by decide +kernel
theorem dX9_signOf_31 : decode cX9_signOf 31 = .ok (.aload_n 0, 1) := by decide +kernel
theorem dX9_signOf_32 : decode cX9_signOf 32 = .ok (.getfield 9, 3) := by decide +kernel
theorem dX9_signOf_35 : decode cX9_signOf 35 = .ok (.iload_n 2, 1) := by decide +kernel
theorem dX9_signOf_36 : decode cX9_signOf 36 = .ok (.iaload, 1) := by decide +kernel
theorem dX9_signOf_37 : decode cX9_signOf 37 = .ok (.iload_n 3, 1) := by decide +kernel
theorem dX9_signOf_38 : decode cX9_signOf 38 = .ok (.iconst 1, 1) := by decide +kernel
theorem dX9_signOf_39 : decode cX9_signOf 39 = .ok (.isub, 1) := by decide +kernel
theorem dX9_signOf_40 : decode cX9_signOf 40 = .ok (.iand, 1) := by decide +kernel
theorem dX9_signOf_41 : decode cX9_signOf 41 = .ok (.invokestatic 48, 3) := by decide +kernel
theorem dX9_signOf_44 : decode cX9_signOf 44 = .ok (.istore 4, 2) := by decide +kernel
theorem dX9_signOf_46 : decode cX9_signOf 46 = .ok (.iload 4, 2) := by decide +kernel
theorem dX9_signOf_48 : decode cX9_signOf 48 = .ok (.iconst 1, 1) := by decide +kernel
theorem dX9_signOf_49 : decode cX9_signOf 49 = .ok (.iand, 1) := by decide +kernel
theorem dX9_signOf_50 : decode cX9_signOf 50 = .ok (.ifCond .ne 7, 3) := by decide +kernel
theorem dX9_signOf_53 : decode cX9_signOf 53 = .ok (.iconst 1, 1) := by decide +kernel
theorem dX9_signOf_54 : decode cX9_signOf 54 = .ok (.goto 4, 3) := by decide +kernel
theorem dX9_signOf_57 : decode cX9_signOf 57 = .ok (.iconst (-1), 1) := by decide +kernel
theorem dX9_signOf_58 : decode cX9_signOf 58 = .ok (.ireturn, 1) := by decide +kernel
theorem dX9_eulerOf_0 : decode cX9_eulerOf 0 = .ok (.iconst 0, 1) := by decide +kernel
theorem dX9_eulerOf_1 : decode cX9_eulerOf 1 = .ok (.istore_n 3, 1) := by decide +kernel
theorem dX9_eulerOf_2 : decode cX9_eulerOf 2 = .ok (.iconst 0, 1) := by decide +kernel
theorem dX9_eulerOf_3 : decode cX9_eulerOf 3 = .ok (.istore 4, 2) := by decide +kernel
theorem dX9_eulerOf_5 : decode cX9_eulerOf 5 = .ok (.iload 4, 2) := by decide +kernel
theorem dX9_eulerOf_7 : decode cX9_eulerOf 7 = .ok (.iconst 5, 1) := by decide +kernel
theorem dX9_eulerOf_8 : decode cX9_eulerOf 8 = .ok (.if_icmp .ge 41, 3) := by decide +kernel
theorem dX9_eulerOf_11 : decode cX9_eulerOf 11 = .ok (.lload_n 1, 1) := by decide +kernel
theorem dX9_eulerOf_12 : decode cX9_eulerOf 12 = .ok (.aload_n 0, 1) := by decide +kernel
theorem dX9_eulerOf_13 : decode cX9_eulerOf 13 = .ok (.getfield 28, 3) := by decide +kernel
theorem dX9_eulerOf_16 : decode cX9_eulerOf 16 = .ok (.iload 4, 2) := by decide +kernel
theorem dX9_eulerOf_18 : decode cX9_eulerOf 18 = .ok (.laload, 1) := by decide +kernel
theorem dX9_eulerOf_19 : decode cX9_eulerOf 19 = .ok (.land, 1) := by decide +kernel
theorem dX9_eulerOf_20 : decode cX9_eulerOf 20 = .ok (.invokestatic 62, 3) := by decide +kernel
theorem dX9_eulerOf_23 : decode cX9_eulerOf 23 = .ok (.istore 5, 2) := by decide +kernel
theorem dX9_eulerOf_25 : decode cX9_eulerOf 25 = .ok (.iload_n 3, 1) := by decide +kernel
theorem dX9_eulerOf_26 : decode cX9_eulerOf 26 = .ok (.iload 4, 2) := by decide +kernel
theorem dX9_eulerOf_28 : decode cX9_eulerOf 28 = .ok (.iconst 1, 1) := by decide +kernel
theorem dX9_eulerOf_29 : decode cX9_eulerOf 29 = .ok (.iand, 1) := by decide +kernel
theorem dX9_eulerOf_30 : decode cX9_eulerOf 30 = .ok (.ifCond .ne 8, 3) := by decide +kernel
theorem dX9_eulerOf_33 : decode cX9_eulerOf 33 = .ok (.iload 5, 2) := by decide +kernel
theorem dX9_eulerOf_35 : decode cX9_eulerOf 35 = .ok (.goto 6, 3) := by decide +kernel
theorem dX9_eulerOf_38 : decode cX9_eulerOf 38 = .ok (.iload 5, 2) := by decide +kernel
theorem dX9_eulerOf_40 : decode cX9_eulerOf 40 = .ok (.ineg, 1) := by decide +kernel
theorem dX9_eulerOf_41 : decode cX9_eulerOf 41 = .ok (.iadd, 1) := by decide +kernel
theorem dX9_eulerOf_42 : decode cX9_eulerOf 42 = .ok (.istore_n 3, 1) := by decide +kernel
theorem dX9_eulerOf_43 : decode cX9_eulerOf 43 = .ok (.iinc 4 1, 3) := by decide +kernel
theorem dX9_eulerOf_46 : decode cX9_eulerOf 46 = .ok (.goto (-41), 3) := by decide +kernel
theorem dX9_eulerOf_49 : decode cX9_eulerOf 49 = .ok (.iload_n 3, 1) := by decide +kernel
theorem dX9_eulerOf_50 : decode cX9_eulerOf 50 = .ok (.ireturn, 1) := by decide +kernel
theorem dX9_greatestDim_0 : decode cX9_greatestDim 0 = .ok (.iconst (-1), 1) := by decide +kernel
theorem dX9_greatestDim_1 : decode cX9_greatestDim 1 = .ok (.istore_n 3, 1) := by decide +kernel
theorem dX9_greatestDim_2 : decode cX9_greatestDim 2 = .ok (.iconst 0, 1) := by decide +kernel
theorem dX9_greatestDim_3 : decode cX9_greatestDim 3 = .ok (.istore 4, 2) := by decide +kernel
theorem dX9_greatestDim_5 : decode cX9_greatestDim 5 = .ok (.iload 4, 2) := by decide +kernel
theorem dX9_greatestDim_7 : decode cX9_greatestDim 7 = .ok (.iconst 5, 1) := by decide +kernel
theorem dX9_greatestDim_8 : decode cX9_greatestDim 8 = .ok (.if_icmp .ge 26, 3) := by decide +kernel
theorem dX9_greatestDim_11 : decode cX9_greatestDim 11 = .ok (.lload_n 1, 1) := by decide +kernel
theorem dX9_greatestDim_12 : decode cX9_greatestDim 12 = .ok (.aload_n 0, 1) := by decide +kernel
theorem dX9_greatestDim_13 : decode cX9_greatestDim 13 = .ok (.getfield 28, 3) := by decide +kernel
theorem dX9_greatestDim_16 : decode cX9_greatestDim 16 = .ok (.iload 4, 2) := by decide +kernel
theorem dX9_greatestDim_18 : decode cX9_greatestDim 18 = .ok (.laload, 1) := by decide +kernel
theorem dX9_greatestDim_19 : decode cX9_greatestDim 19 = .ok (.land, 1) := by decide +kernel
theorem dX9_greatestDim_20 : decode cX9_greatestDim 20 = .ok (.lconst 0, 1) := by decide +kernel
theorem dX9_greatestDim_21 : decode cX9_greatestDim 21 = .ok (.lcmp, 1) := by decide +kernel
theorem dX9_greatestDim_22 : decode cX9_greatestDim 22 = .ok (.ifCond .eq 6, 3) := by decide +kernel
theorem dX9_greatestDim_25 : decode cX9_greatestDim 25 = .ok (.iload 4, 2) := by decide +kernel
theorem dX9_greatestDim_27 : decode cX9_greatestDim 27 = .ok (.istore_n 3, 1) := by decide +kernel
theorem dX9_greatestDim_28 : decode cX9_greatestDim 28 = .ok (.iinc 4 1, 3) := by decide +kernel
theorem dX9_greatestDim_31 : decode cX9_greatestDim 31 = .ok (.goto (-26), 3) := by decide +kernel
theorem dX9_greatestDim_34 : decode cX9_greatestDim 34 = .ok (.iload_n 3, 1) := by decide +kernel
theorem dX9_greatestDim_35 : decode cX9_greatestDim 35 = .ok (.ireturn, 1) := by decide +kernel
theorem dX9_withFaces_0 : decode cX9_withFaces 0 = .ok (.lload_n 1, 1) := by decide +kernel
theorem dX9_withFaces_1 : decode cX9_withFaces 1 = .ok (.lstore_n 3, 1) := by decide +kernel
theorem dX9_withFaces_2 : decode cX9_withFaces 2 = .ok (.aload_n 0, 1) := by decide +kernel
theorem dX9_withFaces_3 : decode cX9_withFaces 3 = .ok (.getfield 37, 3) := by decide +kernel
theorem dX9_withFaces_6 : decode cX9_withFaces 6 = .ok (.iconst 1, 1) := by decide +kernel
theorem dX9_withFaces_7 : decode cX9_withFaces 7 = .ok (.isub, 1) := by decide +kernel
theorem dX9_withFaces_8 : decode cX9_withFaces 8 = .ok (.istore 5, 2) := by decide +kernel
theorem dX9_withFaces_10 : decode cX9_withFaces 10 = .ok (.iload 5, 2) := by decide +kernel
theorem dX9_withFaces_12 : decode cX9_withFaces 12 = .ok (.ifCond .lt 28, 3) := by decide +kernel
theorem dX9_withFaces_15 : decode cX9_withFaces 15 = .ok (.lload_n 3, 1) := by decide +kernel
theorem dX9_withFaces_16 : decode cX9_withFaces 16 = .ok (.iload 5, 2) := by decide +kernel
theorem dX9_withFaces_18 : decode cX9_withFaces 18 = .ok (.invokestatic 58, 3) := by decide +kernel
theorem dX9_withFaces_21 : decode cX9_withFaces 21 = .ok (.ifCond .eq 13, 3) := by decide +kernel
theorem dX9_withFaces_24 : decode cX9_withFaces 24 = .ok (.lload_n 3, 1) := by decide +kernel
theorem dX9_withFaces_25 : decode cX9_withFaces 25 = .ok (.aload_n 0, 1) := by decide +kernel
theorem dX9_withFaces_26 : decode cX9_withFaces 26 = .ok (.getfield 21, 3) := by decide +kernel
theorem dX9_withFaces_29 : decode cX9_withFaces 29 = .ok (.iload 5, 2) := by decide +kernel
theorem dX9_withFaces_31 : decode cX9_withFaces 31 = .ok (.laload, 1) := by decide +kernel
theorem dX9_withFaces_32 : decode cX9_withFaces 32 = .ok (.lor, 1) := by decide +kernel
theorem dX9_withFaces_33 : decode cX9_withFaces 33 = .ok (.lstore_n 3, 1) := by decide +kernel
theorem dX9_withFaces_34 : decode cX9_withFaces 34 = .ok (.iinc 5 (-1), 3) := by decide +kernel
theorem dX9_withFaces_37 : decode cX9_withFaces 37 = .ok (.goto (-27), 3) := by decide +kernel
theorem dX9_withFaces_40 : decode cX9_withFaces 40 = .ok (.lload_n 3, 1) := by decide +kernel
theorem dX9_withFaces_41 : decode cX9_withFaces 41 = .ok (.lreturn, 1) := by decide +kernel
theorem dX9_partsOf_0 : decode cX9_partsOf 0 = .ok (.iconst 0, 1) := by decide +kernel
theorem dX9_partsOf_1 : decode cX9_partsOf 1 = .ok (.istore_n 3, 1) := by decide +kernel
theorem dX9_partsOf_2 : decode cX9_partsOf 2 = .ok (.lload_n 1, 1) := by decide +kernel
theorem dX9_partsOf_3 : decode cX9_partsOf 3 = .ok (.lstore 4, 2) := by decide +kernel
theorem dX9_partsOf_5 : decode cX9_partsOf 5 = .ok (.lload 4, 2) := by decide +kernel
theorem dX9_partsOf_7 : decode cX9_partsOf 7 = .ok (.lconst 0, 1) := by decide +kernel
theorem dX9_partsOf_8 : decode cX9_partsOf 8 = .ok (.lcmp, 1) := by decide +kernel
theorem dX9_partsOf_9 : decode cX9_partsOf 9 = .ok (.ifCond .eq 34, 3) := by decide +kernel
theorem dX9_partsOf_12 : decode cX9_partsOf 12 = .ok (.iload_n 3, 1) := by decide +kernel
theorem dX9_partsOf_13 : decode cX9_partsOf 13 = .ok (.bipush 60, 2) := by decide +kernel
theorem dX9_partsOf_15 : decode cX9_partsOf 15 = .ok (.if_icmp .ge 28, 3) := by decide +kernel
theorem dX9_partsOf_18 : decode cX9_partsOf 18 = .ok (.lload 4, 2) := by decide +kernel
theorem dX9_partsOf_20 : decode cX9_partsOf 20 = .ok (.aload_n 0, 1) := by decide +kernel
theorem dX9_partsOf_21 : decode cX9_partsOf 21 = .ok (.lload 4, 2) := by decide +kernel
theorem dX9_partsOf_23 : decode cX9_partsOf 23 = .ok (.invokestatic 67, 3) := by decide +kernel
theorem dX9_partsOf_26 : decode cX9_partsOf 26 = .ok (.lload_n 1, 1) := by decide +kernel
theorem dX9_partsOf_27 : decode cX9_partsOf 27 = .ok (.invokevirtual 70, 3) := by decide +kernel
theorem dX9_partsOf_30 : decode cX9_partsOf 30 = .ok (.ldc2_w 74, 3) := by decide +kernel
theorem dX9_partsOf_33 : decode cX9_partsOf 33 = .ok (.lxor, 1) := by decide +kernel
theorem dX9_partsOf_34 : decode cX9_partsOf 34 = .ok (.land, 1) := by decide +kernel
theorem dX9_partsOf_35 : decode cX9_partsOf 35 = .ok (.lstore 4, 2) := by decide +kernel
theorem dX9_partsOf_37 : decode cX9_partsOf 37 = .ok (.iinc 3 1, 3) := by decide +kernel
theorem dX9_partsOf_40 : decode cX9_partsOf 40 = .ok (.goto (-35), 3) := by decide +kernel
theorem dX9_partsOf_43 : decode cX9_partsOf 43 = .ok (.iload_n 3, 1) := by decide +kernel
theorem dX9_partsOf_44 : decode cX9_partsOf 44 = .ok (.ireturn, 1) := by decide +kernel
theorem dX9_hangingWith_0 : decode cX9_hangingWith 0 = .ok (.iload_n 1, 1) := by decide +kernel
theorem dX9_hangingWith_1 : decode cX9_hangingWith 1 = .ok (.invokestatic 41, 3) := by decide +kernel
theorem dX9_hangingWith_4 : decode cX9_hangingWith 4 = .ok (.lstore 4, 2) := by decide +kernel
theorem dX9_hangingWith_6 : decode cX9_hangingWith 6 = .ok (.lload 4, 2) := by decide +kernel
theorem dX9_hangingWith_8 : decode cX9_hangingWith 8 = .ok (.lstore 6, 2) := by decide +kernel
theorem dX9_hangingWith_10 : decode cX9_hangingWith 10 = .ok (.iconst 0, 1) := by decide +kernel
theorem dX9_hangingWith_11 : decode cX9_hangingWith 11 = .ok (.istore 8, 2) := by decide +kernel
theorem dX9_hangingWith_13 : decode cX9_hangingWith 13 = .ok (.iload 8, 2) := by decide +kernel
theorem dX9_hangingWith_15 : decode cX9_hangingWith 15 = .ok (.bipush 60, 2) := by decide +kernel
theorem dX9_hangingWith_17 : decode cX9_hangingWith 17 = .ok (.if_icmp .ge 73, 3) := by decide +kernel
theorem dX9_hangingWith_20 : decode cX9_hangingWith 20 = .ok (.lload 6, 2) := by decide +kernel
theorem dX9_hangingWith_22 : decode cX9_hangingWith 22 = .ok (.lconst 0, 1) := by decide +kernel
theorem dX9_hangingWith_23 : decode cX9_hangingWith 23 = .ok (.lcmp, 1) := by decide +kernel
theorem dX9_hangingWith_24 : decode cX9_hangingWith 24 = .ok (.ifCond .eq 66, 3) := by decide +kernel
theorem dX9_hangingWith_27 : decode cX9_hangingWith 27 = .ok (.lload 6, 2) := by decide +kernel
theorem dX9_hangingWith_29 : decode cX9_hangingWith 29 = .ok (.invokestatic 67, 3) := by decide +kernel
theorem dX9_hangingWith_32 : decode cX9_hangingWith 32 = .ok (.istore 9, 2) := by decide +kernel
theorem dX9_hangingWith_34 : decode cX9_hangingWith 34 = .ok (.aload_n 0, 1) := by decide +kernel
theorem dX9_hangingWith_35 : decode cX9_hangingWith 35 = .ok (.getfield 21, 3) := by decide +kernel
theorem dX9_hangingWith_38 : decode cX9_hangingWith 38 = .ok (.iload 9, 2) := by decide +kernel
theorem dX9_hangingWith_40 : decode cX9_hangingWith 40 = .ok (.laload, 1) := by decide +kernel
theorem dX9_hangingWith_41 : decode cX9_hangingWith 41 = .ok (.aload_n 0, 1) := by decide +kernel
theorem dX9_hangingWith_42 : decode cX9_hangingWith 42 = .ok (.getfield 25, 3) := by decide +kernel
theorem dX9_hangingWith_45 : decode cX9_hangingWith 45 = .ok (.iload 9, 2) := by decide +kernel
theorem dX9_hangingWith_47 : decode cX9_hangingWith 47 = .ok (.laload, 1) := by decide +kernel
theorem dX9_hangingWith_48 : decode cX9_hangingWith 48 = .ok (.lor, 1) := by decide +kernel
theorem dX9_hangingWith_49 : decode cX9_hangingWith 49 = .ok (.lload_n 2, 1) := by decide +kernel
theorem dX9_hangingWith_50 : decode cX9_hangingWith 50 = .ok (.land, 1) := by decide +kernel
theorem dX9_hangingWith_51 : decode cX9_hangingWith 51 = .ok (.lload 4, 2) := by decide +kernel
theorem dX9_hangingWith_53 : decode cX9_hangingWith 53 = .ok (.ldc2_w 74, 3) := by decide +kernel
theorem dX9_hangingWith_56 : decode cX9_hangingWith 56 = .ok (.lxor, 1) := by decide +kernel
theorem dX9_hangingWith_57 : decode cX9_hangingWith 57 = .ok (.land, 1) := by decide +kernel
theorem dX9_hangingWith_58 : decode cX9_hangingWith 58 = .ok (.lstore 10, 2) := by decide +kernel
theorem dX9_hangingWith_60 : decode cX9_hangingWith 60 = .ok (.lload 4, 2) := by decide +kernel
theorem dX9_hangingWith_62 : decode cX9_hangingWith 62 = .ok (.lload 10, 2) := by decide +kernel
theorem dX9_hangingWith_64 : decode cX9_hangingWith 64 = .ok (.lor, 1) := by decide +kernel
theorem dX9_hangingWith_65 : decode cX9_hangingWith 65 = .ok (.lstore 4, 2) := by decide +kernel
theorem dX9_hangingWith_67 : decode cX9_hangingWith 67 = .ok (.lload 6, 2) := by decide +kernel
theorem dX9_hangingWith_69 : decode cX9_hangingWith 69 = .ok (.lload 10, 2) := by decide +kernel
theorem dX9_hangingWith_71 : decode cX9_hangingWith 71 = .ok (.lor, 1) := by decide +kernel
theorem dX9_hangingWith_72 : decode cX9_hangingWith 72 = .ok (.iload 9, 2) := by decide +kernel
theorem dX9_hangingWith_74 : decode cX9_hangingWith 74 = .ok (.invokestatic 41, 3) := by decide +kernel
theorem dX9_hangingWith_77 : decode cX9_hangingWith 77 = .ok (.ldc2_w 74, 3) := by decide +kernel
theorem dX9_hangingWith_80 : decode cX9_hangingWith 80 = .ok (.lxor, 1) := by decide +kernel
theorem dX9_hangingWith_81 : decode cX9_hangingWith 81 = .ok (.land, 1) := by decide +kernel
theorem dX9_hangingWith_82 : decode cX9_hangingWith 82 = .ok (.lstore 6, 2) := by decide +kernel
theorem dX9_hangingWith_84 : decode cX9_hangingWith 84 = .ok (.iinc 8 1, 3) := by decide +kernel
theorem dX9_hangingWith_87 : decode cX9_hangingWith 87 = .ok (.goto (-74), 3) := by decide +kernel
theorem dX9_hangingWith_90 : decode cX9_hangingWith 90 = .ok (.lload 4, 2) := by decide +kernel
theorem dX9_hangingWith_92 : decode cX9_hangingWith 92 = .ok (.lreturn, 1) := by decide +kernel
theorem dX10_at_0 : decode cX10_at 0 = .ok (.iload_n 1, 1) := by decide +kernel
theorem dX10_at_1 : decode cX10_at 1 = .ok (.ifCond .lt 20, 3) := by decide +kernel
theorem dX10_at_4 : decode cX10_at 4 = .ok (.iload_n 1, 1) := by decide +kernel
theorem dX10_at_5 : decode cX10_at 5 = .ok (.aload_n 0, 1) := by decide +kernel
theorem dX10_at_6 : decode cX10_at 6 = .ok (.getfield 15, 3) := by decide +kernel
theorem dX10_at_9 : decode cX10_at 9 = .ok (.if_icmp .ge 12, 3) := by decide +kernel
theorem dX10_at_12 : decode cX10_at 12 = .ok (.aload_n 0, 1) := by decide +kernel
theorem dX10_at_13 : decode cX10_at 13 = .ok (.getfield 9, 3) := by decide +kernel
theorem dX10_at_16 : decode cX10_at 16 = .ok (.iload_n 1, 1) := by decide +kernel
theorem dX10_at_17 : decode cX10_at 17 = .ok (.iaload, 1) := by decide +kernel
theorem dX10_at_18 : decode cX10_at 18 = .ok (.goto 4, 3) := by decide +kernel
theorem dX10_at_21 : decode cX10_at 21 = .ok (.iconst (-1), 1) := by decide +kernel
theorem dX10_at_22 : decode cX10_at 22 = .ok (.ireturn, 1) := by decide +kernel
theorem dX11_complex_0 : decode cX11_complex 0 = .ok (.aload_n 0, 1) := by decide +kernel
theorem dX11_complex_1 : decode cX11_complex 1 = .ok (.getfield 19, 3) := by decide +kernel
theorem dX11_complex_4 : decode cX11_complex 4 = .ok (.aload_n 0, 1) := by decide +kernel
theorem dX11_complex_5 : decode cX11_complex 5 = .ok (.getfield 10, 3) := by decide +kernel
theorem dX11_complex_8 : decode cX11_complex 8 = .ok (.invokevirtual 95, 3) := by decide +kernel
theorem dX11_complex_11 : decode cX11_complex 11 = .ok (.istore_n 1, 1) := by decide +kernel
theorem dX11_complex_12 : decode cX11_complex 12 = .ok (.aload_n 0, 1) := by decide +kernel
theorem dX11_complex_13 : decode cX11_complex 13 = .ok (.getfield 10, 3) := by decide +kernel
theorem dX11_complex_16 : decode cX11_complex 16 = .ok (.iconst 0, 1) := by decide +kernel
theorem dX11_complex_17 : decode cX11_complex 17 = .ok (.putfield 87, 3) := by decide +kernel
theorem dX11_complex_20 : decode cX11_complex 20 = .ok (.iload_n 1, 1) := by decide +kernel
theorem dX11_complex_21 : decode cX11_complex 21 = .ok (.ifCond .eq 8, 3) := by decide +kernel
theorem dX11_complex_24 : decode cX11_complex 24 = .ok (.bipush (-2), 2) := by decide +kernel
theorem dX11_complex_26 : decode cX11_complex 26 = .ok (.iload_n 1, 1) := by decide +kernel
theorem dX11_complex_27 : decode cX11_complex 27 = .ok (.isub, 1) := by decide +kernel
theorem dX11_complex_28 : decode cX11_complex 28 = .ok (.ireturn, 1) := by decide +kernel
theorem dX11_complex_29 : decode cX11_complex 29 = .ok (.aload_n 0, 1) := by decide +kernel
theorem dX11_complex_30 : decode cX11_complex 30 = .ok (.getfield 26, 3) := by decide +kernel
theorem dX11_complex_33 : decode cX11_complex 33 = .ok (.aload_n 0, 1) := by decide +kernel
theorem dX11_complex_34 : decode cX11_complex 34 = .ok (.getfield 19, 3) := by decide +kernel
theorem dX11_complex_37 : decode cX11_complex 37 = .ok (.getfield 99, 3) := by decide +kernel
theorem dX11_complex_40 : decode cX11_complex 40 = .ok (.invokevirtual 103, 3) := by decide +kernel
theorem dX11_complex_43 : decode cX11_complex 43 = .ok (.aload_n 0, 1) := by decide +kernel
theorem dX11_complex_44 : decode cX11_complex 44 = .ok (.getfield 35, 3) := by decide +kernel
theorem dX11_complex_47 : decode cX11_complex 47 = .ok (.aload_n 0, 1) := by decide +kernel
theorem dX11_complex_48 : decode cX11_complex 48 = .ok (.getfield 26, 3) := by decide +kernel
theorem dX11_complex_51 : decode cX11_complex 51 = .ok (.invokevirtual 107, 3) := by decide +kernel
theorem dX11_complex_54 : decode cX11_complex 54 = .ok (.invokevirtual 111, 3) := by decide +kernel
theorem dX11_complex_57 : decode cX11_complex 57 = .ok (.aload_n 0, 1) := by decide +kernel
theorem dX11_complex_58 : decode cX11_complex 58 = .ok (.getfield 76, 3) := by decide +kernel
theorem dX11_complex_61 : decode cX11_complex 61 = .ok (.iconst 0, 1) := by decide +kernel
theorem dX11_complex_62 : decode cX11_complex 62 = .ok (.putfield 115, 3) := by decide +kernel
theorem dX11_complex_65 : decode cX11_complex 65 = .ok (.aload_n 0, 1) := by decide +kernel
theorem dX11_complex_66 : decode cX11_complex 66 = .ok (.getfield 83, 3) := by decide +kernel
theorem dX11_complex_69 : decode cX11_complex 69 = .ok (.invokevirtual 116, 3) := by decide +kernel
theorem dX11_complex_72 : decode cX11_complex 72 = .ok (.aload_n 0, 1) := by decide +kernel
theorem dX11_complex_73 : decode cX11_complex 73 = .ok (.getfield 26, 3) := by decide +kernel
theorem dX11_complex_76 : decode cX11_complex 76 = .ok (.getfield 119, 3) := by decide +kernel
theorem dX11_complex_79 : decode cX11_complex 79 = .ok (.ireturn, 1) := by decide +kernel
theorem dX11_simplex_0 : decode cX11_simplex 0 = .ok (.aload_n 0, 1) := by decide +kernel
theorem dX11_simplex_1 : decode cX11_simplex 1 = .ok (.getfield 26, 3) := by decide +kernel
theorem dX11_simplex_4 : decode cX11_simplex 4 = .ok (.iload_n 1, 1) := by decide +kernel
theorem dX11_simplex_5 : decode cX11_simplex 5 = .ok (.invokevirtual 120, 3) := by decide +kernel
theorem dX11_simplex_8 : decode cX11_simplex 8 = .ok (.ifCond .ne 5, 3) := by decide +kernel
theorem dX11_simplex_11 : decode cX11_simplex 11 = .ok (.iconst (-1), 1) := by decide +kernel
theorem dX11_simplex_12 : decode cX11_simplex 12 = .ok (.ireturn, 1) := by decide +kernel
theorem dX11_simplex_13 : decode cX11_simplex 13 = .ok (.iload_n 2, 1) := by decide +kernel
theorem dX11_simplex_14 : decode cX11_simplex 14 = .ok (.tableswitch 125 0 6 #[42, 52, 62, 76, 86, 95, 104], 42) := by decide +kernel
theorem dX11_simplex_56 : decode cX11_simplex 56 = .ok (.aload_n 0, 1) := by decide +kernel
theorem dX11_simplex_57 : decode cX11_simplex 57 = .ok (.getfield 26, 3) := by decide +kernel
theorem dX11_simplex_60 : decode cX11_simplex 60 = .ok (.getfield 124, 3) := by decide +kernel
theorem dX11_simplex_63 : decode cX11_simplex 63 = .ok (.iload_n 1, 1) := by decide +kernel
theorem dX11_simplex_64 : decode cX11_simplex 64 = .ok (.iaload, 1) := by decide +kernel
theorem dX11_simplex_65 : decode cX11_simplex 65 = .ok (.ireturn, 1) := by decide +kernel
theorem dX11_simplex_66 : decode cX11_simplex 66 = .ok (.aload_n 0, 1) := by decide +kernel
theorem dX11_simplex_67 : decode cX11_simplex 67 = .ok (.getfield 26, 3) := by decide +kernel
theorem dX11_simplex_70 : decode cX11_simplex 70 = .ok (.getfield 127, 3) := by decide +kernel
theorem dX11_simplex_73 : decode cX11_simplex 73 = .ok (.iload_n 1, 1) := by decide +kernel
theorem dX11_simplex_74 : decode cX11_simplex 74 = .ok (.iaload, 1) := by decide +kernel
theorem dX11_simplex_75 : decode cX11_simplex 75 = .ok (.ireturn, 1) := by decide +kernel
theorem dX11_simplex_76 : decode cX11_simplex 76 = .ok (.aload_n 0, 1) := by decide +kernel
theorem dX11_simplex_77 : decode cX11_simplex 77 = .ok (.iload_n 1, 1) := by decide +kernel
theorem dX11_simplex_78 : decode cX11_simplex 78 = .ok (.invokevirtual 130, 3) := by decide +kernel
theorem dX11_simplex_81 : decode cX11_simplex 81 = .ok (.ifCond .eq 7, 3) := by decide +kernel
theorem dX11_simplex_84 : decode cX11_simplex 84 = .ok (.iconst 1, 1) := by decide +kernel
theorem dX11_simplex_85 : decode cX11_simplex 85 = .ok (.goto 4, 3) := by decide +kernel
theorem dX11_simplex_88 : decode cX11_simplex 88 = .ok (.iconst 0, 1) := by decide +kernel
theorem dX11_simplex_89 : decode cX11_simplex 89 = .ok (.ireturn, 1) := by decide +kernel
theorem dX11_simplex_90 : decode cX11_simplex 90 = .ok (.aload_n 0, 1) := by decide +kernel
theorem dX11_simplex_91 : decode cX11_simplex 91 = .ok (.getfield 35, 3) := by decide +kernel
theorem dX11_simplex_94 : decode cX11_simplex 94 = .ok (.getfield 133, 3) := by decide +kernel
theorem dX11_simplex_97 : decode cX11_simplex 97 = .ok (.iload_n 1, 1) := by decide +kernel
theorem dX11_simplex_98 : decode cX11_simplex 98 = .ok (.iaload, 1) := by decide +kernel
theorem dX11_simplex_99 : decode cX11_simplex 99 = .ok (.ireturn, 1) := by decide +kernel
theorem dX11_simplex_100 : decode cX11_simplex 100 = .ok (.aload_n 0, 1) := by decide +kernel
theorem dX11_simplex_101 : decode cX11_simplex 101 = .ok (.getfield 35, 3) := by decide +kernel
theorem dX11_simplex_104 : decode cX11_simplex 104 = .ok (.iload_n 1, 1) := by decide +kernel
theorem dX11_simplex_105 : decode cX11_simplex 105 = .ok (.invokevirtual 136, 3) := by decide +kernel
theorem dX11_simplex_108 : decode cX11_simplex 108 = .ok (.ireturn, 1) := by decide +kernel
theorem dX11_simplex_109 : decode cX11_simplex 109 = .ok (.aload_n 0, 1) := by decide +kernel
theorem dX11_simplex_110 : decode cX11_simplex 110 = .ok (.getfield 51, 3) := by decide +kernel
theorem dX11_simplex_113 : decode cX11_simplex 113 = .ok (.iload_n 1, 1) := by decide +kernel
theorem dX11_simplex_114 : decode cX11_simplex 114 = .ok (.invokevirtual 140, 3) := by decide +kernel
theorem dX11_simplex_117 : decode cX11_simplex 117 = .ok (.ireturn, 1) := by decide +kernel
theorem dX11_simplex_118 : decode cX11_simplex 118 = .ok (.aload_n 0, 1) := by decide +kernel
theorem dX11_simplex_119 : decode cX11_simplex 119 = .ok (.getfield 26, 3) := by decide +kernel
theorem dX11_simplex_122 : decode cX11_simplex 122 = .ok (.getfield 143, 3) := by decide +kernel
theorem dX11_simplex_125 : decode cX11_simplex 125 = .ok (.iload_n 1, 1) := by decide +kernel
theorem dX11_simplex_126 : decode cX11_simplex 126 = .ok (.laload, 1) := by decide +kernel
theorem dX11_simplex_127 : decode cX11_simplex 127 = .ok (.aload_n 0, 1) := by decide +kernel
theorem dX11_simplex_128 : decode cX11_simplex 128 = .ok (.getfield 35, 3) := by decide +kernel
theorem dX11_simplex_131 : decode cX11_simplex 131 = .ok (.getfield 147, 3) := by decide +kernel
theorem dX11_simplex_134 : decode cX11_simplex 134 = .ok (.land, 1) := by decide +kernel
theorem dX11_simplex_135 : decode cX11_simplex 135 = .ok (.invokestatic 151, 3) := by decide +kernel
theorem dX11_simplex_138 : decode cX11_simplex 138 = .ok (.ireturn, 1) := by decide +kernel
theorem dX11_simplex_139 : decode cX11_simplex 139 = .ok (.iconst (-1), 1) := by decide +kernel
theorem dX11_simplex_140 : decode cX11_simplex 140 = .ok (.ireturn, 1) := by decide +kernel
theorem dX11_number_0 : decode cX11_number 0 = .ok (.iload_n 1, 1) := by decide +kernel
theorem dX11_number_1 : decode cX11_number 1 = .ok (.ifCond .lt 10, 3) := by decide +kernel
theorem dX11_number_4 : decode cX11_number 4 = .ok (.iload_n 1, 1) := by decide +kernel
theorem dX11_number_5 : decode cX11_number 5 = .ok (.sipush 256, 3) := by decide +kernel
theorem dX11_number_8 : decode cX11_number 8 = .ok (.if_icmp .lt 5, 3) := by decide +kernel
theorem dX11_number_11 : decode cX11_number 11 = .ok (.iconst (-1), 1) := by decide +kernel
theorem dX11_number_12 : decode cX11_number 12 = .ok (.ireturn, 1) := by decide +kernel
theorem dX11_number_13 : decode cX11_number 13 = .ok (.aload_n 0, 1) := by decide +kernel
theorem dX11_number_14 : decode cX11_number 14 = .ok (.getfield 26, 3) := by decide +kernel
theorem dX11_number_17 : decode cX11_number 17 = .ok (.getfield 157, 3) := by decide +kernel
theorem dX11_number_20 : decode cX11_number 20 = .ok (.iload_n 1, 1) := by decide +kernel
theorem dX11_number_21 : decode cX11_number 21 = .ok (.iaload, 1) := by decide +kernel
theorem dX11_number_22 : decode cX11_number 22 = .ok (.ireturn, 1) := by decide +kernel
theorem dX11_sign_0 : decode cX11_sign 0 = .ok (.aload_n 0, 1) := by decide +kernel
theorem dX11_sign_1 : decode cX11_sign 1 = .ok (.getfield 26, 3) := by decide +kernel
theorem dX11_sign_4 : decode cX11_sign 4 = .ok (.iload_n 1, 1) := by decide +kernel
theorem dX11_sign_5 : decode cX11_sign 5 = .ok (.invokevirtual 120, 3) := by decide +kernel
theorem dX11_sign_8 : decode cX11_sign 8 = .ok (.ifCond .eq 14, 3) := by decide +kernel
theorem dX11_sign_11 : decode cX11_sign 11 = .ok (.aload_n 0, 1) := by decide +kernel
theorem dX11_sign_12 : decode cX11_sign 12 = .ok (.getfield 26, 3) := by decide +kernel
theorem dX11_sign_15 : decode cX11_sign 15 = .ok (.iload_n 2, 1) := by decide +kernel
theorem dX11_sign_16 : decode cX11_sign 16 = .ok (.invokevirtual 120, 3) := by decide +kernel
theorem dX11_sign_19 : decode cX11_sign 19 = .ok (.ifCond .ne 6, 3) := by decide +kernel
theorem dX11_sign_22 : decode cX11_sign 22 = .ok (.ldc 160, 2) := by decide +kernel
theorem dX11_sign_24 : decode cX11_sign 24 = .ok (.ireturn, 1) := by decide +kernel
theorem dX11_sign_25 : decode cX11_sign 25 = .ok (.aload_n 0, 1) := by decide +kernel
theorem dX11_sign_26 : decode cX11_sign 26 = .ok (.getfield 26, 3) := by decide +kernel
theorem dX11_sign_29 : decode cX11_sign 29 = .ok (.iload_n 1, 1) := by decide +kernel
theorem dX11_sign_30 : decode cX11_sign 30 = .ok (.iload_n 2, 1) := by decide +kernel
theorem dX11_sign_31 : decode cX11_sign 31 = .ok (.invokevirtual 161, 3) := by decide +kernel
theorem dX11_sign_34 : decode cX11_sign 34 = .ok (.ireturn, 1) := by decide +kernel
theorem dX11_pair_0 : decode cX11_pair 0 = .ok (.aload_n 0, 1) := by decide +kernel
theorem dX11_pair_1 : decode cX11_pair 1 = .ok (.iload_n 1, 1) := by decide +kernel
theorem dX11_pair_2 : decode cX11_pair 2 = .ok (.invokevirtual 130, 3) := by decide +kernel
theorem dX11_pair_5 : decode cX11_pair 5 = .ok (.ifCond .eq 27, 3) := by decide +kernel
theorem dX11_pair_8 : decode cX11_pair 8 = .ok (.aload_n 0, 1) := by decide +kernel
theorem dX11_pair_9 : decode cX11_pair 9 = .ok (.iload_n 2, 1) := by decide +kernel
theorem dX11_pair_10 : decode cX11_pair 10 = .ok (.invokevirtual 130, 3) := by decide +kernel
theorem dX11_pair_13 : decode cX11_pair 13 = .ok (.ifCond .eq 19, 3) := by decide +kernel
theorem dX11_pair_16 : decode cX11_pair 16 = .ok (.aload_n 0, 1) := by decide +kernel
theorem dX11_pair_17 : decode cX11_pair 17 = .ok (.getfield 26, 3) := by decide +kernel
theorem dX11_pair_20 : decode cX11_pair 20 = .ok (.getfield 165, 3) := by decide +kernel
theorem dX11_pair_23 : decode cX11_pair 23 = .ok (.iload_n 2, 1) := by decide +kernel
theorem dX11_pair_24 : decode cX11_pair 24 = .ok (.laload, 1) := by decide +kernel
theorem dX11_pair_25 : decode cX11_pair 25 = .ok (.iload_n 1, 1) := by decide +kernel
theorem dX11_pair_26 : decode cX11_pair 26 = .ok (.invokestatic 168, 3) := by decide +kernel
theorem dX11_pair_29 : decode cX11_pair 29 = .ok (.ifCond .ne 5, 3) := by decide +kernel
theorem dX11_pair_32 : decode cX11_pair 32 = .ok (.iconst (-1), 1) := by decide +kernel
theorem dX11_pair_33 : decode cX11_pair 33 = .ok (.ireturn, 1) := by decide +kernel
theorem dX11_pair_34 : decode cX11_pair 34 = .ok (.aload_n 0, 1) := by decide +kernel
theorem dX11_pair_35 : decode cX11_pair 35 = .ok (.getfield 35, 3) := by decide +kernel
theorem dX11_pair_38 : decode cX11_pair 38 = .ok (.iload_n 1, 1) := by decide +kernel
theorem dX11_pair_39 : decode cX11_pair 39 = .ok (.invokevirtual 172, 3) := by decide +kernel
theorem dX11_pair_42 : decode cX11_pair 42 = .ok (.ifCond .eq 14, 3) := by decide +kernel
theorem dX11_pair_45 : decode cX11_pair 45 = .ok (.aload_n 0, 1) := by decide +kernel
theorem dX11_pair_46 : decode cX11_pair 46 = .ok (.getfield 35, 3) := by decide +kernel
theorem dX11_pair_49 : decode cX11_pair 49 = .ok (.iload_n 2, 1) := by decide +kernel
theorem dX11_pair_50 : decode cX11_pair 50 = .ok (.invokevirtual 172, 3) := by decide +kernel
theorem dX11_pair_53 : decode cX11_pair 53 = .ok (.ifCond .ne 5, 3) := by decide +kernel
theorem dX11_pair_56 : decode cX11_pair 56 = .ok (.iconst (-1), 1) := by decide +kernel
theorem dX11_pair_57 : decode cX11_pair 57 = .ok (.ireturn, 1) := by decide +kernel
theorem dX11_pair_58 : decode cX11_pair 58 = .ok (.aload_n 0, 1) := by decide +kernel
theorem dX11_pair_59 : decode cX11_pair 59 = .ok (.getfield 35, 3) := by decide +kernel
theorem dX11_pair_62 : decode cX11_pair 62 = .ok (.iload_n 1, 1) := by decide +kernel
theorem dX11_pair_63 : decode cX11_pair 63 = .ok (.iload_n 2, 1) := by decide +kernel
theorem dX11_pair_64 : decode cX11_pair 64 = .ok (.invokevirtual 175, 3) := by decide +kernel
theorem dX11_pair_67 : decode cX11_pair 67 = .ok (.ifCond .ne 6, 3) := by decide +kernel
theorem dX11_pair_70 : decode cX11_pair 70 = .ok (.bipush (-2), 2) := by decide +kernel
theorem dX11_pair_72 : decode cX11_pair 72 = .ok (.ireturn, 1) := by decide +kernel
theorem dX11_pair_73 : decode cX11_pair 73 = .ok (.aload_n 0, 1) := by decide +kernel
theorem dX11_pair_74 : decode cX11_pair 74 = .ok (.getfield 76, 3) := by decide +kernel
theorem dX11_pair_77 : decode cX11_pair 77 = .ok (.aload_n 0, 1) := by decide +kernel
theorem dX11_pair_78 : decode cX11_pair 78 = .ok (.getfield 35, 3) := by decide +kernel
theorem dX11_pair_81 : decode cX11_pair 81 = .ok (.invokevirtual 179, 3) := by decide +kernel
theorem dX11_pair_84 : decode cX11_pair 84 = .ok (.aload_n 0, 1) := by decide +kernel
theorem dX11_pair_85 : decode cX11_pair 85 = .ok (.getfield 35, 3) := by decide +kernel
theorem dX11_pair_88 : decode cX11_pair 88 = .ok (.iload_n 1, 1) := by decide +kernel
theorem dX11_pair_89 : decode cX11_pair 89 = .ok (.iload_n 2, 1) := by decide +kernel
theorem dX11_pair_90 : decode cX11_pair 90 = .ok (.invokevirtual 183, 3) := by decide +kernel
theorem dX11_pair_93 : decode cX11_pair 93 = .ok (.aload_n 0, 1) := by decide +kernel
theorem dX11_pair_94 : decode cX11_pair 94 = .ok (.invokevirtual 187, 3) := by decide +kernel
theorem dX11_pair_97 : decode cX11_pair 97 = .ok (.ireturn, 1) := by decide +kernel
theorem dX11_part_0 : decode cX11_part 0 = .ok (.aload_n 0, 1) := by decide +kernel
theorem dX11_part_1 : decode cX11_part 1 = .ok (.iload_n 1, 1) := by decide +kernel
theorem dX11_part_2 : decode cX11_part 2 = .ok (.invokevirtual 130, 3) := by decide +kernel
theorem dX11_part_5 : decode cX11_part 5 = .ok (.ifCond .eq 16, 3) := by decide +kernel
theorem dX11_part_8 : decode cX11_part 8 = .ok (.aload_n 0, 1) := by decide +kernel
theorem dX11_part_9 : decode cX11_part 9 = .ok (.getfield 35, 3) := by decide +kernel
theorem dX11_part_12 : decode cX11_part 12 = .ok (.getfield 133, 3) := by decide +kernel
theorem dX11_part_15 : decode cX11_part 15 = .ok (.iload_n 1, 1) := by decide +kernel
theorem dX11_part_16 : decode cX11_part 16 = .ok (.iaload, 1) := by decide +kernel
theorem dX11_part_17 : decode cX11_part 17 = .ok (.iconst (-1), 1) := by decide +kernel
theorem dX11_part_18 : decode cX11_part 18 = .ok (.if_icmp .ne 5, 3) := by decide +kernel
theorem dX11_part_21 : decode cX11_part 21 = .ok (.iconst (-1), 1) := by decide +kernel
theorem dX11_part_22 : decode cX11_part 22 = .ok (.ireturn, 1) := by decide +kernel
theorem dX11_part_23 : decode cX11_part 23 = .ok (.aload_n 0, 1) := by decide +kernel
theorem dX11_part_24 : decode cX11_part 24 = .ok (.getfield 76, 3) := by decide +kernel
theorem dX11_part_27 : decode cX11_part 27 = .ok (.aload_n 0, 1) := by decide +kernel
theorem dX11_part_28 : decode cX11_part 28 = .ok (.getfield 35, 3) := by decide +kernel
theorem dX11_part_31 : decode cX11_part 31 = .ok (.invokevirtual 179, 3) := by decide +kernel
theorem dX11_part_34 : decode cX11_part 34 = .ok (.aload_n 0, 1) := by decide +kernel
theorem dX11_part_35 : decode cX11_part 35 = .ok (.getfield 35, 3) := by decide +kernel
theorem dX11_part_38 : decode cX11_part 38 = .ok (.iload_n 1, 1) := by decide +kernel
theorem dX11_part_39 : decode cX11_part 39 = .ok (.invokevirtual 191, 3) := by decide +kernel
theorem dX11_part_42 : decode cX11_part 42 = .ok (.aload_n 0, 1) := by decide +kernel
theorem dX11_part_43 : decode cX11_part 43 = .ok (.invokevirtual 187, 3) := by decide +kernel
theorem dX11_part_46 : decode cX11_part 46 = .ok (.ireturn, 1) := by decide +kernel
theorem dX11_auto_0 : decode cX11_auto 0 = .ok (.iload_n 1, 1) := by decide +kernel
theorem dX11_auto_1 : decode cX11_auto 1 = .ok (.ifCond .lt 18, 3) := by decide +kernel
theorem dX11_auto_4 : decode cX11_auto 4 = .ok (.iload_n 1, 1) := by decide +kernel
theorem dX11_auto_5 : decode cX11_auto 5 = .ok (.iconst 2, 1) := by decide +kernel
theorem dX11_auto_6 : decode cX11_auto 6 = .ok (.if_icmp .gt 13, 3) := by decide +kernel
theorem dX11_auto_9 : decode cX11_auto 9 = .ok (.aload_n 0, 1) := by decide +kernel
theorem dX11_auto_10 : decode cX11_auto 10 = .ok (.getfield 26, 3) := by decide +kernel
theorem dX11_auto_13 : decode cX11_auto 13 = .ok (.getfield 119, 3) := by decide +kernel
theorem dX11_auto_16 : decode cX11_auto 16 = .ok (.ifCond .ne 5, 3) := by decide +kernel
theorem dX11_auto_19 : decode cX11_auto 19 = .ok (.iconst (-1), 1) := by decide +kernel
theorem dX11_auto_20 : decode cX11_auto 20 = .ok (.ireturn, 1) := by decide +kernel
theorem dX11_auto_21 : decode cX11_auto 21 = .ok (.aload_n 0, 1) := by decide +kernel
theorem dX11_auto_22 : decode cX11_auto 22 = .ok (.getfield 76, 3) := by decide +kernel
theorem dX11_auto_25 : decode cX11_auto 25 = .ok (.aload_n 0, 1) := by decide +kernel
theorem dX11_auto_26 : decode cX11_auto 26 = .ok (.getfield 35, 3) := by decide +kernel
theorem dX11_auto_29 : decode cX11_auto 29 = .ok (.invokevirtual 179, 3) := by decide +kernel
theorem dX11_auto_32 : decode cX11_auto 32 = .ok (.aload_n 0, 1) := by decide +kernel
theorem dX11_auto_33 : decode cX11_auto 33 = .ok (.getfield 35, 3) := by decide +kernel
theorem dX11_auto_36 : decode cX11_auto 36 = .ok (.aload_n 0, 1) := by decide +kernel
theorem dX11_auto_37 : decode cX11_auto 37 = .ok (.getfield 35, 3) := by decide +kernel
theorem dX11_auto_40 : decode cX11_auto 40 = .ok (.getfield 147, 3) := by decide +kernel
theorem dX11_auto_43 : decode cX11_auto 43 = .ok (.invokevirtual 111, 3) := by decide +kernel
theorem dX11_auto_46 : decode cX11_auto 46 = .ok (.iload_n 1, 1) := by decide +kernel
theorem dX11_auto_47 : decode cX11_auto 47 = .ok (.ifCond .ne 10, 3) := by decide +kernel
theorem dX11_auto_50 : decode cX11_auto 50 = .ok (.aload_n 0, 1) := by decide +kernel
theorem dX11_auto_51 : decode cX11_auto 51 = .ok (.invokevirtual 194, 3) := by decide +kernel
theorem dX11_auto_54 : decode cX11_auto 54 = .ok (.goto 19, 3) := by decide +kernel
theorem dX11_auto_57 : decode cX11_auto 57 = .ok (.iload_n 1, 1) := by decide +kernel
theorem dX11_auto_58 : decode cX11_auto 58 = .ok (.iconst 1, 1) := by decide +kernel
theorem dX11_auto_59 : decode cX11_auto 59 = .ok (.if_icmp .ne 10, 3) := by decide +kernel
theorem dX11_auto_62 : decode cX11_auto 62 = .ok (.aload_n 0, 1) := by decide +kernel
theorem dX11_auto_63 : decode cX11_auto 63 = .ok (.invokevirtual 197, 3) := by decide +kernel
theorem dX11_auto_66 : decode cX11_auto 66 = .ok (.goto 7, 3) := by decide +kernel
theorem dX11_auto_69 : decode cX11_auto 69 = .ok (.aload_n 0, 1) := by decide +kernel
theorem dX11_auto_70 : decode cX11_auto 70 = .ok (.invokevirtual 200, 3) := by decide +kernel
theorem dX11_auto_73 : decode cX11_auto 73 = .ok (.aload_n 0, 1) := by decide +kernel
theorem dX11_auto_74 : decode cX11_auto 74 = .ok (.invokevirtual 187, 3) := by decide +kernel
theorem dX11_auto_77 : decode cX11_auto 77 = .ok (.ireturn, 1) := by decide +kernel
theorem dX11_cancel_0 : decode cX11_cancel 0 = .ok (.aload_n 0, 1) := by decide +kernel
theorem dX11_cancel_1 : decode cX11_cancel 1 = .ok (.iload_n 1, 1) := by decide +kernel
theorem dX11_cancel_2 : decode cX11_cancel 2 = .ok (.iload_n 2, 1) := by decide +kernel
theorem dX11_cancel_3 : decode cX11_cancel 3 = .ok (.invokevirtual 203, 3) := by decide +kernel
theorem dX11_cancel_6 : decode cX11_cancel 6 = .ok (.ifCond .ne 5, 3) := by decide +kernel
theorem dX11_cancel_9 : decode cX11_cancel 9 = .ok (.iconst (-1), 1) := by decide +kernel
theorem dX11_cancel_10 : decode cX11_cancel 10 = .ok (.ireturn, 1) := by decide +kernel
theorem dX11_cancel_11 : decode cX11_cancel 11 = .ok (.aload_n 0, 1) := by decide +kernel
theorem dX11_cancel_12 : decode cX11_cancel 12 = .ok (.getfield 60, 3) := by decide +kernel
theorem dX11_cancel_15 : decode cX11_cancel 15 = .ok (.iload_n 1, 1) := by decide +kernel
theorem dX11_cancel_16 : decode cX11_cancel 16 = .ok (.iload_n 2, 1) := by decide +kernel
theorem dX11_cancel_17 : decode cX11_cancel 17 = .ok (.invokevirtual 206, 3) := by decide +kernel
theorem dX11_cancel_20 : decode cX11_cancel 20 = .ok (.lconst 1, 1) := by decide +kernel
theorem dX11_cancel_21 : decode cX11_cancel 21 = .ok (.lcmp, 1) := by decide +kernel
theorem dX11_cancel_22 : decode cX11_cancel 22 = .ok (.ifCond .eq 6, 3) := by decide +kernel
theorem dX11_cancel_25 : decode cX11_cancel 25 = .ok (.bipush (-2), 2) := by decide +kernel
theorem dX11_cancel_27 : decode cX11_cancel 27 = .ok (.ireturn, 1) := by decide +kernel
theorem dX11_cancel_28 : decode cX11_cancel 28 = .ok (.aload_n 0, 1) := by decide +kernel
theorem dX11_cancel_29 : decode cX11_cancel 29 = .ok (.getfield 76, 3) := by decide +kernel
theorem dX11_cancel_32 : decode cX11_cancel 32 = .ok (.aload_n 0, 1) := by decide +kernel
theorem dX11_cancel_33 : decode cX11_cancel 33 = .ok (.getfield 35, 3) := by decide +kernel
theorem dX11_cancel_36 : decode cX11_cancel 36 = .ok (.invokevirtual 179, 3) := by decide +kernel
theorem dX11_cancel_39 : decode cX11_cancel 39 = .ok (.aload_n 0, 1) := by decide +kernel
theorem dX11_cancel_40 : decode cX11_cancel 40 = .ok (.getfield 60, 3) := by decide +kernel
theorem dX11_cancel_43 : decode cX11_cancel 43 = .ok (.iload_n 1, 1) := by decide +kernel
theorem dX11_cancel_44 : decode cX11_cancel 44 = .ok (.iload_n 2, 1) := by decide +kernel
theorem dX11_cancel_45 : decode cX11_cancel 45 = .ok (.lconst 0, 1) := by decide +kernel
theorem dX11_cancel_46 : decode cX11_cancel 46 = .ok (.invokevirtual 210, 3) := by decide +kernel
theorem dX11_cancel_49 : decode cX11_cancel 49 = .ok (.istore_n 3, 1) := by decide +kernel
theorem dX11_cancel_50 : decode cX11_cancel 50 = .ok (.iconst 1, 1) := by decide +kernel
theorem dX11_cancel_51 : decode cX11_cancel 51 = .ok (.istore 4, 2) := by decide +kernel
theorem dX11_cancel_53 : decode cX11_cancel 53 = .ok (.iload 4, 2) := by decide +kernel
theorem dX11_cancel_55 : decode cX11_cancel 55 = .ok (.iconst 1, 1) := by decide +kernel
theorem dX11_cancel_56 : decode cX11_cancel 56 = .ok (.iadd, 1) := by decide +kernel
theorem dX11_cancel_57 : decode cX11_cancel 57 = .ok (.iload_n 3, 1) := by decide +kernel
theorem dX11_cancel_58 : decode cX11_cancel 58 = .ok (.if_icmp .ge 26, 3) := by decide +kernel
theorem dX11_cancel_61 : decode cX11_cancel 61 = .ok (.aload_n 0, 1) := by decide +kernel
theorem dX11_cancel_62 : decode cX11_cancel 62 = .ok (.getfield 35, 3) := by decide +kernel
theorem dX11_cancel_65 : decode cX11_cancel 65 = .ok (.aload_n 0, 1) := by decide +kernel
theorem dX11_cancel_66 : decode cX11_cancel 66 = .ok (.getfield 60, 3) := by decide +kernel
theorem dX11_cancel_69 : decode cX11_cancel 69 = .ok (.getfield 214, 3) := by decide +kernel
theorem dX11_cancel_72 : decode cX11_cancel 72 = .ok (.iload 4, 2) := by decide +kernel
theorem dX11_cancel_74 : decode cX11_cancel 74 = .ok (.iaload, 1) := by decide +kernel
theorem dX11_cancel_75 : decode cX11_cancel 75 = .ok (.invokevirtual 191, 3) := by decide +kernel
theorem dX11_cancel_78 : decode cX11_cancel 78 = .ok (.iinc 4 2, 3) := by decide +kernel
theorem dX11_cancel_81 : decode cX11_cancel 81 = .ok (.goto (-28), 3) := by decide +kernel
theorem dX11_cancel_84 : decode cX11_cancel 84 = .ok (.iconst 1, 1) := by decide +kernel
theorem dX11_cancel_85 : decode cX11_cancel 85 = .ok (.istore 4, 2) := by decide +kernel
theorem dX11_cancel_87 : decode cX11_cancel 87 = .ok (.iload 4, 2) := by decide +kernel
theorem dX11_cancel_89 : decode cX11_cancel 89 = .ok (.iload_n 3, 1) := by decide +kernel
theorem dX11_cancel_90 : decode cX11_cancel 90 = .ok (.if_icmp .ge 38, 3) := by decide +kernel
theorem dX11_cancel_93 : decode cX11_cancel 93 = .ok (.aload_n 0, 1) := by decide +kernel
theorem dX11_cancel_94 : decode cX11_cancel 94 = .ok (.getfield 35, 3) := by decide +kernel
theorem dX11_cancel_97 : decode cX11_cancel 97 = .ok (.aload_n 0, 1) := by decide +kernel
theorem dX11_cancel_98 : decode cX11_cancel 98 = .ok (.getfield 60, 3) := by decide +kernel
theorem dX11_cancel_101 : decode cX11_cancel 101 = .ok (.getfield 214, 3) := by decide +kernel
theorem dX11_cancel_104 : decode cX11_cancel 104 = .ok (.iload 4, 2) := by decide +kernel
theorem dX11_cancel_106 : decode cX11_cancel 106 = .ok (.iaload, 1) := by decide +kernel
theorem dX11_cancel_107 : decode cX11_cancel 107 = .ok (.aload_n 0, 1) := by decide +kernel
theorem dX11_cancel_108 : decode cX11_cancel 108 = .ok (.getfield 60, 3) := by decide +kernel
theorem dX11_cancel_111 : decode cX11_cancel 111 = .ok (.getfield 214, 3) := by decide +kernel
theorem dX11_cancel_114 : decode cX11_cancel 114 = .ok (.iload 4, 2) := by decide +kernel
theorem dX11_cancel_116 : decode cX11_cancel 116 = .ok (.iconst 1, 1) := by decide +kernel
theorem dX11_cancel_117 : decode cX11_cancel 117 = .ok (.isub, 1) := by decide +kernel
theorem dX11_cancel_118 : decode cX11_cancel 118 = .ok (.iaload, 1) := by decide +kernel
theorem dX11_cancel_119 : decode cX11_cancel 119 = .ok (.invokevirtual 183, 3) := by decide +kernel
theorem dX11_cancel_122 : decode cX11_cancel 122 = .ok (.iinc 4 2, 3) := by decide +kernel
theorem dX11_cancel_125 : decode cX11_cancel 125 = .ok (.goto (-38), 3) := by decide +kernel
theorem dX11_cancel_128 : decode cX11_cancel 128 = .ok (.aload_n 0, 1) := by decide +kernel
theorem dX11_cancel_129 : decode cX11_cancel 129 = .ok (.invokevirtual 187, 3) := by decide +kernel
theorem dX11_cancel_132 : decode cX11_cancel 132 = .ok (.ireturn, 1) := by decide +kernel
theorem dX11_collapse_0 : decode cX11_collapse 0 = .ok (.aload_n 0, 1) := by decide +kernel
theorem dX11_collapse_1 : decode cX11_collapse 1 = .ok (.iload_n 1, 1) := by decide +kernel
theorem dX11_collapse_2 : decode cX11_collapse 2 = .ok (.invokevirtual 130, 3) := by decide +kernel
theorem dX11_collapse_5 : decode cX11_collapse 5 = .ok (.ifCond .ne 5, 3) := by decide +kernel
theorem dX11_collapse_8 : decode cX11_collapse 8 = .ok (.iconst (-1), 1) := by decide +kernel
theorem dX11_collapse_9 : decode cX11_collapse 9 = .ok (.ireturn, 1) := by decide +kernel
theorem dX11_collapse_10 : decode cX11_collapse 10 = .ok (.aload_n 0, 1) := by decide +kernel
theorem dX11_collapse_11 : decode cX11_collapse 11 = .ok (.iload_n 1, 1) := by decide +kernel
theorem dX11_collapse_12 : decode cX11_collapse 12 = .ok (.invokevirtual 217, 3) := by decide +kernel
theorem dX11_collapse_15 : decode cX11_collapse 15 = .ok (.ifCond .ne 6, 3) := by decide +kernel
theorem dX11_collapse_18 : decode cX11_collapse 18 = .ok (.bipush (-2), 2) := by decide +kernel
theorem dX11_collapse_20 : decode cX11_collapse 20 = .ok (.ireturn, 1) := by decide +kernel
theorem dX11_collapse_21 : decode cX11_collapse 21 = .ok (.aload_n 0, 1) := by decide +kernel
theorem dX11_collapse_22 : decode cX11_collapse 22 = .ok (.getfield 76, 3) := by decide +kernel
theorem dX11_collapse_25 : decode cX11_collapse 25 = .ok (.aload_n 0, 1) := by decide +kernel
theorem dX11_collapse_26 : decode cX11_collapse 26 = .ok (.getfield 35, 3) := by decide +kernel
theorem dX11_collapse_29 : decode cX11_collapse 29 = .ok (.invokevirtual 179, 3) := by decide +kernel
theorem dX11_collapse_32 : decode cX11_collapse 32 = .ok (.aload_n 0, 1) := by decide +kernel
theorem dX11_collapse_33 : decode cX11_collapse 33 = .ok (.getfield 26, 3) := by decide +kernel
theorem dX11_collapse_36 : decode cX11_collapse 36 = .ok (.getfield 143, 3) := by decide +kernel
theorem dX11_collapse_39 : decode cX11_collapse 39 = .ok (.iload_n 1, 1) := by decide +kernel
theorem dX11_collapse_40 : decode cX11_collapse 40 = .ok (.laload, 1) := by decide +kernel
theorem dX11_collapse_41 : decode cX11_collapse 41 = .ok (.aload_n 0, 1) := by decide +kernel
theorem dX11_collapse_42 : decode cX11_collapse 42 = .ok (.getfield 35, 3) := by decide +kernel
theorem dX11_collapse_45 : decode cX11_collapse 45 = .ok (.getfield 147, 3) := by decide +kernel
theorem dX11_collapse_48 : decode cX11_collapse 48 = .ok (.land, 1) := by decide +kernel
theorem dX11_collapse_49 : decode cX11_collapse 49 = .ok (.invokestatic 220, 3) := by decide +kernel
theorem dX11_collapse_52 : decode cX11_collapse 52 = .ok (.istore_n 2, 1) := by decide +kernel
theorem dX11_collapse_53 : decode cX11_collapse 53 = .ok (.aload_n 0, 1) := by decide +kernel
theorem dX11_collapse_54 : decode cX11_collapse 54 = .ok (.getfield 35, 3) := by decide +kernel
theorem dX11_collapse_57 : decode cX11_collapse 57 = .ok (.iload_n 1, 1) := by decide +kernel
theorem dX11_collapse_58 : decode cX11_collapse 58 = .ok (.invokevirtual 223, 3) := by decide +kernel
theorem dX11_collapse_61 : decode cX11_collapse 61 = .ok (.aload_n 0, 1) := by decide +kernel
theorem dX11_collapse_62 : decode cX11_collapse 62 = .ok (.getfield 35, 3) := by decide +kernel
theorem dX11_collapse_65 : decode cX11_collapse 65 = .ok (.iload_n 2, 1) := by decide +kernel
theorem dX11_collapse_66 : decode cX11_collapse 66 = .ok (.invokevirtual 223, 3) := by decide +kernel
theorem dX11_collapse_69 : decode cX11_collapse 69 = .ok (.aload_n 0, 1) := by decide +kernel
theorem dX11_collapse_70 : decode cX11_collapse 70 = .ok (.getfield 35, 3) := by decide +kernel
theorem dX11_collapse_73 : decode cX11_collapse 73 = .ok (.getfield 147, 3) := by decide +kernel
theorem dX11_collapse_76 : decode cX11_collapse 76 = .ok (.invokestatic 151, 3) := by decide +kernel
theorem dX11_collapse_79 : decode cX11_collapse 79 = .ok (.ireturn, 1) := by decide +kernel
theorem dX11_undo_0 : decode cX11_undo 0 = .ok (.aload_n 0, 1) := by decide +kernel
theorem dX11_undo_1 : decode cX11_undo 1 = .ok (.getfield 76, 3) := by decide +kernel
theorem dX11_undo_4 : decode cX11_undo 4 = .ok (.getfield 115, 3) := by decide +kernel
theorem dX11_undo_7 : decode cX11_undo 7 = .ok (.ifCond .ne 5, 3) := by decide +kernel
theorem dX11_undo_10 : decode cX11_undo 10 = .ok (.iconst (-1), 1) := by decide +kernel
theorem dX11_undo_11 : decode cX11_undo 11 = .ok (.ireturn, 1) := by decide +kernel
theorem dX11_undo_12 : decode cX11_undo 12 = .ok (.aload_n 0, 1) := by decide +kernel
theorem dX11_undo_13 : decode cX11_undo 13 = .ok (.getfield 76, 3) := by decide +kernel
theorem dX11_undo_16 : decode cX11_undo 16 = .ok (.aload_n 0, 1) := by decide +kernel
theorem dX11_undo_17 : decode cX11_undo 17 = .ok (.getfield 35, 3) := by decide +kernel
theorem dX11_undo_20 : decode cX11_undo 20 = .ok (.invokevirtual 226, 3) := by decide +kernel
theorem dX11_undo_23 : decode cX11_undo 23 = .ok (.aload_n 0, 1) := by decide +kernel
theorem dX11_undo_24 : decode cX11_undo 24 = .ok (.getfield 76, 3) := by decide +kernel
theorem dX11_undo_27 : decode cX11_undo 27 = .ok (.getfield 115, 3) := by decide +kernel
theorem dX11_undo_30 : decode cX11_undo 30 = .ok (.ireturn, 1) := by decide +kernel
theorem dX11_critical_0 : decode cX11_critical 0 = .ok (.iload_n 1, 1) := by decide +kernel
theorem dX11_critical_1 : decode cX11_critical 1 = .ok (.invokestatic 229, 3) := by decide +kernel
theorem dX11_critical_4 : decode cX11_critical 4 = .ok (.ifCond .eq 8, 3) := by decide +kernel
theorem dX11_critical_7 : decode cX11_critical 7 = .ok (.iload_n 2, 1) := by decide +kernel
theorem dX11_critical_8 : decode cX11_critical 8 = .ok (.iconst (-1), 1) := by decide +kernel
theorem dX11_critical_9 : decode cX11_critical 9 = .ok (.if_icmp .ge 5, 3) := by decide +kernel
theorem dX11_critical_12 : decode cX11_critical 12 = .ok (.iconst (-1), 1) := by decide +kernel
theorem dX11_critical_13 : decode cX11_critical 13 = .ok (.ireturn, 1) := by decide +kernel
theorem dX11_critical_14 : decode cX11_critical 14 = .ok (.aload_n 0, 1) := by decide +kernel
theorem dX11_critical_15 : decode cX11_critical 15 = .ok (.getfield 35, 3) := by decide +kernel
theorem dX11_critical_18 : decode cX11_critical 18 = .ok (.invokevirtual 232, 3) := by decide +kernel
theorem dX11_critical_21 : decode cX11_critical 21 = .ok (.aload_n 0, 1) := by decide +kernel
theorem dX11_critical_22 : decode cX11_critical 22 = .ok (.getfield 26, 3) := by decide +kernel
theorem dX11_critical_25 : decode cX11_critical 25 = .ok (.getfield 235, 3) := by decide +kernel
theorem dX11_critical_28 : decode cX11_critical 28 = .ok (.iload_n 1, 1) := by decide +kernel
theorem dX11_critical_29 : decode cX11_critical 29 = .ok (.laload, 1) := by decide +kernel
theorem dX11_critical_30 : decode cX11_critical 30 = .ok (.land, 1) := by decide +kernel
theorem dX11_critical_31 : decode cX11_critical 31 = .ok (.iload_n 2, 1) := by decide +kernel
theorem dX11_critical_32 : decode cX11_critical 32 = .ok (.invokestatic 238, 3) := by decide +kernel
theorem dX11_critical_35 : decode cX11_critical 35 = .ok (.ireturn, 1) := by decide +kernel
theorem dX11_paths_0 : decode cX11_paths 0 = .ok (.aload_n 0, 1) := by decide +kernel
theorem dX11_paths_1 : decode cX11_paths 1 = .ok (.iload_n 1, 1) := by decide +kernel
theorem dX11_paths_2 : decode cX11_paths 2 = .ok (.iload_n 2, 1) := by decide +kernel
theorem dX11_paths_3 : decode cX11_paths 3 = .ok (.invokevirtual 203, 3) := by decide +kernel
theorem dX11_paths_6 : decode cX11_paths 6 = .ok (.ifCond .ne 7, 3) := by decide +kernel
theorem dX11_paths_9 : decode cX11_paths 9 = .ok (.ldc2_w 242, 3) := by decide +kernel
theorem dX11_paths_12 : decode cX11_paths 12 = .ok (.lreturn, 1) := by decide +kernel
theorem dX11_paths_13 : decode cX11_paths 13 = .ok (.aload_n 0, 1) := by decide +kernel
theorem dX11_paths_14 : decode cX11_paths 14 = .ok (.getfield 60, 3) := by decide +kernel
theorem dX11_paths_17 : decode cX11_paths 17 = .ok (.iload_n 1, 1) := by decide +kernel
theorem dX11_paths_18 : decode cX11_paths 18 = .ok (.iload_n 2, 1) := by decide +kernel
theorem dX11_paths_19 : decode cX11_paths 19 = .ok (.invokevirtual 206, 3) := by decide +kernel
theorem dX11_paths_22 : decode cX11_paths 22 = .ok (.lreturn, 1) := by decide +kernel
theorem dX11_path_0 : decode cX11_path 0 = .ok (.aload_n 0, 1) := by decide +kernel
theorem dX11_path_1 : decode cX11_path 1 = .ok (.iload_n 1, 1) := by decide +kernel
theorem dX11_path_2 : decode cX11_path 2 = .ok (.iload_n 2, 1) := by decide +kernel
theorem dX11_path_3 : decode cX11_path 3 = .ok (.invokevirtual 203, 3) := by decide +kernel
theorem dX11_path_6 : decode cX11_path 6 = .ok (.ifCond .eq 13, 3) := by decide +kernel
theorem dX11_path_9 : decode cX11_path 9 = .ok (.iload_n 3, 1) := by decide +kernel
theorem dX11_path_10 : decode cX11_path 10 = .ok (.ifCond .lt 9, 3) := by decide +kernel
theorem dX11_path_13 : decode cX11_path 13 = .ok (.iload 4, 2) := by decide +kernel
theorem dX11_path_15 : decode cX11_path 15 = .ok (.iconst (-1), 1) := by decide +kernel
theorem dX11_path_16 : decode cX11_path 16 = .ok (.if_icmp .ge 5, 3) := by decide +kernel
theorem dX11_path_19 : decode cX11_path 19 = .ok (.iconst (-1), 1) := by decide +kernel
theorem dX11_path_20 : decode cX11_path 20 = .ok (.ireturn, 1) := by decide +kernel
theorem dX11_path_21 : decode cX11_path 21 = .ok (.iload_n 3, 1) := by decide +kernel
theorem dX11_path_22 : decode cX11_path 22 = .ok (.i2l, 1) := by decide +kernel
theorem dX11_path_23 : decode cX11_path 23 = .ok (.aload_n 0, 1) := by decide +kernel
theorem dX11_path_24 : decode cX11_path 24 = .ok (.getfield 60, 3) := by decide +kernel
theorem dX11_path_27 : decode cX11_path 27 = .ok (.iload_n 1, 1) := by decide +kernel
theorem dX11_path_28 : decode cX11_path 28 = .ok (.iload_n 2, 1) := by decide +kernel
theorem dX11_path_29 : decode cX11_path 29 = .ok (.invokevirtual 206, 3) := by decide +kernel
theorem dX11_path_32 : decode cX11_path 32 = .ok (.lcmp, 1) := by decide +kernel
theorem dX11_path_33 : decode cX11_path 33 = .ok (.ifCond .lt 6, 3) := by decide +kernel
theorem dX11_path_36 : decode cX11_path 36 = .ok (.bipush (-2), 2) := by decide +kernel
theorem dX11_path_38 : decode cX11_path 38 = .ok (.ireturn, 1) := by decide +kernel
theorem dX11_path_39 : decode cX11_path 39 = .ok (.aload_n 0, 1) := by decide +kernel
theorem dX11_path_40 : decode cX11_path 40 = .ok (.getfield 60, 3) := by decide +kernel
theorem dX11_path_43 : decode cX11_path 43 = .ok (.iload_n 1, 1) := by decide +kernel
theorem dX11_path_44 : decode cX11_path 44 = .ok (.iload_n 2, 1) := by decide +kernel
theorem dX11_path_45 : decode cX11_path 45 = .ok (.iload_n 3, 1) := by decide +kernel
theorem dX11_path_46 : decode cX11_path 46 = .ok (.i2l, 1) := by decide +kernel
theorem dX11_path_47 : decode cX11_path 47 = .ok (.invokevirtual 210, 3) := by decide +kernel
theorem dX11_path_50 : decode cX11_path 50 = .ok (.istore 5, 2) := by decide +kernel
theorem dX11_path_52 : decode cX11_path 52 = .ok (.iload 4, 2) := by decide +kernel
theorem dX11_path_54 : decode cX11_path 54 = .ok (.iconst (-1), 1) := by decide +kernel
theorem dX11_path_55 : decode cX11_path 55 = .ok (.if_icmp .ne 6, 3) := by decide +kernel
theorem dX11_path_58 : decode cX11_path 58 = .ok (.iload 5, 2) := by decide +kernel
theorem dX11_path_60 : decode cX11_path 60 = .ok (.ireturn, 1) := by decide +kernel
theorem dX11_path_61 : decode cX11_path 61 = .ok (.iload 4, 2) := by decide +kernel
theorem dX11_path_63 : decode cX11_path 63 = .ok (.iload 5, 2) := by decide +kernel
theorem dX11_path_65 : decode cX11_path 65 = .ok (.if_icmp .ge 16, 3) := by decide +kernel
theorem dX11_path_68 : decode cX11_path 68 = .ok (.aload_n 0, 1) := by decide +kernel
theorem dX11_path_69 : decode cX11_path 69 = .ok (.getfield 60, 3) := by decide +kernel
theorem dX11_path_72 : decode cX11_path 72 = .ok (.getfield 214, 3) := by decide +kernel
theorem dX11_path_75 : decode cX11_path 75 = .ok (.iload 4, 2) := by decide +kernel
theorem dX11_path_77 : decode cX11_path 77 = .ok (.iaload, 1) := by decide +kernel
theorem dX11_path_78 : decode cX11_path 78 = .ok (.goto 5, 3) := by decide +kernel
theorem dX11_path_81 : decode cX11_path 81 = .ok (.bipush (-2), 2) := by decide +kernel
theorem dX11_path_83 : decode cX11_path 83 = .ok (.ireturn, 1) := by decide +kernel
theorem dX11_incidence_0 : decode cX11_incidence 0 = .ok (.aload_n 0, 1) := by decide +kernel
theorem dX11_incidence_1 : decode cX11_incidence 1 = .ok (.iload_n 1, 1) := by decide +kernel
theorem dX11_incidence_2 : decode cX11_incidence 2 = .ok (.iload_n 2, 1) := by decide +kernel
theorem dX11_incidence_3 : decode cX11_incidence 3 = .ok (.invokevirtual 203, 3) := by decide +kernel
theorem dX11_incidence_6 : decode cX11_incidence 6 = .ok (.ifCond .ne 7, 3) := by decide +kernel
theorem dX11_incidence_9 : decode cX11_incidence 9 = .ok (.ldc2_w 244, 3) := by decide +kernel
theorem dX11_incidence_12 : decode cX11_incidence 12 = .ok (.lreturn, 1) := by decide +kernel
theorem dX11_incidence_13 : decode cX11_incidence 13 = .ok (.aload_n 0, 1) := by decide +kernel
theorem dX11_incidence_14 : decode cX11_incidence 14 = .ok (.getfield 60, 3) := by decide +kernel
theorem dX11_incidence_17 : decode cX11_incidence 17 = .ok (.iload_n 1, 1) := by decide +kernel
theorem dX11_incidence_18 : decode cX11_incidence 18 = .ok (.invokevirtual 246, 3) := by decide +kernel
theorem dX11_incidence_21 : decode cX11_incidence 21 = .ok (.aload_n 0, 1) := by decide +kernel
theorem dX11_incidence_22 : decode cX11_incidence 22 = .ok (.getfield 60, 3) := by decide +kernel
theorem dX11_incidence_25 : decode cX11_incidence 25 = .ok (.aload_n 0, 1) := by decide +kernel
theorem dX11_incidence_26 : decode cX11_incidence 26 = .ok (.getfield 26, 3) := by decide +kernel
theorem dX11_incidence_29 : decode cX11_incidence 29 = .ok (.getfield 127, 3) := by decide +kernel
theorem dX11_incidence_32 : decode cX11_incidence 32 = .ok (.iload_n 1, 1) := by decide +kernel
theorem dX11_incidence_33 : decode cX11_incidence 33 = .ok (.iaload, 1) := by decide +kernel
theorem dX11_incidence_34 : decode cX11_incidence 34 = .ok (.iconst 1, 1) := by decide +kernel
theorem dX11_incidence_35 : decode cX11_incidence 35 = .ok (.invokevirtual 249, 3) := by decide +kernel
theorem dX11_incidence_38 : decode cX11_incidence 38 = .ok (.aload_n 0, 1) := by decide +kernel
theorem dX11_incidence_39 : decode cX11_incidence 39 = .ok (.getfield 60, 3) := by decide +kernel
theorem dX11_incidence_42 : decode cX11_incidence 42 = .ok (.getfield 253, 3) := by decide +kernel
theorem dX11_incidence_45 : decode cX11_incidence 45 = .ok (.iload_n 2, 1) := by decide +kernel
theorem dX11_incidence_46 : decode cX11_incidence 46 = .ok (.laload, 1) := by decide +kernel
theorem dX11_incidence_47 : decode cX11_incidence 47 = .ok (.lreturn, 1) := by decide +kernel
theorem dX11_chain_0 : decode cX11_chain 0 = .ok (.aload_n 0, 1) := by decide +kernel
theorem dX11_chain_1 : decode cX11_chain 1 = .ok (.iload_n 1, 1) := by decide +kernel
theorem dX11_chain_2 : decode cX11_chain 2 = .ok (.invokevirtual 130, 3) := by decide +kernel
theorem dX11_chain_5 : decode cX11_chain 5 = .ok (.ifCond .eq 22, 3) := by decide +kernel
theorem dX11_chain_8 : decode cX11_chain 8 = .ok (.aload_n 0, 1) := by decide +kernel
theorem dX11_chain_9 : decode cX11_chain 9 = .ok (.iload_n 2, 1) := by decide +kernel
theorem dX11_chain_10 : decode cX11_chain 10 = .ok (.invokevirtual 130, 3) := by decide +kernel
theorem dX11_chain_13 : decode cX11_chain 13 = .ok (.ifCond .eq 14, 3) := by decide +kernel
theorem dX11_chain_16 : decode cX11_chain 16 = .ok (.aload_n 0, 1) := by decide +kernel
theorem dX11_chain_17 : decode cX11_chain 17 = .ok (.getfield 35, 3) := by decide +kernel
theorem dX11_chain_20 : decode cX11_chain 20 = .ok (.iload_n 1, 1) := by decide +kernel
theorem dX11_chain_21 : decode cX11_chain 21 = .ok (.invokevirtual 172, 3) := by decide +kernel
theorem dX11_chain_24 : decode cX11_chain 24 = .ok (.ifCond .ne 7, 3) := by decide +kernel
theorem dX11_chain_27 : decode cX11_chain 27 = .ok (.ldc2_w 244, 3) := by decide +kernel
theorem dX11_chain_30 : decode cX11_chain 30 = .ok (.lreturn, 1) := by decide +kernel
theorem dX11_chain_31 : decode cX11_chain 31 = .ok (.aload_n 0, 1) := by decide +kernel
theorem dX11_chain_32 : decode cX11_chain 32 = .ok (.getfield 26, 3) := by decide +kernel
theorem dX11_chain_35 : decode cX11_chain 35 = .ok (.getfield 127, 3) := by decide +kernel
theorem dX11_chain_38 : decode cX11_chain 38 = .ok (.iload_n 1, 1) := by decide +kernel
theorem dX11_chain_39 : decode cX11_chain 39 = .ok (.iaload, 1) := by decide +kernel
theorem dX11_chain_40 : decode cX11_chain 40 = .ok (.aload_n 0, 1) := by decide +kernel
theorem dX11_chain_41 : decode cX11_chain 41 = .ok (.getfield 26, 3) := by decide +kernel
theorem dX11_chain_44 : decode cX11_chain 44 = .ok (.getfield 127, 3) := by decide +kernel
theorem dX11_chain_47 : decode cX11_chain 47 = .ok (.iload_n 2, 1) := by decide +kernel
theorem dX11_chain_48 : decode cX11_chain 48 = .ok (.iaload, 1) := by decide +kernel
theorem dX11_chain_49 : decode cX11_chain 49 = .ok (.if_icmp .eq 7, 3) := by decide +kernel
theorem dX11_chain_52 : decode cX11_chain 52 = .ok (.ldc2_w 244, 3) := by decide +kernel
theorem dX11_chain_55 : decode cX11_chain 55 = .ok (.lreturn, 1) := by decide +kernel
theorem dX11_chain_56 : decode cX11_chain 56 = .ok (.aload_n 0, 1) := by decide +kernel
theorem dX11_chain_57 : decode cX11_chain 57 = .ok (.getfield 60, 3) := by decide +kernel
theorem dX11_chain_60 : decode cX11_chain 60 = .ok (.iload_n 1, 1) := by decide +kernel
theorem dX11_chain_61 : decode cX11_chain 61 = .ok (.invokevirtual 246, 3) := by decide +kernel
theorem dX11_chain_64 : decode cX11_chain 64 = .ok (.aload_n 0, 1) := by decide +kernel
theorem dX11_chain_65 : decode cX11_chain 65 = .ok (.getfield 60, 3) := by decide +kernel
theorem dX11_chain_68 : decode cX11_chain 68 = .ok (.aload_n 0, 1) := by decide +kernel
theorem dX11_chain_69 : decode cX11_chain 69 = .ok (.getfield 26, 3) := by decide +kernel
theorem dX11_chain_72 : decode cX11_chain 72 = .ok (.getfield 127, 3) := by decide +kernel
theorem dX11_chain_75 : decode cX11_chain 75 = .ok (.iload_n 1, 1) := by decide +kernel
theorem dX11_chain_76 : decode cX11_chain 76 = .ok (.iaload, 1) := by decide +kernel
theorem dX11_chain_77 : decode cX11_chain 77 = .ok (.iconst 1, 1) := by decide +kernel
theorem dX11_chain_78 : decode cX11_chain 78 = .ok (.invokevirtual 249, 3) := by decide +kernel
theorem dX11_chain_81 : decode cX11_chain 81 = .ok (.aload_n 0, 1) := by decide +kernel
theorem dX11_chain_82 : decode cX11_chain 82 = .ok (.getfield 60, 3) := by decide +kernel
theorem dX11_chain_85 : decode cX11_chain 85 = .ok (.getfield 253, 3) := by decide +kernel
theorem dX11_chain_88 : decode cX11_chain 88 = .ok (.iload_n 2, 1) := by decide +kernel
theorem dX11_chain_89 : decode cX11_chain 89 = .ok (.laload, 1) := by decide +kernel
theorem dX11_chain_90 : decode cX11_chain 90 = .ok (.lreturn, 1) := by decide +kernel
theorem dX11_root_0 : decode cX11_root 0 = .ok (.aload_n 0, 1) := by decide +kernel
theorem dX11_root_1 : decode cX11_root 1 = .ok (.iload_n 1, 1) := by decide +kernel
theorem dX11_root_2 : decode cX11_root 2 = .ok (.invokevirtual 130, 3) := by decide +kernel
theorem dX11_root_5 : decode cX11_root 5 = .ok (.ifCond .eq 24, 3) := by decide +kernel
theorem dX11_root_8 : decode cX11_root 8 = .ok (.aload_n 0, 1) := by decide +kernel
theorem dX11_root_9 : decode cX11_root 9 = .ok (.getfield 26, 3) := by decide +kernel
theorem dX11_root_12 : decode cX11_root 12 = .ok (.getfield 127, 3) := by decide +kernel
theorem dX11_root_15 : decode cX11_root 15 = .ok (.iload_n 1, 1) := by decide +kernel
theorem dX11_root_16 : decode cX11_root 16 = .ok (.iaload, 1) := by decide +kernel
theorem dX11_root_17 : decode cX11_root 17 = .ok (.ifCond .ne 12, 3) := by decide +kernel
theorem dX11_root_20 : decode cX11_root 20 = .ok (.iload_n 2, 1) := by decide +kernel
theorem dX11_root_21 : decode cX11_root 21 = .ok (.ifCond .lt 8, 3) := by decide +kernel
theorem dX11_root_24 : decode cX11_root 24 = .ok (.iload_n 2, 1) := by decide +kernel
theorem dX11_root_25 : decode cX11_root 25 = .ok (.iconst 1, 1) := by decide +kernel
theorem dX11_root_26 : decode cX11_root 26 = .ok (.if_icmp .le 5, 3) := by decide +kernel
theorem dX11_root_29 : decode cX11_root 29 = .ok (.iconst (-1), 1) := by decide +kernel
theorem dX11_root_30 : decode cX11_root 30 = .ok (.ireturn, 1) := by decide +kernel
theorem dX11_root_31 : decode cX11_root 31 = .ok (.iload_n 1, 1) := by decide +kernel
theorem dX11_root_32 : decode cX11_root 32 = .ok (.istore_n 3, 1) := by decide +kernel
theorem dX11_root_33 : decode cX11_root 33 = .ok (.iconst 0, 1) := by decide +kernel
theorem dX11_root_34 : decode cX11_root 34 = .ok (.istore 4, 2) := by decide +kernel
theorem dX11_root_36 : decode cX11_root 36 = .ok (.iconst 0, 1) := by decide +kernel
theorem dX11_root_37 : decode cX11_root 37 = .ok (.istore 5, 2) := by decide +kernel
theorem dX11_root_39 : decode cX11_root 39 = .ok (.iload 5, 2) := by decide +kernel
theorem dX11_root_41 : decode cX11_root 41 = .ok (.bipush 60, 2) := by decide +kernel
theorem dX11_root_43 : decode cX11_root 43 = .ok (.if_icmp .ge 59, 3) := by decide +kernel
theorem dX11_root_46 : decode cX11_root 46 = .ok (.aload_n 0, 1) := by decide +kernel
theorem dX11_root_47 : decode cX11_root 47 = .ok (.getfield 35, 3) := by decide +kernel
theorem dX11_root_50 : decode cX11_root 50 = .ok (.getfield 133, 3) := by decide +kernel
theorem dX11_root_53 : decode cX11_root 53 = .ok (.iload_n 3, 1) := by decide +kernel
theorem dX11_root_54 : decode cX11_root 54 = .ok (.iaload, 1) := by decide +kernel
theorem dX11_root_55 : decode cX11_root 55 = .ok (.iconst (-1), 1) := by decide +kernel
theorem dX11_root_56 : decode cX11_root 56 = .ok (.if_icmp .eq 46, 3) := by decide +kernel
theorem dX11_root_59 : decode cX11_root 59 = .ok (.aload_n 0, 1) := by decide +kernel
theorem dX11_root_60 : decode cX11_root 60 = .ok (.getfield 26, 3) := by decide +kernel
theorem dX11_root_63 : decode cX11_root 63 = .ok (.getfield 165, 3) := by decide +kernel
theorem dX11_root_66 : decode cX11_root 66 = .ok (.aload_n 0, 1) := by decide +kernel
theorem dX11_root_67 : decode cX11_root 67 = .ok (.getfield 35, 3) := by decide +kernel
theorem dX11_root_70 : decode cX11_root 70 = .ok (.getfield 133, 3) := by decide +kernel
theorem dX11_root_73 : decode cX11_root 73 = .ok (.iload_n 3, 1) := by decide +kernel
theorem dX11_root_74 : decode cX11_root 74 = .ok (.iaload, 1) := by decide +kernel
theorem dX11_root_75 : decode cX11_root 75 = .ok (.laload, 1) := by decide +kernel
theorem dX11_root_76 : decode cX11_root 76 = .ok (.iload_n 3, 1) := by decide +kernel
theorem dX11_root_77 : decode cX11_root 77 = .ok (.invokestatic 256, 3) := by decide +kernel
theorem dX11_root_80 : decode cX11_root 80 = .ok (.ldc2_w 242, 3) := by decide +kernel
theorem dX11_root_83 : decode cX11_root 83 = .ok (.lxor, 1) := by decide +kernel
theorem dX11_root_84 : decode cX11_root 84 = .ok (.land, 1) := by decide +kernel
theorem dX11_root_85 : decode cX11_root 85 = .ok (.lstore 6, 2) := by decide +kernel
theorem dX11_root_87 : decode cX11_root 87 = .ok (.lload 6, 2) := by decide +kernel
theorem dX11_root_89 : decode cX11_root 89 = .ok (.invokestatic 220, 3) := by decide +kernel
theorem dX11_root_92 : decode cX11_root 92 = .ok (.istore_n 3, 1) := by decide +kernel
theorem dX11_root_93 : decode cX11_root 93 = .ok (.iinc 4 1, 3) := by decide +kernel
theorem dX11_root_96 : decode cX11_root 96 = .ok (.iinc 5 1, 3) := by decide +kernel
theorem dX11_root_99 : decode cX11_root 99 = .ok (.goto (-60), 3) := by decide +kernel
theorem dX11_root_102 : decode cX11_root 102 = .ok (.iload_n 2, 1) := by decide +kernel
theorem dX11_root_103 : decode cX11_root 103 = .ok (.ifCond .ne 7, 3) := by decide +kernel
theorem dX11_root_106 : decode cX11_root 106 = .ok (.iload_n 3, 1) := by decide +kernel
theorem dX11_root_107 : decode cX11_root 107 = .ok (.goto 5, 3) := by decide +kernel
theorem dX11_root_110 : decode cX11_root 110 = .ok (.iload 4, 2) := by decide +kernel
theorem dX11_root_112 : decode cX11_root 112 = .ok (.ireturn, 1) := by decide +kernel
theorem dX11_through_0 : decode cX11_through 0 = .ok (.aload_n 0, 1) := by decide +kernel
theorem dX11_through_1 : decode cX11_through 1 = .ok (.iload_n 1, 1) := by decide +kernel
theorem dX11_through_2 : decode cX11_through 2 = .ok (.iload_n 2, 1) := by decide +kernel
theorem dX11_through_3 : decode cX11_through 3 = .ok (.invokevirtual 203, 3) := by decide +kernel
theorem dX11_through_6 : decode cX11_through 6 = .ok (.ifCond .eq 11, 3) := by decide +kernel
theorem dX11_through_9 : decode cX11_through 9 = .ok (.aload_n 0, 1) := by decide +kernel
theorem dX11_through_10 : decode cX11_through 10 = .ok (.iload_n 3, 1) := by decide +kernel
theorem dX11_through_11 : decode cX11_through 11 = .ok (.invokevirtual 130, 3) := by decide +kernel
theorem dX11_through_14 : decode cX11_through 14 = .ok (.ifCond .ne 7, 3) := by decide +kernel
theorem dX11_through_17 : decode cX11_through 17 = .ok (.ldc2_w 242, 3) := by decide +kernel
theorem dX11_through_20 : decode cX11_through 20 = .ok (.lreturn, 1) := by decide +kernel
theorem dX11_through_21 : decode cX11_through 21 = .ok (.aload_n 0, 1) := by decide +kernel
theorem dX11_through_22 : decode cX11_through 22 = .ok (.getfield 60, 3) := by decide +kernel
theorem dX11_through_25 : decode cX11_through 25 = .ok (.iload_n 1, 1) := by decide +kernel
theorem dX11_through_26 : decode cX11_through 26 = .ok (.invokevirtual 246, 3) := by decide +kernel
theorem dX11_through_29 : decode cX11_through 29 = .ok (.aload_n 0, 1) := by decide +kernel
theorem dX11_through_30 : decode cX11_through 30 = .ok (.getfield 60, 3) := by decide +kernel
theorem dX11_through_33 : decode cX11_through 33 = .ok (.aload_n 0, 1) := by decide +kernel
theorem dX11_through_34 : decode cX11_through 34 = .ok (.getfield 26, 3) := by decide +kernel
theorem dX11_through_37 : decode cX11_through 37 = .ok (.getfield 127, 3) := by decide +kernel
theorem dX11_through_40 : decode cX11_through 40 = .ok (.iload_n 1, 1) := by decide +kernel
theorem dX11_through_41 : decode cX11_through 41 = .ok (.iaload, 1) := by decide +kernel
theorem dX11_through_42 : decode cX11_through 42 = .ok (.iconst 0, 1) := by decide +kernel
theorem dX11_through_43 : decode cX11_through 43 = .ok (.invokevirtual 249, 3) := by decide +kernel
theorem dX11_through_46 : decode cX11_through 46 = .ok (.aload_n 0, 1) := by decide +kernel
theorem dX11_through_47 : decode cX11_through 47 = .ok (.getfield 60, 3) := by decide +kernel
theorem dX11_through_50 : decode cX11_through 50 = .ok (.iload_n 1, 1) := by decide +kernel
theorem dX11_through_51 : decode cX11_through 51 = .ok (.iload_n 2, 1) := by decide +kernel
theorem dX11_through_52 : decode cX11_through 52 = .ok (.invokevirtual 206, 3) := by decide +kernel
theorem dX11_through_55 : decode cX11_through 55 = .ok (.pop2, 1) := by decide +kernel
theorem dX11_through_56 : decode cX11_through 56 = .ok (.aload_n 0, 1) := by decide +kernel
theorem dX11_through_57 : decode cX11_through 57 = .ok (.getfield 60, 3) := by decide +kernel
theorem dX11_through_60 : decode cX11_through 60 = .ok (.getfield 253, 3) := by decide +kernel
theorem dX11_through_63 : decode cX11_through 63 = .ok (.iload_n 3, 1) := by decide +kernel
theorem dX11_through_64 : decode cX11_through 64 = .ok (.laload, 1) := by decide +kernel
theorem dX11_through_65 : decode cX11_through 65 = .ok (.aload_n 0, 1) := by decide +kernel
theorem dX11_through_66 : decode cX11_through 66 = .ok (.getfield 60, 3) := by decide +kernel
theorem dX11_through_69 : decode cX11_through 69 = .ok (.getfield 260, 3) := by decide +kernel
theorem dX11_through_72 : decode cX11_through 72 = .ok (.iload_n 3, 1) := by decide +kernel
theorem dX11_through_73 : decode cX11_through 73 = .ok (.laload, 1) := by decide +kernel
theorem dX11_through_74 : decode cX11_through 74 = .ok (.lmul, 1) := by decide +kernel
theorem dX11_through_75 : decode cX11_through 75 = .ok (.lreturn, 1) := by decide +kernel
theorem dX11_squares_0 : decode cX11_squares 0 = .ok (.iconst 0, 1) := by decide +kernel
theorem dX11_squares_1 : decode cX11_squares 1 = .ok (.istore_n 1, 1) := by decide +kernel
theorem dX11_squares_2 : decode cX11_squares 2 = .ok (.aload_n 0, 1) := by decide +kernel
theorem dX11_squares_3 : decode cX11_squares 3 = .ok (.getfield 35, 3) := by decide +kernel
theorem dX11_squares_6 : decode cX11_squares 6 = .ok (.invokevirtual 232, 3) := by decide +kernel
theorem dX11_squares_9 : decode cX11_squares 9 = .ok (.lstore_n 2, 1) := by decide +kernel
theorem dX11_squares_10 : decode cX11_squares 10 = .ok (.iconst 0, 1) := by decide +kernel
theorem dX11_squares_11 : decode cX11_squares 11 = .ok (.istore 4, 2) := by decide +kernel
theorem dX11_squares_13 : decode cX11_squares 13 = .ok (.iload 4, 2) := by decide +kernel
theorem dX11_squares_15 : decode cX11_squares 15 = .ok (.aload_n 0, 1) := by decide +kernel
theorem dX11_squares_16 : decode cX11_squares 16 = .ok (.getfield 26, 3) := by decide +kernel
theorem dX11_squares_19 : decode cX11_squares 19 = .ok (.getfield 119, 3) := by decide +kernel
theorem dX11_squares_22 : decode cX11_squares 22 = .ok (.if_icmp .ge 41, 3) := by decide +kernel
theorem dX11_squares_25 : decode cX11_squares 25 = .ok (.lload_n 2, 1) := by decide +kernel
theorem dX11_squares_26 : decode cX11_squares 26 = .ok (.iload 4, 2) := by decide +kernel
theorem dX11_squares_28 : decode cX11_squares 28 = .ok (.invokestatic 168, 3) := by decide +kernel
theorem dX11_squares_31 : decode cX11_squares 31 = .ok (.ifCond .eq 26, 3) := by decide +kernel
theorem dX11_squares_34 : decode cX11_squares 34 = .ok (.aload_n 0, 1) := by decide +kernel
theorem dX11_squares_35 : decode cX11_squares 35 = .ok (.getfield 26, 3) := by decide +kernel
theorem dX11_squares_38 : decode cX11_squares 38 = .ok (.getfield 127, 3) := by decide +kernel
theorem dX11_squares_41 : decode cX11_squares 41 = .ok (.iload 4, 2) := by decide +kernel
theorem dX11_squares_43 : decode cX11_squares 43 = .ok (.iaload, 1) := by decide +kernel
theorem dX11_squares_44 : decode cX11_squares 44 = .ok (.iconst 2, 1) := by decide +kernel
theorem dX11_squares_45 : decode cX11_squares 45 = .ok (.if_icmp .lt 12, 3) := by decide +kernel
theorem dX11_squares_48 : decode cX11_squares 48 = .ok (.iload_n 1, 1) := by decide +kernel
theorem dX11_squares_49 : decode cX11_squares 49 = .ok (.aload_n 0, 1) := by decide +kernel
theorem dX11_squares_50 : decode cX11_squares 50 = .ok (.iload 4, 2) := by decide +kernel
theorem dX11_squares_52 : decode cX11_squares 52 = .ok (.invokevirtual 263, 3) := by decide +kernel
theorem dX11_squares_55 : decode cX11_squares 55 = .ok (.iadd, 1) := by decide +kernel
theorem dX11_squares_56 : decode cX11_squares 56 = .ok (.istore_n 1, 1) := by decide +kernel
theorem dX11_squares_57 : decode cX11_squares 57 = .ok (.iinc 4 1, 3) := by decide +kernel
theorem dX11_squares_60 : decode cX11_squares 60 = .ok (.goto (-47), 3) := by decide +kernel
theorem dX11_squares_63 : decode cX11_squares 63 = .ok (.iload_n 1, 1) := by decide +kernel
theorem dX11_squares_64 : decode cX11_squares 64 = .ok (.ireturn, 1) := by decide +kernel
theorem dX11_betti_0 : decode cX11_betti 0 = .ok (.iload_n 1, 1) := by decide +kernel
theorem dX11_betti_1 : decode cX11_betti 1 = .ok (.invokestatic 229, 3) := by decide +kernel
theorem dX11_betti_4 : decode cX11_betti 4 = .ok (.ifCond .eq 12, 3) := by decide +kernel
theorem dX11_betti_7 : decode cX11_betti 7 = .ok (.iload_n 2, 1) := by decide +kernel
theorem dX11_betti_8 : decode cX11_betti 8 = .ok (.ifCond .lt 8, 3) := by decide +kernel
theorem dX11_betti_11 : decode cX11_betti 11 = .ok (.iload_n 2, 1) := by decide +kernel
theorem dX11_betti_12 : decode cX11_betti 12 = .ok (.iconst 1, 1) := by decide +kernel
theorem dX11_betti_13 : decode cX11_betti 13 = .ok (.if_icmp .le 5, 3) := by decide +kernel
theorem dX11_betti_16 : decode cX11_betti 16 = .ok (.iconst (-1), 1) := by decide +kernel
theorem dX11_betti_17 : decode cX11_betti 17 = .ok (.ireturn, 1) := by decide +kernel
theorem dX11_betti_18 : decode cX11_betti 18 = .ok (.aload_n 0, 1) := by decide +kernel
theorem dX11_betti_19 : decode cX11_betti 19 = .ok (.getfield 69, 3) := by decide +kernel
theorem dX11_betti_22 : decode cX11_betti 22 = .ok (.aload_n 0, 1) := by decide +kernel
theorem dX11_betti_23 : decode cX11_betti 23 = .ok (.iload_n 2, 1) := by decide +kernel
theorem dX11_betti_24 : decode cX11_betti 24 = .ok (.invokevirtual 266, 3) := by decide +kernel
theorem dX11_betti_27 : decode cX11_betti 27 = .ok (.iload_n 1, 1) := by decide +kernel
theorem dX11_betti_28 : decode cX11_betti 28 = .ok (.iload_n 2, 1) := by decide +kernel
theorem dX11_betti_29 : decode cX11_betti 29 = .ok (.iconst 1, 1) := by decide +kernel
theorem dX11_betti_30 : decode cX11_betti 30 = .ok (.if_icmp .ne 7, 3) := by decide +kernel
theorem dX11_betti_33 : decode cX11_betti 33 = .ok (.iconst 1, 1) := by decide +kernel
theorem dX11_betti_34 : decode cX11_betti 34 = .ok (.goto 4, 3) := by decide +kernel
theorem dX11_betti_37 : decode cX11_betti 37 = .ok (.iconst 0, 1) := by decide +kernel
theorem dX11_betti_38 : decode cX11_betti 38 = .ok (.invokevirtual 269, 3) := by decide +kernel
theorem dX11_betti_41 : decode cX11_betti 41 = .ok (.ireturn, 1) := by decide +kernel
theorem dX11_torsion_0 : decode cX11_torsion 0 = .ok (.iload_n 1, 1) := by decide +kernel
theorem dX11_torsion_1 : decode cX11_torsion 1 = .ok (.invokestatic 229, 3) := by decide +kernel
theorem dX11_torsion_4 : decode cX11_torsion 4 = .ok (.ifCond .eq 17, 3) := by decide +kernel
theorem dX11_torsion_7 : decode cX11_torsion 7 = .ok (.iload_n 3, 1) := by decide +kernel
theorem dX11_torsion_8 : decode cX11_torsion 8 = .ok (.ifCond .lt 13, 3) := by decide +kernel
theorem dX11_torsion_11 : decode cX11_torsion 11 = .ok (.iload_n 3, 1) := by decide +kernel
theorem dX11_torsion_12 : decode cX11_torsion 12 = .ok (.iconst 1, 1) := by decide +kernel
theorem dX11_torsion_13 : decode cX11_torsion 13 = .ok (.if_icmp .gt 8, 3) := by decide +kernel
theorem dX11_torsion_16 : decode cX11_torsion 16 = .ok (.iload_n 2, 1) := by decide +kernel
theorem dX11_torsion_17 : decode cX11_torsion 17 = .ok (.iconst (-1), 1) := by decide +kernel
theorem dX11_torsion_18 : decode cX11_torsion 18 = .ok (.if_icmp .ge 7, 3) := by decide +kernel
theorem dX11_torsion_21 : decode cX11_torsion 21 = .ok (.ldc2_w 242, 3) := by decide +kernel
theorem dX11_torsion_24 : decode cX11_torsion 24 = .ok (.lreturn, 1) := by decide +kernel
theorem dX11_torsion_25 : decode cX11_torsion 25 = .ok (.aload_n 0, 1) := by decide +kernel
theorem dX11_torsion_26 : decode cX11_torsion 26 = .ok (.getfield 69, 3) := by decide +kernel
theorem dX11_torsion_29 : decode cX11_torsion 29 = .ok (.aload_n 0, 1) := by decide +kernel
theorem dX11_torsion_30 : decode cX11_torsion 30 = .ok (.iload_n 3, 1) := by decide +kernel
theorem dX11_torsion_31 : decode cX11_torsion 31 = .ok (.invokevirtual 266, 3) := by decide +kernel
theorem dX11_torsion_34 : decode cX11_torsion 34 = .ok (.iload_n 1, 1) := by decide +kernel
theorem dX11_torsion_35 : decode cX11_torsion 35 = .ok (.iload_n 3, 1) := by decide +kernel
theorem dX11_torsion_36 : decode cX11_torsion 36 = .ok (.iconst 1, 1) := by decide +kernel
theorem dX11_torsion_37 : decode cX11_torsion 37 = .ok (.if_icmp .ne 7, 3) := by decide +kernel
theorem dX11_torsion_40 : decode cX11_torsion 40 = .ok (.iconst 1, 1) := by decide +kernel
theorem dX11_torsion_41 : decode cX11_torsion 41 = .ok (.goto 4, 3) := by decide +kernel
theorem dX11_torsion_44 : decode cX11_torsion 44 = .ok (.iconst 0, 1) := by decide +kernel
theorem dX11_torsion_45 : decode cX11_torsion 45 = .ok (.invokevirtual 273, 3) := by decide +kernel
theorem dX11_torsion_48 : decode cX11_torsion 48 = .ok (.istore 4, 2) := by decide +kernel
theorem dX11_torsion_50 : decode cX11_torsion 50 = .ok (.iload_n 2, 1) := by decide +kernel
theorem dX11_torsion_51 : decode cX11_torsion 51 = .ok (.iconst (-1), 1) := by decide +kernel
theorem dX11_torsion_52 : decode cX11_torsion 52 = .ok (.if_icmp .ne 7, 3) := by decide +kernel
theorem dX11_torsion_55 : decode cX11_torsion 55 = .ok (.iload 4, 2) := by decide +kernel
theorem dX11_torsion_57 : decode cX11_torsion 57 = .ok (.i2l, 1) := by decide +kernel
theorem dX11_torsion_58 : decode cX11_torsion 58 = .ok (.lreturn, 1) := by decide +kernel
theorem dX11_torsion_59 : decode cX11_torsion 59 = .ok (.iload_n 2, 1) := by decide +kernel
theorem dX11_torsion_60 : decode cX11_torsion 60 = .ok (.iload 4, 2) := by decide +kernel
theorem dX11_torsion_62 : decode cX11_torsion 62 = .ok (.if_icmp .ge 15, 3) := by decide +kernel
theorem dX11_torsion_65 : decode cX11_torsion 65 = .ok (.aload_n 0, 1) := by decide +kernel
theorem dX11_torsion_66 : decode cX11_torsion 66 = .ok (.getfield 69, 3) := by decide +kernel
theorem dX11_torsion_69 : decode cX11_torsion 69 = .ok (.getfield 276, 3) := by decide +kernel
theorem dX11_torsion_72 : decode cX11_torsion 72 = .ok (.iload_n 2, 1) := by decide +kernel
theorem dX11_torsion_73 : decode cX11_torsion 73 = .ok (.laload, 1) := by decide +kernel
theorem dX11_torsion_74 : decode cX11_torsion 74 = .ok (.goto 6, 3) := by decide +kernel
theorem dX11_torsion_77 : decode cX11_torsion 77 = .ok (.ldc2_w 279, 3) := by decide +kernel
theorem dX11_torsion_80 : decode cX11_torsion 80 = .ok (.lreturn, 1) := by decide +kernel
theorem dX11_slack_0 : decode cX11_slack 0 = .ok (.iload_n 1, 1) := by decide +kernel
theorem dX11_slack_1 : decode cX11_slack 1 = .ok (.invokestatic 229, 3) := by decide +kernel
theorem dX11_slack_4 : decode cX11_slack 4 = .ok (.ifCond .ne 6, 3) := by decide +kernel
theorem dX11_slack_7 : decode cX11_slack 7 = .ok (.ldc 160, 2) := by decide +kernel
theorem dX11_slack_9 : decode cX11_slack 9 = .ok (.ireturn, 1) := by decide +kernel
theorem dX11_slack_10 : decode cX11_slack 10 = .ok (.iconst 0, 1) := by decide +kernel
theorem dX11_slack_11 : decode cX11_slack 11 = .ok (.istore_n 2, 1) := by decide +kernel
theorem dX11_slack_12 : decode cX11_slack 12 = .ok (.iconst 0, 1) := by decide +kernel
theorem dX11_slack_13 : decode cX11_slack 13 = .ok (.istore_n 3, 1) := by decide +kernel
theorem dX11_slack_14 : decode cX11_slack 14 = .ok (.iload_n 3, 1) := by decide +kernel
theorem dX11_slack_15 : decode cX11_slack 15 = .ok (.iload_n 1, 1) := by decide +kernel
theorem dX11_slack_16 : decode cX11_slack 16 = .ok (.if_icmp .gt 53, 3) := by decide +kernel
theorem dX11_slack_19 : decode cX11_slack 19 = .ok (.aload_n 0, 1) := by decide +kernel
theorem dX11_slack_20 : decode cX11_slack 20 = .ok (.getfield 35, 3) := by decide +kernel
theorem dX11_slack_23 : decode cX11_slack 23 = .ok (.invokevirtual 232, 3) := by decide +kernel
theorem dX11_slack_26 : decode cX11_slack 26 = .ok (.aload_n 0, 1) := by decide +kernel
theorem dX11_slack_27 : decode cX11_slack 27 = .ok (.getfield 26, 3) := by decide +kernel
theorem dX11_slack_30 : decode cX11_slack 30 = .ok (.getfield 235, 3) := by decide +kernel
theorem dX11_slack_33 : decode cX11_slack 33 = .ok (.iload_n 3, 1) := by decide +kernel
theorem dX11_slack_34 : decode cX11_slack 34 = .ok (.laload, 1) := by decide +kernel
theorem dX11_slack_35 : decode cX11_slack 35 = .ok (.land, 1) := by decide +kernel
theorem dX11_slack_36 : decode cX11_slack 36 = .ok (.invokestatic 151, 3) := by decide +kernel
theorem dX11_slack_39 : decode cX11_slack 39 = .ok (.istore 4, 2) := by decide +kernel
theorem dX11_slack_41 : decode cX11_slack 41 = .ok (.iload 4, 2) := by decide +kernel
theorem dX11_slack_43 : decode cX11_slack 43 = .ok (.aload_n 0, 1) := by decide +kernel
theorem dX11_slack_44 : decode cX11_slack 44 = .ok (.getfield 69, 3) := by decide +kernel
theorem dX11_slack_47 : decode cX11_slack 47 = .ok (.aload_n 0, 1) := by decide +kernel
theorem dX11_slack_48 : decode cX11_slack 48 = .ok (.getfield 35, 3) := by decide +kernel
theorem dX11_slack_51 : decode cX11_slack 51 = .ok (.getfield 147, 3) := by decide +kernel
theorem dX11_slack_54 : decode cX11_slack 54 = .ok (.iload_n 3, 1) := by decide +kernel
theorem dX11_slack_55 : decode cX11_slack 55 = .ok (.iconst 0, 1) := by decide +kernel
theorem dX11_slack_56 : decode cX11_slack 56 = .ok (.invokevirtual 269, 3) := by decide +kernel
theorem dX11_slack_59 : decode cX11_slack 59 = .ok (.isub, 1) := by decide +kernel
theorem dX11_slack_60 : decode cX11_slack 60 = .ok (.iload_n 2, 1) := by decide +kernel
theorem dX11_slack_61 : decode cX11_slack 61 = .ok (.isub, 1) := by decide +kernel
theorem dX11_slack_62 : decode cX11_slack 62 = .ok (.istore_n 2, 1) := by decide +kernel
theorem dX11_slack_63 : decode cX11_slack 63 = .ok (.iinc 3 1, 3) := by decide +kernel
theorem dX11_slack_66 : decode cX11_slack 66 = .ok (.goto (-52), 3) := by decide +kernel
theorem dX11_slack_69 : decode cX11_slack 69 = .ok (.iload_n 2, 1) := by decide +kernel
theorem dX11_slack_70 : decode cX11_slack 70 = .ok (.ireturn, 1) := by decide +kernel
theorem dX11_free_0 : decode cX11_free 0 = .ok (.iload_n 1, 1) := by decide +kernel
theorem dX11_free_1 : decode cX11_free 1 = .ok (.iconst (-1), 1) := by decide +kernel
theorem dX11_free_2 : decode cX11_free 2 = .ok (.if_icmp .ge 5, 3) := by decide +kernel
theorem dX11_free_5 : decode cX11_free 5 = .ok (.iconst (-1), 1) := by decide +kernel
theorem dX11_free_6 : decode cX11_free 6 = .ok (.ireturn, 1) := by decide +kernel
theorem dX11_free_7 : decode cX11_free 7 = .ok (.lconst 0, 1) := by decide +kernel
theorem dX11_free_8 : decode cX11_free 8 = .ok (.lstore_n 2, 1) := by decide +kernel
theorem dX11_free_9 : decode cX11_free 9 = .ok (.iconst 0, 1) := by decide +kernel
theorem dX11_free_10 : decode cX11_free 10 = .ok (.istore 4, 2) := by decide +kernel
theorem dX11_free_12 : decode cX11_free 12 = .ok (.iload 4, 2) := by decide +kernel
theorem dX11_free_14 : decode cX11_free 14 = .ok (.aload_n 0, 1) := by decide +kernel
theorem dX11_free_15 : decode cX11_free 15 = .ok (.getfield 26, 3) := by decide +kernel
theorem dX11_free_18 : decode cX11_free 18 = .ok (.getfield 119, 3) := by decide +kernel
theorem dX11_free_21 : decode cX11_free 21 = .ok (.if_icmp .ge 35, 3) := by decide +kernel
theorem dX11_free_24 : decode cX11_free 24 = .ok (.aload_n 0, 1) := by decide +kernel
theorem dX11_free_25 : decode cX11_free 25 = .ok (.iload 4, 2) := by decide +kernel
theorem dX11_free_27 : decode cX11_free 27 = .ok (.invokevirtual 130, 3) := by decide +kernel
theorem dX11_free_30 : decode cX11_free 30 = .ok (.ifCond .eq 20, 3) := by decide +kernel
theorem dX11_free_33 : decode cX11_free 33 = .ok (.aload_n 0, 1) := by decide +kernel
theorem dX11_free_34 : decode cX11_free 34 = .ok (.iload 4, 2) := by decide +kernel
theorem dX11_free_36 : decode cX11_free 36 = .ok (.invokevirtual 217, 3) := by decide +kernel
theorem dX11_free_39 : decode cX11_free 39 = .ok (.ifCond .eq 11, 3) := by decide +kernel
theorem dX11_free_42 : decode cX11_free 42 = .ok (.lload_n 2, 1) := by decide +kernel
theorem dX11_free_43 : decode cX11_free 43 = .ok (.iload 4, 2) := by decide +kernel
theorem dX11_free_45 : decode cX11_free 45 = .ok (.invokestatic 256, 3) := by decide +kernel
theorem dX11_free_48 : decode cX11_free 48 = .ok (.lor, 1) := by decide +kernel
theorem dX11_free_49 : decode cX11_free 49 = .ok (.lstore_n 2, 1) := by decide +kernel
theorem dX11_free_50 : decode cX11_free 50 = .ok (.iinc 4 1, 3) := by decide +kernel
theorem dX11_free_53 : decode cX11_free 53 = .ok (.goto (-41), 3) := by decide +kernel
theorem dX11_free_56 : decode cX11_free 56 = .ok (.lload_n 2, 1) := by decide +kernel
theorem dX11_free_57 : decode cX11_free 57 = .ok (.iload_n 1, 1) := by decide +kernel
theorem dX11_free_58 : decode cX11_free 58 = .ok (.invokestatic 238, 3) := by decide +kernel
theorem dX11_free_61 : decode cX11_free 61 = .ok (.ireturn, 1) := by decide +kernel
theorem dX11_facet_0 : decode cX11_facet 0 = .ok (.iload_n 1, 1) := by decide +kernel
theorem dX11_facet_1 : decode cX11_facet 1 = .ok (.iconst (-1), 1) := by decide +kernel
theorem dX11_facet_2 : decode cX11_facet 2 = .ok (.if_icmp .ge 5, 3) := by decide +kernel
theorem dX11_facet_5 : decode cX11_facet 5 = .ok (.iconst (-1), 1) := by decide +kernel
theorem dX11_facet_6 : decode cX11_facet 6 = .ok (.ireturn, 1) := by decide +kernel
theorem dX11_facet_7 : decode cX11_facet 7 = .ok (.lconst 0, 1) := by decide +kernel
theorem dX11_facet_8 : decode cX11_facet 8 = .ok (.lstore_n 2, 1) := by decide +kernel
theorem dX11_facet_9 : decode cX11_facet 9 = .ok (.iconst 0, 1) := by decide +kernel
theorem dX11_facet_10 : decode cX11_facet 10 = .ok (.istore 4, 2) := by decide +kernel
theorem dX11_facet_12 : decode cX11_facet 12 = .ok (.iload 4, 2) := by decide +kernel
theorem dX11_facet_14 : decode cX11_facet 14 = .ok (.aload_n 0, 1) := by decide +kernel
theorem dX11_facet_15 : decode cX11_facet 15 = .ok (.getfield 26, 3) := by decide +kernel
theorem dX11_facet_18 : decode cX11_facet 18 = .ok (.getfield 119, 3) := by decide +kernel
theorem dX11_facet_21 : decode cX11_facet 21 = .ok (.if_icmp .ge 49, 3) := by decide +kernel
theorem dX11_facet_24 : decode cX11_facet 24 = .ok (.aload_n 0, 1) := by decide +kernel
theorem dX11_facet_25 : decode cX11_facet 25 = .ok (.iload 4, 2) := by decide +kernel
theorem dX11_facet_27 : decode cX11_facet 27 = .ok (.invokevirtual 130, 3) := by decide +kernel
theorem dX11_facet_30 : decode cX11_facet 30 = .ok (.ifCond .eq 34, 3) := by decide +kernel
theorem dX11_facet_33 : decode cX11_facet 33 = .ok (.aload_n 0, 1) := by decide +kernel
theorem dX11_facet_34 : decode cX11_facet 34 = .ok (.getfield 26, 3) := by decide +kernel
theorem dX11_facet_37 : decode cX11_facet 37 = .ok (.getfield 143, 3) := by decide +kernel
theorem dX11_facet_40 : decode cX11_facet 40 = .ok (.iload 4, 2) := by decide +kernel
theorem dX11_facet_42 : decode cX11_facet 42 = .ok (.laload, 1) := by decide +kernel
theorem dX11_facet_43 : decode cX11_facet 43 = .ok (.aload_n 0, 1) := by decide +kernel
theorem dX11_facet_44 : decode cX11_facet 44 = .ok (.getfield 35, 3) := by decide +kernel
theorem dX11_facet_47 : decode cX11_facet 47 = .ok (.getfield 147, 3) := by decide +kernel
theorem dX11_facet_50 : decode cX11_facet 50 = .ok (.land, 1) := by decide +kernel
theorem dX11_facet_51 : decode cX11_facet 51 = .ok (.lconst 0, 1) := by decide +kernel
theorem dX11_facet_52 : decode cX11_facet 52 = .ok (.lcmp, 1) := by decide +kernel
theorem dX11_facet_53 : decode cX11_facet 53 = .ok (.ifCond .ne 11, 3) := by decide +kernel
theorem dX11_facet_56 : decode cX11_facet 56 = .ok (.lload_n 2, 1) := by decide +kernel
theorem dX11_facet_57 : decode cX11_facet 57 = .ok (.iload 4, 2) := by decide +kernel
theorem dX11_facet_59 : decode cX11_facet 59 = .ok (.invokestatic 256, 3) := by decide +kernel
theorem dX11_facet_62 : decode cX11_facet 62 = .ok (.lor, 1) := by decide +kernel
theorem dX11_facet_63 : decode cX11_facet 63 = .ok (.lstore_n 2, 1) := by decide +kernel
theorem dX11_facet_64 : decode cX11_facet 64 = .ok (.iinc 4 1, 3) := by decide +kernel
theorem dX11_facet_67 : decode cX11_facet 67 = .ok (.goto (-55), 3) := by decide +kernel
theorem dX11_facet_70 : decode cX11_facet 70 = .ok (.lload_n 2, 1) := by decide +kernel
theorem dX11_facet_71 : decode cX11_facet 71 = .ok (.iload_n 1, 1) := by decide +kernel
theorem dX11_facet_72 : decode cX11_facet 72 = .ok (.invokestatic 238, 3) := by decide +kernel
theorem dX11_facet_75 : decode cX11_facet 75 = .ok (.ireturn, 1) := by decide +kernel
theorem dX11_link_0 : decode cX11_link 0 = .ok (.aload_n 0, 1) := by decide +kernel
theorem dX11_link_1 : decode cX11_link 1 = .ok (.iload_n 1, 1) := by decide +kernel
theorem dX11_link_2 : decode cX11_link 2 = .ok (.invokevirtual 130, 3) := by decide +kernel
theorem dX11_link_5 : decode cX11_link 5 = .ok (.ifCond .eq 12, 3) := by decide +kernel
theorem dX11_link_8 : decode cX11_link 8 = .ok (.iload_n 2, 1) := by decide +kernel
theorem dX11_link_9 : decode cX11_link 9 = .ok (.ifCond .lt 8, 3) := by decide +kernel
theorem dX11_link_12 : decode cX11_link 12 = .ok (.iload_n 2, 1) := by decide +kernel
theorem dX11_link_13 : decode cX11_link 13 = .ok (.iconst 1, 1) := by decide +kernel
theorem dX11_link_14 : decode cX11_link 14 = .ok (.if_icmp .le 6, 3) := by decide +kernel
theorem dX11_link_17 : decode cX11_link 17 = .ok (.ldc 160, 2) := by decide +kernel
theorem dX11_link_19 : decode cX11_link 19 = .ok (.ireturn, 1) := by decide +kernel
theorem dX11_link_20 : decode cX11_link 20 = .ok (.aload_n 0, 1) := by decide +kernel
theorem dX11_link_21 : decode cX11_link 21 = .ok (.iload_n 1, 1) := by decide +kernel
theorem dX11_link_22 : decode cX11_link 22 = .ok (.invokevirtual 281, 3) := by decide +kernel
theorem dX11_link_25 : decode cX11_link 25 = .ok (.lstore_n 3, 1) := by decide +kernel
theorem dX11_link_26 : decode cX11_link 26 = .ok (.iload_n 2, 1) := by decide +kernel
theorem dX11_link_27 : decode cX11_link 27 = .ok (.ifCond .ne 10, 3) := by decide +kernel
theorem dX11_link_30 : decode cX11_link 30 = .ok (.lload_n 3, 1) := by decide +kernel
theorem dX11_link_31 : decode cX11_link 31 = .ok (.invokestatic 151, 3) := by decide +kernel
theorem dX11_link_34 : decode cX11_link 34 = .ok (.goto 11, 3) := by decide +kernel
theorem dX11_link_37 : decode cX11_link 37 = .ok (.aload_n 0, 1) := by decide +kernel
theorem dX11_link_38 : decode cX11_link 38 = .ok (.getfield 26, 3) := by decide +kernel
theorem dX11_link_41 : decode cX11_link 41 = .ok (.lload_n 3, 1) := by decide +kernel
theorem dX11_link_42 : decode cX11_link 42 = .ok (.invokevirtual 284, 3) := by decide +kernel
theorem dX11_link_45 : decode cX11_link 45 = .ok (.ireturn, 1) := by decide +kernel
theorem dX11_room_0 : decode cX11_room 0 = .ok (.iload_n 1, 1) := by decide +kernel
theorem dX11_room_1 : decode cX11_room 1 = .ok (.invokestatic 229, 3) := by decide +kernel
theorem dX11_room_4 : decode cX11_room 4 = .ok (.ifCond .ne 5, 3) := by decide +kernel
theorem dX11_room_7 : decode cX11_room 7 = .ok (.iconst (-1), 1) := by decide +kernel
theorem dX11_room_8 : decode cX11_room 8 = .ok (.ireturn, 1) := by decide +kernel
theorem dX11_room_9 : decode cX11_room 9 = .ok (.iconst 0, 1) := by decide +kernel
theorem dX11_room_10 : decode cX11_room 10 = .ok (.istore_n 2, 1) := by decide +kernel
theorem dX11_room_11 : decode cX11_room 11 = .ok (.aload_n 0, 1) := by decide +kernel
theorem dX11_room_12 : decode cX11_room 12 = .ok (.getfield 35, 3) := by decide +kernel
theorem dX11_room_15 : decode cX11_room 15 = .ok (.invokevirtual 232, 3) := by decide +kernel
theorem dX11_room_18 : decode cX11_room 18 = .ok (.lstore_n 3, 1) := by decide +kernel
theorem dX11_room_19 : decode cX11_room 19 = .ok (.iconst 0, 1) := by decide +kernel
theorem dX11_room_20 : decode cX11_room 20 = .ok (.istore 5, 2) := by decide +kernel
theorem dX11_room_22 : decode cX11_room 22 = .ok (.iload 5, 2) := by decide +kernel
theorem dX11_room_24 : decode cX11_room 24 = .ok (.aload_n 0, 1) := by decide +kernel
theorem dX11_room_25 : decode cX11_room 25 = .ok (.getfield 26, 3) := by decide +kernel
theorem dX11_room_28 : decode cX11_room 28 = .ok (.getfield 119, 3) := by decide +kernel
theorem dX11_room_31 : decode cX11_room 31 = .ok (.if_icmp .ge 53, 3) := by decide +kernel
theorem dX11_room_34 : decode cX11_room 34 = .ok (.lload_n 3, 1) := by decide +kernel
theorem dX11_room_35 : decode cX11_room 35 = .ok (.iload 5, 2) := by decide +kernel
theorem dX11_room_37 : decode cX11_room 37 = .ok (.invokestatic 168, 3) := by decide +kernel
theorem dX11_room_40 : decode cX11_room 40 = .ok (.ifCond .eq 38, 3) := by decide +kernel
theorem dX11_room_43 : decode cX11_room 43 = .ok (.aload_n 0, 1) := by decide +kernel
theorem dX11_room_44 : decode cX11_room 44 = .ok (.getfield 26, 3) := by decide +kernel
theorem dX11_room_47 : decode cX11_room 47 = .ok (.getfield 127, 3) := by decide +kernel
theorem dX11_room_50 : decode cX11_room 50 = .ok (.iload 5, 2) := by decide +kernel
theorem dX11_room_52 : decode cX11_room 52 = .ok (.iaload, 1) := by decide +kernel
theorem dX11_room_53 : decode cX11_room 53 = .ok (.iload_n 1, 1) := by decide +kernel
theorem dX11_room_54 : decode cX11_room 54 = .ok (.if_icmp .ne 24, 3) := by decide +kernel
theorem dX11_room_57 : decode cX11_room 57 = .ok (.iload_n 2, 1) := by decide +kernel
theorem dX11_room_58 : decode cX11_room 58 = .ok (.aload_n 0, 1) := by decide +kernel
theorem dX11_room_59 : decode cX11_room 59 = .ok (.iload 5, 2) := by decide +kernel
theorem dX11_room_61 : decode cX11_room 61 = .ok (.aload_n 0, 1) := by decide +kernel
theorem dX11_room_62 : decode cX11_room 62 = .ok (.getfield 26, 3) := by decide +kernel
theorem dX11_room_65 : decode cX11_room 65 = .ok (.getfield 143, 3) := by decide +kernel
theorem dX11_room_68 : decode cX11_room 68 = .ok (.iload 5, 2) := by decide +kernel
theorem dX11_room_70 : decode cX11_room 70 = .ok (.laload, 1) := by decide +kernel
theorem dX11_room_71 : decode cX11_room 71 = .ok (.lload_n 3, 1) := by decide +kernel
theorem dX11_room_72 : decode cX11_room 72 = .ok (.land, 1) := by decide +kernel
theorem dX11_room_73 : decode cX11_room 73 = .ok (.invokevirtual 287, 3) := by decide +kernel
theorem dX11_room_76 : decode cX11_room 76 = .ok (.iadd, 1) := by decide +kernel
theorem dX11_room_77 : decode cX11_room 77 = .ok (.istore_n 2, 1) := by decide +kernel
theorem dX11_room_78 : decode cX11_room 78 = .ok (.iinc 5 1, 3) := by decide +kernel
theorem dX11_room_81 : decode cX11_room 81 = .ok (.goto (-59), 3) := by decide +kernel
theorem dX11_room_84 : decode cX11_room 84 = .ok (.iload_n 2, 1) := by decide +kernel
theorem dX11_room_85 : decode cX11_room 85 = .ok (.ireturn, 1) := by decide +kernel
theorem dX11_draws_0 : decode cX11_draws 0 = .ok (.iload_n 1, 1) := by decide +kernel
theorem dX11_draws_1 : decode cX11_draws 1 = .ok (.ifCond .ge 5, 3) := by decide +kernel
theorem dX11_draws_4 : decode cX11_draws 4 = .ok (.iconst (-1), 1) := by decide +kernel
theorem dX11_draws_5 : decode cX11_draws 5 = .ok (.ireturn, 1) := by decide +kernel
theorem dX11_draws_6 : decode cX11_draws 6 = .ok (.aload_n 0, 1) := by decide +kernel
theorem dX11_draws_7 : decode cX11_draws 7 = .ok (.getfield 291, 3) := by decide +kernel
theorem dX11_draws_10 : decode cX11_draws 10 = .ok (.istore_n 2, 1) := by decide +kernel
theorem dX11_draws_11 : decode cX11_draws 11 = .ok (.aload_n 0, 1) := by decide +kernel
theorem dX11_draws_12 : decode cX11_draws 12 = .ok (.iload_n 1, 1) := by decide +kernel
theorem dX11_draws_13 : decode cX11_draws 13 = .ok (.putfield 291, 3) := by decide +kernel
theorem dX11_draws_16 : decode cX11_draws 16 = .ok (.iload_n 2, 1) := by decide +kernel
theorem dX11_draws_17 : decode cX11_draws 17 = .ok (.ireturn, 1) := by decide +kernel
theorem dX11_drawn_0 : decode cX11_drawn 0 = .ok (.iload_n 1, 1) := by decide +kernel
theorem dX11_drawn_1 : decode cX11_drawn 1 = .ok (.iconst 1, 1) := by decide +kernel
theorem dX11_drawn_2 : decode cX11_drawn 2 = .ok (.if_icmp .lt 28, 3) := by decide +kernel
theorem dX11_drawn_5 : decode cX11_drawn 5 = .ok (.iload_n 1, 1) := by decide +kernel
theorem dX11_drawn_6 : decode cX11_drawn 6 = .ok (.bipush 40, 2) := by decide +kernel
theorem dX11_drawn_8 : decode cX11_drawn 8 = .ok (.if_icmp .gt 22, 3) := by decide +kernel
theorem dX11_drawn_11 : decode cX11_drawn 11 = .ok (.iload_n 2, 1) := by decide +kernel
theorem dX11_drawn_12 : decode cX11_drawn 12 = .ok (.ifCond .lt 18, 3) := by decide +kernel
theorem dX11_drawn_15 : decode cX11_drawn 15 = .ok (.iload_n 2, 1) := by decide +kernel
theorem dX11_drawn_16 : decode cX11_drawn 16 = .ok (.iconst 2, 1) := by decide +kernel
theorem dX11_drawn_17 : decode cX11_drawn 17 = .ok (.if_icmp .gt 13, 3) := by decide +kernel
theorem dX11_drawn_20 : decode cX11_drawn 20 = .ok (.aload_n 0, 1) := by decide +kernel
theorem dX11_drawn_21 : decode cX11_drawn 21 = .ok (.getfield 26, 3) := by decide +kernel
theorem dX11_drawn_24 : decode cX11_drawn 24 = .ok (.getfield 119, 3) := by decide +kernel
theorem dX11_drawn_27 : decode cX11_drawn 27 = .ok (.ifCond .ne 5, 3) := by decide +kernel
theorem dX11_drawn_30 : decode cX11_drawn 30 = .ok (.iconst (-1), 1) := by decide +kernel
theorem dX11_drawn_31 : decode cX11_drawn 31 = .ok (.ireturn, 1) := by decide +kernel
theorem dX11_drawn_32 : decode cX11_drawn 32 = .ok (.aload_n 0, 1) := by decide +kernel
theorem dX11_drawn_33 : decode cX11_drawn 33 = .ok (.getfield 291, 3) := by decide +kernel
theorem dX11_drawn_36 : decode cX11_drawn 36 = .ok (.istore_n 3, 1) := by decide +kernel
theorem dX11_drawn_37 : decode cX11_drawn 37 = .ok (.bipush 64, 2) := by decide +kernel
theorem dX11_drawn_39 : decode cX11_drawn 39 = .ok (.istore 4, 2) := by decide +kernel
theorem dX11_drawn_41 : decode cX11_drawn 41 = .ok (.iconst 0, 1) := by decide +kernel
theorem dX11_drawn_42 : decode cX11_drawn 42 = .ok (.istore 5, 2) := by decide +kernel
theorem dX11_drawn_44 : decode cX11_drawn 44 = .ok (.iconst 0, 1) := by decide +kernel
theorem dX11_drawn_45 : decode cX11_drawn 45 = .ok (.istore 6, 2) := by decide +kernel
theorem dX11_drawn_47 : decode cX11_drawn 47 = .ok (.iconst 0, 1) := by decide +kernel
theorem dX11_drawn_48 : decode cX11_drawn 48 = .ok (.istore 7, 2) := by decide +kernel
theorem dX11_drawn_50 : decode cX11_drawn 50 = .ok (.iload 7, 2) := by decide +kernel
theorem dX11_drawn_52 : decode cX11_drawn 52 = .ok (.iload_n 1, 1) := by decide +kernel
theorem dX11_drawn_53 : decode cX11_drawn 53 = .ok (.if_icmp .ge 48, 3) := by decide +kernel
theorem dX11_drawn_56 : decode cX11_drawn 56 = .ok (.aload_n 0, 1) := by decide +kernel
theorem dX11_drawn_57 : decode cX11_drawn 57 = .ok (.invokevirtual 294, 3) := by decide +kernel
theorem dX11_drawn_60 : decode cX11_drawn 60 = .ok (.istore 8, 2) := by decide +kernel
theorem dX11_drawn_62 : decode cX11_drawn 62 = .ok (.iload 6, 2) := by decide +kernel
theorem dX11_drawn_64 : decode cX11_drawn 64 = .ok (.iload 8, 2) := by decide +kernel
theorem dX11_drawn_66 : decode cX11_drawn 66 = .ok (.invokestatic 297, 3) := by decide +kernel
theorem dX11_drawn_69 : decode cX11_drawn 69 = .ok (.istore 6, 2) := by decide +kernel
theorem dX11_drawn_71 : decode cX11_drawn 71 = .ok (.iload 8, 2) := by decide +kernel
theorem dX11_drawn_73 : decode cX11_drawn 73 = .ok (.iload 4, 2) := by decide +kernel
theorem dX11_drawn_75 : decode cX11_drawn 75 = .ok (.if_icmp .ge 10, 3) := by decide +kernel
theorem dX11_drawn_78 : decode cX11_drawn 78 = .ok (.iload 8, 2) := by decide +kernel
theorem dX11_drawn_80 : decode cX11_drawn 80 = .ok (.istore 4, 2) := by decide +kernel
theorem dX11_drawn_82 : decode cX11_drawn 82 = .ok (.iconst 0, 1) := by decide +kernel
theorem dX11_drawn_83 : decode cX11_drawn 83 = .ok (.istore 5, 2) := by decide +kernel
theorem dX11_drawn_85 : decode cX11_drawn 85 = .ok (.iload 8, 2) := by decide +kernel
theorem dX11_drawn_87 : decode cX11_drawn 87 = .ok (.iload 4, 2) := by decide +kernel
theorem dX11_drawn_89 : decode cX11_drawn 89 = .ok (.if_icmp .ne 6, 3) := by decide +kernel
theorem dX11_drawn_92 : decode cX11_drawn 92 = .ok (.iinc 5 1, 3) := by decide +kernel
theorem dX11_drawn_95 : decode cX11_drawn 95 = .ok (.iinc 7 1, 3) := by decide +kernel
theorem dX11_drawn_98 : decode cX11_drawn 98 = .ok (.goto (-48), 3) := by decide +kernel
theorem dX11_drawn_101 : decode cX11_drawn 101 = .ok (.aload_n 0, 1) := by decide +kernel
theorem dX11_drawn_102 : decode cX11_drawn 102 = .ok (.iload_n 3, 1) := by decide +kernel
theorem dX11_drawn_103 : decode cX11_drawn 103 = .ok (.putfield 291, 3) := by decide +kernel
theorem dX11_drawn_106 : decode cX11_drawn 106 = .ok (.iload_n 2, 1) := by decide +kernel
theorem dX11_drawn_107 : decode cX11_drawn 107 = .ok (.ifCond .ne 6, 3) := by decide +kernel
theorem dX11_drawn_110 : decode cX11_drawn 110 = .ok (.iload 4, 2) := by decide +kernel
theorem dX11_drawn_112 : decode cX11_drawn 112 = .ok (.ireturn, 1) := by decide +kernel
theorem dX11_drawn_113 : decode cX11_drawn 113 = .ok (.iload_n 2, 1) := by decide +kernel
theorem dX11_drawn_114 : decode cX11_drawn 114 = .ok (.iconst 1, 1) := by decide +kernel
theorem dX11_drawn_115 : decode cX11_drawn 115 = .ok (.if_icmp .ne 8, 3) := by decide +kernel
theorem dX11_drawn_118 : decode cX11_drawn 118 = .ok (.iload 5, 2) := by decide +kernel
theorem dX11_drawn_120 : decode cX11_drawn 120 = .ok (.goto 5, 3) := by decide +kernel
theorem dX11_drawn_123 : decode cX11_drawn 123 = .ok (.iload 6, 2) := by decide +kernel
theorem dX11_drawn_125 : decode cX11_drawn 125 = .ok (.ireturn, 1) := by decide +kernel
theorem dX11_level_0 : decode cX11_level 0 = .ok (.iload_n 1, 1) := by decide +kernel
theorem dX11_level_1 : decode cX11_level 1 = .ok (.ifCond .lt 12, 3) := by decide +kernel
theorem dX11_level_4 : decode cX11_level 4 = .ok (.iload_n 2, 1) := by decide +kernel
theorem dX11_level_5 : decode cX11_level 5 = .ok (.ifCond .lt 8, 3) := by decide +kernel
theorem dX11_level_8 : decode cX11_level 8 = .ok (.iload_n 2, 1) := by decide +kernel
theorem dX11_level_9 : decode cX11_level 9 = .ok (.iconst 1, 1) := by decide +kernel
theorem dX11_level_10 : decode cX11_level 10 = .ok (.if_icmp .le 5, 3) := by decide +kernel
theorem dX11_level_13 : decode cX11_level 13 = .ok (.iconst (-1), 1) := by decide +kernel
theorem dX11_level_14 : decode cX11_level 14 = .ok (.ireturn, 1) := by decide +kernel
theorem dX11_level_15 : decode cX11_level 15 = .ok (.aload_n 0, 1) := by decide +kernel
theorem dX11_level_16 : decode cX11_level 16 = .ok (.getfield 51, 3) := by decide +kernel
theorem dX11_level_19 : decode cX11_level 19 = .ok (.iload_n 1, 1) := by decide +kernel
theorem dX11_level_20 : decode cX11_level 20 = .ok (.invokevirtual 302, 3) := by decide +kernel
theorem dX11_level_23 : decode cX11_level 23 = .ok (.lstore_n 3, 1) := by decide +kernel
theorem dX11_level_24 : decode cX11_level 24 = .ok (.iload_n 2, 1) := by decide +kernel
theorem dX11_level_25 : decode cX11_level 25 = .ok (.ifCond .ne 10, 3) := by decide +kernel
theorem dX11_level_28 : decode cX11_level 28 = .ok (.lload_n 3, 1) := by decide +kernel
theorem dX11_level_29 : decode cX11_level 29 = .ok (.invokestatic 151, 3) := by decide +kernel
theorem dX11_level_32 : decode cX11_level 32 = .ok (.goto 11, 3) := by decide +kernel
theorem dX11_level_35 : decode cX11_level 35 = .ok (.aload_n 0, 1) := by decide +kernel
theorem dX11_level_36 : decode cX11_level 36 = .ok (.getfield 26, 3) := by decide +kernel
theorem dX11_level_39 : decode cX11_level 39 = .ok (.lload_n 3, 1) := by decide +kernel
theorem dX11_level_40 : decode cX11_level 40 = .ok (.invokevirtual 284, 3) := by decide +kernel
theorem dX11_level_43 : decode cX11_level 43 = .ok (.ireturn, 1) := by decide +kernel
theorem dX11_levelBetti_0 : decode cX11_levelBetti 0 = .ok (.iload_n 1, 1) := by decide +kernel
theorem dX11_levelBetti_1 : decode cX11_levelBetti 1 = .ok (.ifCond .lt 10, 3) := by decide +kernel
theorem dX11_levelBetti_4 : decode cX11_levelBetti 4 = .ok (.iload_n 2, 1) := by decide +kernel
theorem dX11_levelBetti_5 : decode cX11_levelBetti 5 = .ok (.invokestatic 229, 3) := by decide +kernel
theorem dX11_levelBetti_8 : decode cX11_levelBetti 8 = .ok (.ifCond .ne 5, 3) := by decide +kernel
theorem dX11_levelBetti_11 : decode cX11_levelBetti 11 = .ok (.iconst (-1), 1) := by decide +kernel
theorem dX11_levelBetti_12 : decode cX11_levelBetti 12 = .ok (.ireturn, 1) := by decide +kernel
theorem dX11_levelBetti_13 : decode cX11_levelBetti 13 = .ok (.aload_n 0, 1) := by decide +kernel
theorem dX11_levelBetti_14 : decode cX11_levelBetti 14 = .ok (.getfield 69, 3) := by decide +kernel
theorem dX11_levelBetti_17 : decode cX11_levelBetti 17 = .ok (.aload_n 0, 1) := by decide +kernel
theorem dX11_levelBetti_18 : decode cX11_levelBetti 18 = .ok (.getfield 26, 3) := by decide +kernel
theorem dX11_levelBetti_21 : decode cX11_levelBetti 21 = .ok (.aload_n 0, 1) := by decide +kernel
theorem dX11_levelBetti_22 : decode cX11_levelBetti 22 = .ok (.getfield 51, 3) := by decide +kernel
theorem dX11_levelBetti_25 : decode cX11_levelBetti 25 = .ok (.iload_n 1, 1) := by decide +kernel
theorem dX11_levelBetti_26 : decode cX11_levelBetti 26 = .ok (.invokevirtual 302, 3) := by decide +kernel
theorem dX11_levelBetti_29 : decode cX11_levelBetti 29 = .ok (.invokevirtual 305, 3) := by decide +kernel
theorem dX11_levelBetti_32 : decode cX11_levelBetti 32 = .ok (.iload_n 2, 1) := by decide +kernel
theorem dX11_levelBetti_33 : decode cX11_levelBetti 33 = .ok (.iconst 0, 1) := by decide +kernel
theorem dX11_levelBetti_34 : decode cX11_levelBetti 34 = .ok (.invokevirtual 269, 3) := by decide +kernel
theorem dX11_levelBetti_37 : decode cX11_levelBetti 37 = .ok (.ireturn, 1) := by decide +kernel
theorem dX11_keep_0 : decode cX11_keep 0 = .ok (.iload_n 1, 1) := by decide +kernel
theorem dX11_keep_1 : decode cX11_keep 1 = .ok (.ifCond .lt 18, 3) := by decide +kernel
theorem dX11_keep_4 : decode cX11_keep 4 = .ok (.iload_n 1, 1) := by decide +kernel
theorem dX11_keep_5 : decode cX11_keep 5 = .ok (.iconst 3, 1) := by decide +kernel
theorem dX11_keep_6 : decode cX11_keep 6 = .ok (.if_icmp .ge 13, 3) := by decide +kernel
theorem dX11_keep_9 : decode cX11_keep 9 = .ok (.aload_n 0, 1) := by decide +kernel
theorem dX11_keep_10 : decode cX11_keep 10 = .ok (.getfield 26, 3) := by decide +kernel
theorem dX11_keep_13 : decode cX11_keep 13 = .ok (.getfield 119, 3) := by decide +kernel
theorem dX11_keep_16 : decode cX11_keep 16 = .ok (.ifCond .ne 5, 3) := by decide +kernel
theorem dX11_keep_19 : decode cX11_keep 19 = .ok (.iconst (-1), 1) := by decide +kernel
theorem dX11_keep_20 : decode cX11_keep 20 = .ok (.ireturn, 1) := by decide +kernel
theorem dX11_keep_21 : decode cX11_keep 21 = .ok (.aload_n 0, 1) := by decide +kernel
theorem dX11_keep_22 : decode cX11_keep 22 = .ok (.getfield 83, 3) := by decide +kernel
theorem dX11_keep_25 : decode cX11_keep 25 = .ok (.iload_n 1, 1) := by decide +kernel
theorem dX11_keep_26 : decode cX11_keep 26 = .ok (.aload_n 0, 1) := by decide +kernel
theorem dX11_keep_27 : decode cX11_keep 27 = .ok (.getfield 35, 3) := by decide +kernel
theorem dX11_keep_30 : decode cX11_keep 30 = .ok (.invokevirtual 309, 3) := by decide +kernel
theorem dX11_keep_33 : decode cX11_keep 33 = .ok (.aload_n 0, 1) := by decide +kernel
theorem dX11_keep_34 : decode cX11_keep 34 = .ok (.getfield 35, 3) := by decide +kernel
theorem dX11_keep_37 : decode cX11_keep 37 = .ok (.invokevirtual 313, 3) := by decide +kernel
theorem dX11_keep_40 : decode cX11_keep 40 = .ok (.ireturn, 1) := by decide +kernel
theorem dX11_same_0 : decode cX11_same 0 = .ok (.iload_n 1, 1) := by decide +kernel
theorem dX11_same_1 : decode cX11_same 1 = .ok (.ifCond .lt 8, 3) := by decide +kernel
theorem dX11_same_4 : decode cX11_same 4 = .ok (.iload_n 1, 1) := by decide +kernel
theorem dX11_same_5 : decode cX11_same 5 = .ok (.iconst 3, 1) := by decide +kernel
theorem dX11_same_6 : decode cX11_same 6 = .ok (.if_icmp .lt 5, 3) := by decide +kernel
theorem dX11_same_9 : decode cX11_same 9 = .ok (.iconst (-1), 1) := by decide +kernel
theorem dX11_same_10 : decode cX11_same 10 = .ok (.ireturn, 1) := by decide +kernel
theorem dX11_same_11 : decode cX11_same 11 = .ok (.aload_n 0, 1) := by decide +kernel
theorem dX11_same_12 : decode cX11_same 12 = .ok (.getfield 83, 3) := by decide +kernel
theorem dX11_same_15 : decode cX11_same 15 = .ok (.getfield 316, 3) := by decide +kernel
theorem dX11_same_18 : decode cX11_same 18 = .ok (.iload_n 1, 1) := by decide +kernel
theorem dX11_same_19 : decode cX11_same 19 = .ok (.invokestatic 168, 3) := by decide +kernel
theorem dX11_same_22 : decode cX11_same 22 = .ok (.ifCond .ne 6, 3) := by decide +kernel
theorem dX11_same_25 : decode cX11_same 25 = .ok (.bipush (-2), 2) := by decide +kernel
theorem dX11_same_27 : decode cX11_same 27 = .ok (.ireturn, 1) := by decide +kernel
theorem dX11_same_28 : decode cX11_same 28 = .ok (.aload_n 0, 1) := by decide +kernel
theorem dX11_same_29 : decode cX11_same 29 = .ok (.getfield 83, 3) := by decide +kernel
theorem dX11_same_32 : decode cX11_same 32 = .ok (.iload_n 1, 1) := by decide +kernel
theorem dX11_same_33 : decode cX11_same 33 = .ok (.aload_n 0, 1) := by decide +kernel
theorem dX11_same_34 : decode cX11_same 34 = .ok (.getfield 35, 3) := by decide +kernel
theorem dX11_same_37 : decode cX11_same 37 = .ok (.invokevirtual 319, 3) := by decide +kernel
theorem dX11_same_40 : decode cX11_same 40 = .ok (.ireturn, 1) := by decide +kernel
theorem dX11_count_0 : decode cX11_count 0 = .ok (.iload_n 1, 1) := by decide +kernel
theorem dX11_count_1 : decode cX11_count 1 = .ok (.tableswitch 153 0 9 #[55, 63, 74, 89, 97, 102, 117, 132, 140, 145], 55) := by decide +kernel
theorem dX11_count_56 : decode cX11_count 56 = .ok (.aload_n 0, 1) := by decide +kernel
theorem dX11_count_57 : decode cX11_count 57 = .ok (.getfield 26, 3) := by decide +kernel
theorem dX11_count_60 : decode cX11_count 60 = .ok (.getfield 119, 3) := by decide +kernel
theorem dX11_count_63 : decode cX11_count 63 = .ok (.ireturn, 1) := by decide +kernel
theorem dX11_count_64 : decode cX11_count 64 = .ok (.aload_n 0, 1) := by decide +kernel
theorem dX11_count_65 : decode cX11_count 65 = .ok (.getfield 35, 3) := by decide +kernel
theorem dX11_count_68 : decode cX11_count 68 = .ok (.getfield 147, 3) := by decide +kernel
theorem dX11_count_71 : decode cX11_count 71 = .ok (.invokestatic 151, 3) := by decide +kernel
theorem dX11_count_74 : decode cX11_count 74 = .ok (.ireturn, 1) := by decide +kernel
theorem dX11_count_75 : decode cX11_count 75 = .ok (.aload_n 0, 1) := by decide +kernel
theorem dX11_count_76 : decode cX11_count 76 = .ok (.getfield 26, 3) := by decide +kernel
theorem dX11_count_79 : decode cX11_count 79 = .ok (.aload_n 0, 1) := by decide +kernel
theorem dX11_count_80 : decode cX11_count 80 = .ok (.getfield 35, 3) := by decide +kernel
theorem dX11_count_83 : decode cX11_count 83 = .ok (.getfield 147, 3) := by decide +kernel
theorem dX11_count_86 : decode cX11_count 86 = .ok (.invokevirtual 323, 3) := by decide +kernel
theorem dX11_count_89 : decode cX11_count 89 = .ok (.ireturn, 1) := by decide +kernel
theorem dX11_count_90 : decode cX11_count 90 = .ok (.aload_n 0, 1) := by decide +kernel
theorem dX11_count_91 : decode cX11_count 91 = .ok (.getfield 35, 3) := by decide +kernel
theorem dX11_count_94 : decode cX11_count 94 = .ok (.invokevirtual 313, 3) := by decide +kernel
theorem dX11_count_97 : decode cX11_count 97 = .ok (.ireturn, 1) := by decide +kernel
theorem dX11_count_98 : decode cX11_count 98 = .ok (.aload_n 0, 1) := by decide +kernel
theorem dX11_count_99 : decode cX11_count 99 = .ok (.invokevirtual 187, 3) := by decide +kernel
theorem dX11_count_102 : decode cX11_count 102 = .ok (.ireturn, 1) := by decide +kernel
theorem dX11_count_103 : decode cX11_count 103 = .ok (.aload_n 0, 1) := by decide +kernel
theorem dX11_count_104 : decode cX11_count 104 = .ok (.getfield 26, 3) := by decide +kernel
theorem dX11_count_107 : decode cX11_count 107 = .ok (.aload_n 0, 1) := by decide +kernel
theorem dX11_count_108 : decode cX11_count 108 = .ok (.getfield 35, 3) := by decide +kernel
theorem dX11_count_111 : decode cX11_count 111 = .ok (.getfield 147, 3) := by decide +kernel
theorem dX11_count_114 : decode cX11_count 114 = .ok (.invokevirtual 284, 3) := by decide +kernel
theorem dX11_count_117 : decode cX11_count 117 = .ok (.ireturn, 1) := by decide +kernel
theorem dX11_count_118 : decode cX11_count 118 = .ok (.aload_n 0, 1) := by decide +kernel
theorem dX11_count_119 : decode cX11_count 119 = .ok (.getfield 26, 3) := by decide +kernel
theorem dX11_count_122 : decode cX11_count 122 = .ok (.aload_n 0, 1) := by decide +kernel
theorem dX11_count_123 : decode cX11_count 123 = .ok (.getfield 35, 3) := by decide +kernel
theorem dX11_count_126 : decode cX11_count 126 = .ok (.getfield 147, 3) := by decide +kernel
theorem dX11_count_129 : decode cX11_count 129 = .ok (.invokevirtual 326, 3) := by decide +kernel
theorem dX11_count_132 : decode cX11_count 132 = .ok (.ireturn, 1) := by decide +kernel
theorem dX11_count_133 : decode cX11_count 133 = .ok (.aload_n 0, 1) := by decide +kernel
theorem dX11_count_134 : decode cX11_count 134 = .ok (.getfield 76, 3) := by decide +kernel
theorem dX11_count_137 : decode cX11_count 137 = .ok (.getfield 115, 3) := by decide +kernel
theorem dX11_count_140 : decode cX11_count 140 = .ok (.ireturn, 1) := by decide +kernel
theorem dX11_count_141 : decode cX11_count 141 = .ok (.aload_n 0, 1) := by decide +kernel
theorem dX11_count_142 : decode cX11_count 142 = .ok (.getfield 291, 3) := by decide +kernel
theorem dX11_count_145 : decode cX11_count 145 = .ok (.ireturn, 1) := by decide +kernel
theorem dX11_count_146 : decode cX11_count 146 = .ok (.aload_n 0, 1) := by decide +kernel
theorem dX11_count_147 : decode cX11_count 147 = .ok (.getfield 10, 3) := by decide +kernel
theorem dX11_count_150 : decode cX11_count 150 = .ok (.getfield 87, 3) := by decide +kernel
theorem dX11_count_153 : decode cX11_count 153 = .ok (.ireturn, 1) := by decide +kernel
theorem dX11_count_154 : decode cX11_count 154 = .ok (.iconst (-1), 1) := by decide +kernel
theorem dX11_count_155 : decode cX11_count 155 = .ok (.ireturn, 1) := by decide +kernel
theorem dX11_isDim_0 : decode cX11_isDim 0 = .ok (.iload_n 0, 1) := by decide +kernel
theorem dX11_isDim_1 : decode cX11_isDim 1 = .ok (.ifCond .lt 12, 3) := by decide +kernel
theorem dX11_isDim_4 : decode cX11_isDim 4 = .ok (.iload_n 0, 1) := by decide +kernel
theorem dX11_isDim_5 : decode cX11_isDim 5 = .ok (.iconst 5, 1) := by decide +kernel
theorem dX11_isDim_6 : decode cX11_isDim 6 = .ok (.if_icmp .ge 7, 3) := by decide +kernel
theorem dX11_isDim_9 : decode cX11_isDim 9 = .ok (.iconst 1, 1) := by decide +kernel
theorem dX11_isDim_10 : decode cX11_isDim 10 = .ok (.goto 4, 3) := by decide +kernel
theorem dX11_isDim_13 : decode cX11_isDim 13 = .ok (.iconst 0, 1) := by decide +kernel
theorem dX11_isDim_14 : decode cX11_isDim 14 = .ok (.ireturn, 1) := by decide +kernel
theorem dX11_bit_0 : decode cX11_bit 0 = .ok (.lconst 1, 1) := by decide +kernel
theorem dX11_bit_1 : decode cX11_bit 1 = .ok (.iload_n 0, 1) := by decide +kernel
theorem dX11_bit_2 : decode cX11_bit 2 = .ok (.lshl, 1) := by decide +kernel
theorem dX11_bit_3 : decode cX11_bit 3 = .ok (.lreturn, 1) := by decide +kernel
theorem dX11_isIn_0 : decode cX11_isIn 0 = .ok (.lload_n 0, 1) := by decide +kernel
theorem dX11_isIn_1 : decode cX11_isIn 1 = .ok (.iload_n 2, 1) := by decide +kernel
theorem dX11_isIn_2 : decode cX11_isIn 2 = .ok (.lushr, 1) := by decide +kernel
theorem dX11_isIn_3 : decode cX11_isIn 3 = .ok (.lconst 1, 1) := by decide +kernel
theorem dX11_isIn_4 : decode cX11_isIn 4 = .ok (.land, 1) := by decide +kernel
theorem dX11_isIn_5 : decode cX11_isIn 5 = .ok (.lconst 0, 1) := by decide +kernel
theorem dX11_isIn_6 : decode cX11_isIn 6 = .ok (.lcmp, 1) := by decide +kernel
theorem dX11_isIn_7 : decode cX11_isIn 7 = .ok (.ifCond .eq 7, 3) := by decide +kernel
theorem dX11_isIn_10 : decode cX11_isIn 10 = .ok (.iconst 1, 1) := by decide +kernel
theorem dX11_isIn_11 : decode cX11_isIn 11 = .ok (.goto 4, 3) := by decide +kernel
theorem dX11_isIn_14 : decode cX11_isIn 14 = .ok (.iconst 0, 1) := by decide +kernel
theorem dX11_isIn_15 : decode cX11_isIn 15 = .ok (.ireturn, 1) := by decide +kernel
theorem dX11_lowest_0 : decode cX11_lowest 0 = .ok (.lload_n 0, 1) := by decide +kernel
theorem dX11_lowest_1 : decode cX11_lowest 1 = .ok (.lload_n 0, 1) := by decide +kernel
theorem dX11_lowest_2 : decode cX11_lowest 2 = .ok (.lneg, 1) := by decide +kernel
theorem dX11_lowest_3 : decode cX11_lowest 3 = .ok (.land, 1) := by decide +kernel
theorem dX11_lowest_4 : decode cX11_lowest 4 = .ok (.lconst 1, 1) := by decide +kernel
theorem dX11_lowest_5 : decode cX11_lowest 5 = .ok (.lsub, 1) := by decide +kernel
theorem dX11_lowest_6 : decode cX11_lowest 6 = .ok (.invokestatic 151, 3) := by decide +kernel
theorem dX11_lowest_9 : decode cX11_lowest 9 = .ok (.bipush 63, 2) := by decide +kernel
theorem dX11_lowest_11 : decode cX11_lowest 11 = .ok (.iand, 1) := by decide +kernel
theorem dX11_lowest_12 : decode cX11_lowest 12 = .ok (.ireturn, 1) := by decide +kernel
theorem dX11_nth_0 : decode cX11_nth 0 = .ok (.lload_n 0, 1) := by decide +kernel
theorem dX11_nth_1 : decode cX11_nth 1 = .ok (.lstore_n 3, 1) := by decide +kernel
theorem dX11_nth_2 : decode cX11_nth 2 = .ok (.iconst 0, 1) := by decide +kernel
theorem dX11_nth_3 : decode cX11_nth 3 = .ok (.istore 5, 2) := by decide +kernel
theorem dX11_nth_5 : decode cX11_nth 5 = .ok (.iload 5, 2) := by decide +kernel
theorem dX11_nth_7 : decode cX11_nth 7 = .ok (.iload_n 2, 1) := by decide +kernel
theorem dX11_nth_8 : decode cX11_nth 8 = .ok (.if_icmp .ge 21, 3) := by decide +kernel
theorem dX11_nth_11 : decode cX11_nth 11 = .ok (.lload_n 3, 1) := by decide +kernel
theorem dX11_nth_12 : decode cX11_nth 12 = .ok (.lconst 0, 1) := by decide +kernel
theorem dX11_nth_13 : decode cX11_nth 13 = .ok (.lcmp, 1) := by decide +kernel
theorem dX11_nth_14 : decode cX11_nth 14 = .ok (.ifCond .eq 15, 3) := by decide +kernel
theorem dX11_nth_17 : decode cX11_nth 17 = .ok (.lload_n 3, 1) := by decide +kernel
theorem dX11_nth_18 : decode cX11_nth 18 = .ok (.lload_n 3, 1) := by decide +kernel
theorem dX11_nth_19 : decode cX11_nth 19 = .ok (.lconst 1, 1) := by decide +kernel
theorem dX11_nth_20 : decode cX11_nth 20 = .ok (.lsub, 1) := by decide +kernel
theorem dX11_nth_21 : decode cX11_nth 21 = .ok (.land, 1) := by decide +kernel
theorem dX11_nth_22 : decode cX11_nth 22 = .ok (.lstore_n 3, 1) := by decide +kernel
theorem dX11_nth_23 : decode cX11_nth 23 = .ok (.iinc 5 1, 3) := by decide +kernel
theorem dX11_nth_26 : decode cX11_nth 26 = .ok (.goto (-21), 3) := by decide +kernel
theorem dX11_nth_29 : decode cX11_nth 29 = .ok (.lload_n 3, 1) := by decide +kernel
theorem dX11_nth_30 : decode cX11_nth 30 = .ok (.invokestatic 220, 3) := by decide +kernel
theorem dX11_nth_33 : decode cX11_nth 33 = .ok (.ireturn, 1) := by decide +kernel
theorem dX11_listed_0 : decode cX11_listed 0 = .ok (.lload_n 0, 1) := by decide +kernel
theorem dX11_listed_1 : decode cX11_listed 1 = .ok (.invokestatic 151, 3) := by decide +kernel
theorem dX11_listed_4 : decode cX11_listed 4 = .ok (.istore_n 3, 1) := by decide +kernel
theorem dX11_listed_5 : decode cX11_listed 5 = .ok (.iload_n 2, 1) := by decide +kernel
theorem dX11_listed_6 : decode cX11_listed 6 = .ok (.iconst (-1), 1) := by decide +kernel
theorem dX11_listed_7 : decode cX11_listed 7 = .ok (.if_icmp .ne 5, 3) := by decide +kernel
theorem dX11_listed_10 : decode cX11_listed 10 = .ok (.iload_n 3, 1) := by decide +kernel
theorem dX11_listed_11 : decode cX11_listed 11 = .ok (.ireturn, 1) := by decide +kernel
theorem dX11_listed_12 : decode cX11_listed 12 = .ok (.iload_n 2, 1) := by decide +kernel
theorem dX11_listed_13 : decode cX11_listed 13 = .ok (.iload_n 3, 1) := by decide +kernel
theorem dX11_listed_14 : decode cX11_listed 14 = .ok (.if_icmp .ge 11, 3) := by decide +kernel
theorem dX11_listed_17 : decode cX11_listed 17 = .ok (.lload_n 0, 1) := by decide +kernel
theorem dX11_listed_18 : decode cX11_listed 18 = .ok (.iload_n 2, 1) := by decide +kernel
theorem dX11_listed_19 : decode cX11_listed 19 = .ok (.invokestatic 329, 3) := by decide +kernel
theorem dX11_listed_22 : decode cX11_listed 22 = .ok (.goto 5, 3) := by decide +kernel
theorem dX11_listed_25 : decode cX11_listed 25 = .ok (.bipush (-2), 2) := by decide +kernel
theorem dX11_listed_27 : decode cX11_listed 27 = .ok (.ireturn, 1) := by decide +kernel
theorem dX11_criticalOnes_0 : decode cX11_criticalOnes 0 = .ok (.aload_n 0, 1) := by decide +kernel
theorem dX11_criticalOnes_1 : decode cX11_criticalOnes 1 = .ok (.getfield 35, 3) := by decide +kernel
theorem dX11_criticalOnes_4 : decode cX11_criticalOnes 4 = .ok (.invokevirtual 232, 3) := by decide +kernel
theorem dX11_criticalOnes_7 : decode cX11_criticalOnes 7 = .ok (.invokestatic 151, 3) := by decide +kernel
theorem dX11_criticalOnes_10 : decode cX11_criticalOnes 10 = .ok (.ireturn, 1) := by decide +kernel
theorem dX11_basis_0 : decode cX11_basis 0 = .ok (.iload_n 1, 1) := by decide +kernel
theorem dX11_basis_1 : decode cX11_basis 1 = .ok (.iconst 1, 1) := by decide +kernel
theorem dX11_basis_2 : decode cX11_basis 2 = .ok (.if_icmp .ne 13, 3) := by decide +kernel
theorem dX11_basis_5 : decode cX11_basis 5 = .ok (.aload_n 0, 1) := by decide +kernel
theorem dX11_basis_6 : decode cX11_basis 6 = .ok (.getfield 35, 3) := by decide +kernel
theorem dX11_basis_9 : decode cX11_basis 9 = .ok (.invokevirtual 232, 3) := by decide +kernel
theorem dX11_basis_12 : decode cX11_basis 12 = .ok (.goto 10, 3) := by decide +kernel
theorem dX11_basis_15 : decode cX11_basis 15 = .ok (.aload_n 0, 1) := by decide +kernel
theorem dX11_basis_16 : decode cX11_basis 16 = .ok (.getfield 35, 3) := by decide +kernel
theorem dX11_basis_19 : decode cX11_basis 19 = .ok (.getfield 147, 3) := by decide +kernel
theorem dX11_basis_22 : decode cX11_basis 22 = .ok (.lreturn, 1) := by decide +kernel
theorem dX11_isThere_0 : decode cX11_isThere 0 = .ok (.aload_n 0, 1) := by decide +kernel
theorem dX11_isThere_1 : decode cX11_isThere 1 = .ok (.getfield 26, 3) := by decide +kernel
theorem dX11_isThere_4 : decode cX11_isThere 4 = .ok (.iload_n 1, 1) := by decide +kernel
theorem dX11_isThere_5 : decode cX11_isThere 5 = .ok (.invokevirtual 120, 3) := by decide +kernel
theorem dX11_isThere_8 : decode cX11_isThere 8 = .ok (.ifCond .eq 21, 3) := by decide +kernel
theorem dX11_isThere_11 : decode cX11_isThere 11 = .ok (.aload_n 0, 1) := by decide +kernel
theorem dX11_isThere_12 : decode cX11_isThere 12 = .ok (.getfield 35, 3) := by decide +kernel
theorem dX11_isThere_15 : decode cX11_isThere 15 = .ok (.getfield 147, 3) := by decide +kernel
theorem dX11_isThere_18 : decode cX11_isThere 18 = .ok (.iload_n 1, 1) := by decide +kernel
theorem dX11_isThere_19 : decode cX11_isThere 19 = .ok (.invokestatic 168, 3) := by decide +kernel
theorem dX11_isThere_22 : decode cX11_isThere 22 = .ok (.ifCond .eq 7, 3) := by decide +kernel
theorem dX11_isThere_25 : decode cX11_isThere 25 = .ok (.iconst 1, 1) := by decide +kernel
theorem dX11_isThere_26 : decode cX11_isThere 26 = .ok (.goto 4, 3) := by decide +kernel
theorem dX11_isThere_29 : decode cX11_isThere 29 = .ok (.iconst 0, 1) := by decide +kernel
theorem dX11_isThere_30 : decode cX11_isThere 30 = .ok (.ireturn, 1) := by decide +kernel
theorem dX11_areEnds_0 : decode cX11_areEnds 0 = .ok (.aload_n 0, 1) := by decide +kernel
theorem dX11_areEnds_1 : decode cX11_areEnds 1 = .ok (.iload_n 1, 1) := by decide +kernel
theorem dX11_areEnds_2 : decode cX11_areEnds 2 = .ok (.invokevirtual 130, 3) := by decide +kernel
theorem dX11_areEnds_5 : decode cX11_areEnds 5 = .ok (.ifCond .eq 11, 3) := by decide +kernel
theorem dX11_areEnds_8 : decode cX11_areEnds 8 = .ok (.aload_n 0, 1) := by decide +kernel
theorem dX11_areEnds_9 : decode cX11_areEnds 9 = .ok (.iload_n 2, 1) := by decide +kernel
theorem dX11_areEnds_10 : decode cX11_areEnds 10 = .ok (.invokevirtual 130, 3) := by decide +kernel
theorem dX11_areEnds_13 : decode cX11_areEnds 13 = .ok (.ifCond .ne 5, 3) := by decide +kernel
theorem dX11_areEnds_16 : decode cX11_areEnds 16 = .ok (.iconst 0, 1) := by decide +kernel
theorem dX11_areEnds_17 : decode cX11_areEnds 17 = .ok (.ireturn, 1) := by decide +kernel
theorem dX11_areEnds_18 : decode cX11_areEnds 18 = .ok (.aload_n 0, 1) := by decide +kernel
theorem dX11_areEnds_19 : decode cX11_areEnds 19 = .ok (.getfield 26, 3) := by decide +kernel
theorem dX11_areEnds_22 : decode cX11_areEnds 22 = .ok (.getfield 127, 3) := by decide +kernel
theorem dX11_areEnds_25 : decode cX11_areEnds 25 = .ok (.iload_n 1, 1) := by decide +kernel
theorem dX11_areEnds_26 : decode cX11_areEnds 26 = .ok (.iaload, 1) := by decide +kernel
theorem dX11_areEnds_27 : decode cX11_areEnds 27 = .ok (.aload_n 0, 1) := by decide +kernel
theorem dX11_areEnds_28 : decode cX11_areEnds 28 = .ok (.getfield 26, 3) := by decide +kernel
theorem dX11_areEnds_31 : decode cX11_areEnds 31 = .ok (.getfield 127, 3) := by decide +kernel
theorem dX11_areEnds_34 : decode cX11_areEnds 34 = .ok (.iload_n 2, 1) := by decide +kernel
theorem dX11_areEnds_35 : decode cX11_areEnds 35 = .ok (.iaload, 1) := by decide +kernel
theorem dX11_areEnds_36 : decode cX11_areEnds 36 = .ok (.iconst 1, 1) := by decide +kernel
theorem dX11_areEnds_37 : decode cX11_areEnds 37 = .ok (.iadd, 1) := by decide +kernel
theorem dX11_areEnds_38 : decode cX11_areEnds 38 = .ok (.if_icmp .eq 5, 3) := by decide +kernel
theorem dX11_areEnds_41 : decode cX11_areEnds 41 = .ok (.iconst 0, 1) := by decide +kernel
theorem dX11_areEnds_42 : decode cX11_areEnds 42 = .ok (.ireturn, 1) := by decide +kernel
theorem dX11_areEnds_43 : decode cX11_areEnds 43 = .ok (.aload_n 0, 1) := by decide +kernel
theorem dX11_areEnds_44 : decode cX11_areEnds 44 = .ok (.getfield 35, 3) := by decide +kernel
theorem dX11_areEnds_47 : decode cX11_areEnds 47 = .ok (.iload_n 1, 1) := by decide +kernel
theorem dX11_areEnds_48 : decode cX11_areEnds 48 = .ok (.invokevirtual 172, 3) := by decide +kernel
theorem dX11_areEnds_51 : decode cX11_areEnds 51 = .ok (.ifCond .eq 18, 3) := by decide +kernel
theorem dX11_areEnds_54 : decode cX11_areEnds 54 = .ok (.aload_n 0, 1) := by decide +kernel
theorem dX11_areEnds_55 : decode cX11_areEnds 55 = .ok (.getfield 35, 3) := by decide +kernel
theorem dX11_areEnds_58 : decode cX11_areEnds 58 = .ok (.iload_n 2, 1) := by decide +kernel
theorem dX11_areEnds_59 : decode cX11_areEnds 59 = .ok (.invokevirtual 172, 3) := by decide +kernel
theorem dX11_areEnds_62 : decode cX11_areEnds 62 = .ok (.ifCond .eq 7, 3) := by decide +kernel
theorem dX11_areEnds_65 : decode cX11_areEnds 65 = .ok (.iconst 1, 1) := by decide +kernel
theorem dX11_areEnds_66 : decode cX11_areEnds 66 = .ok (.goto 4, 3) := by decide +kernel
theorem dX11_areEnds_69 : decode cX11_areEnds 69 = .ok (.iconst 0, 1) := by decide +kernel
theorem dX11_areEnds_70 : decode cX11_areEnds 70 = .ok (.ireturn, 1) := by decide +kernel
theorem dX11_isFree_0 : decode cX11_isFree 0 = .ok (.aload_n 0, 1) := by decide +kernel
theorem dX11_isFree_1 : decode cX11_isFree 1 = .ok (.getfield 26, 3) := by decide +kernel
theorem dX11_isFree_4 : decode cX11_isFree 4 = .ok (.getfield 143, 3) := by decide +kernel
theorem dX11_isFree_7 : decode cX11_isFree 7 = .ok (.iload_n 1, 1) := by decide +kernel
theorem dX11_isFree_8 : decode cX11_isFree 8 = .ok (.laload, 1) := by decide +kernel
theorem dX11_isFree_9 : decode cX11_isFree 9 = .ok (.aload_n 0, 1) := by decide +kernel
theorem dX11_isFree_10 : decode cX11_isFree 10 = .ok (.getfield 35, 3) := by decide +kernel
theorem dX11_isFree_13 : decode cX11_isFree 13 = .ok (.getfield 147, 3) := by decide +kernel
theorem dX11_isFree_16 : decode cX11_isFree 16 = .ok (.land, 1) := by decide +kernel
theorem dX11_isFree_17 : decode cX11_isFree 17 = .ok (.lstore_n 2, 1) := by decide +kernel
theorem dX11_isFree_18 : decode cX11_isFree 18 = .ok (.lload_n 2, 1) := by decide +kernel
theorem dX11_isFree_19 : decode cX11_isFree 19 = .ok (.invokestatic 151, 3) := by decide +kernel
theorem dX11_isFree_22 : decode cX11_isFree 22 = .ok (.iconst 1, 1) := by decide +kernel
theorem dX11_isFree_23 : decode cX11_isFree 23 = .ok (.if_icmp .eq 5, 3) := by decide +kernel
theorem dX11_isFree_26 : decode cX11_isFree 26 = .ok (.iconst 0, 1) := by decide +kernel
theorem dX11_isFree_27 : decode cX11_isFree 27 = .ok (.ireturn, 1) := by decide +kernel
theorem dX11_isFree_28 : decode cX11_isFree 28 = .ok (.aload_n 0, 1) := by decide +kernel
theorem dX11_isFree_29 : decode cX11_isFree 29 = .ok (.getfield 26, 3) := by decide +kernel
theorem dX11_isFree_32 : decode cX11_isFree 32 = .ok (.getfield 143, 3) := by decide +kernel
theorem dX11_isFree_35 : decode cX11_isFree 35 = .ok (.lload_n 2, 1) := by decide +kernel
theorem dX11_isFree_36 : decode cX11_isFree 36 = .ok (.invokestatic 220, 3) := by decide +kernel
theorem dX11_isFree_39 : decode cX11_isFree 39 = .ok (.laload, 1) := by decide +kernel
theorem dX11_isFree_40 : decode cX11_isFree 40 = .ok (.aload_n 0, 1) := by decide +kernel
theorem dX11_isFree_41 : decode cX11_isFree 41 = .ok (.getfield 35, 3) := by decide +kernel
theorem dX11_isFree_44 : decode cX11_isFree 44 = .ok (.getfield 147, 3) := by decide +kernel
theorem dX11_isFree_47 : decode cX11_isFree 47 = .ok (.land, 1) := by decide +kernel
theorem dX11_isFree_48 : decode cX11_isFree 48 = .ok (.lconst 0, 1) := by decide +kernel
theorem dX11_isFree_49 : decode cX11_isFree 49 = .ok (.lcmp, 1) := by decide +kernel
theorem dX11_isFree_50 : decode cX11_isFree 50 = .ok (.ifCond .ne 7, 3) := by decide +kernel
theorem dX11_isFree_53 : decode cX11_isFree 53 = .ok (.iconst 1, 1) := by decide +kernel
theorem dX11_isFree_54 : decode cX11_isFree 54 = .ok (.goto 4, 3) := by decide +kernel
theorem dX11_isFree_57 : decode cX11_isFree 57 = .ok (.iconst 0, 1) := by decide +kernel
theorem dX11_isFree_58 : decode cX11_isFree 58 = .ok (.ireturn, 1) := by decide +kernel
theorem dX11_pairUpwards_0 : decode cX11_pairUpwards 0 = .ok (.iconst 0, 1) := by decide +kernel
theorem dX11_pairUpwards_1 : decode cX11_pairUpwards 1 = .ok (.istore_n 1, 1) := by decide +kernel
theorem dX11_pairUpwards_2 : decode cX11_pairUpwards 2 = .ok (.iload_n 1, 1) := by decide +kernel
theorem dX11_pairUpwards_3 : decode cX11_pairUpwards 3 = .ok (.aload_n 0, 1) := by decide +kernel
theorem dX11_pairUpwards_4 : decode cX11_pairUpwards 4 = .ok (.getfield 26, 3) := by decide +kernel
theorem dX11_pairUpwards_7 : decode cX11_pairUpwards 7 = .ok (.getfield 119, 3) := by decide +kernel
theorem dX11_pairUpwards_10 : decode cX11_pairUpwards 10 = .ok (.if_icmp .ge 105, 3) := by decide +kernel
theorem dX11_pairUpwards_13 : decode cX11_pairUpwards 13 = .ok (.aload_n 0, 1) := by decide +kernel
theorem dX11_pairUpwards_14 : decode cX11_pairUpwards 14 = .ok (.getfield 35, 3) := by decide +kernel
theorem dX11_pairUpwards_17 : decode cX11_pairUpwards 17 = .ok (.iload_n 1, 1) := by decide +kernel
theorem dX11_pairUpwards_18 : decode cX11_pairUpwards 18 = .ok (.invokevirtual 172, 3) := by decide +kernel
theorem dX11_pairUpwards_21 : decode cX11_pairUpwards 21 = .ok (.ifCond .eq 23, 3) := by decide +kernel
theorem dX11_pairUpwards_24 : decode cX11_pairUpwards 24 = .ok (.aload_n 0, 1) := by decide +kernel
theorem dX11_pairUpwards_25 : decode cX11_pairUpwards 25 = .ok (.getfield 26, 3) := by decide +kernel
theorem dX11_pairUpwards_28 : decode cX11_pairUpwards 28 = .ok (.getfield 143, 3) := by decide +kernel
theorem dX11_pairUpwards_31 : decode cX11_pairUpwards 31 = .ok (.iload_n 1, 1) := by decide +kernel
theorem dX11_pairUpwards_32 : decode cX11_pairUpwards 32 = .ok (.laload, 1) := by decide +kernel
theorem dX11_pairUpwards_33 : decode cX11_pairUpwards 33 = .ok (.aload_n 0, 1) := by decide +kernel
theorem dX11_pairUpwards_34 : decode cX11_pairUpwards 34 = .ok (.getfield 35, 3) := by decide +kernel
theorem dX11_pairUpwards_37 : decode cX11_pairUpwards 37 = .ok (.invokevirtual 232, 3) := by decide +kernel
theorem dX11_pairUpwards_40 : decode cX11_pairUpwards 40 = .ok (.land, 1) := by decide +kernel
theorem dX11_pairUpwards_41 : decode cX11_pairUpwards 41 = .ok (.goto 4, 3) := by decide +kernel
theorem dX11_pairUpwards_44 : decode cX11_pairUpwards 44 = .ok (.lconst 0, 1) := by decide +kernel
theorem dX11_pairUpwards_45 : decode cX11_pairUpwards 45 = .ok (.lstore_n 2, 1) := by decide +kernel
theorem dX11_pairUpwards_46 : decode cX11_pairUpwards 46 = .ok (.iload_n 1, 1) := by decide +kernel
theorem dX11_pairUpwards_47 : decode cX11_pairUpwards 47 = .ok (.iconst 1, 1) := by decide +kernel
theorem dX11_pairUpwards_48 : decode cX11_pairUpwards 48 = .ok (.iadd, 1) := by decide +kernel
theorem dX11_pairUpwards_49 : decode cX11_pairUpwards 49 = .ok (.istore 4, 2) := by decide +kernel
theorem dX11_pairUpwards_51 : decode cX11_pairUpwards 51 = .ok (.iload 4, 2) := by decide +kernel
theorem dX11_pairUpwards_53 : decode cX11_pairUpwards 53 = .ok (.aload_n 0, 1) := by decide +kernel
theorem dX11_pairUpwards_54 : decode cX11_pairUpwards 54 = .ok (.getfield 26, 3) := by decide +kernel
theorem dX11_pairUpwards_57 : decode cX11_pairUpwards 57 = .ok (.getfield 119, 3) := by decide +kernel
theorem dX11_pairUpwards_60 : decode cX11_pairUpwards 60 = .ok (.if_icmp .ge 49, 3) := by decide +kernel
theorem dX11_pairUpwards_63 : decode cX11_pairUpwards 63 = .ok (.lload_n 2, 1) := by decide +kernel
theorem dX11_pairUpwards_64 : decode cX11_pairUpwards 64 = .ok (.lconst 0, 1) := by decide +kernel
theorem dX11_pairUpwards_65 : decode cX11_pairUpwards 65 = .ok (.lcmp, 1) := by decide +kernel
theorem dX11_pairUpwards_66 : decode cX11_pairUpwards 66 = .ok (.ifCond .eq 43, 3) := by decide +kernel
theorem dX11_pairUpwards_69 : decode cX11_pairUpwards 69 = .ok (.lload_n 2, 1) := by decide +kernel
theorem dX11_pairUpwards_70 : decode cX11_pairUpwards 70 = .ok (.iload 4, 2) := by decide +kernel
theorem dX11_pairUpwards_72 : decode cX11_pairUpwards 72 = .ok (.invokestatic 168, 3) := by decide +kernel
theorem dX11_pairUpwards_75 : decode cX11_pairUpwards 75 = .ok (.ifCond .eq 28, 3) := by decide +kernel
theorem dX11_pairUpwards_78 : decode cX11_pairUpwards 78 = .ok (.aload_n 0, 1) := by decide +kernel
theorem dX11_pairUpwards_79 : decode cX11_pairUpwards 79 = .ok (.getfield 35, 3) := by decide +kernel
theorem dX11_pairUpwards_82 : decode cX11_pairUpwards 82 = .ok (.iload_n 1, 1) := by decide +kernel
theorem dX11_pairUpwards_83 : decode cX11_pairUpwards 83 = .ok (.iload 4, 2) := by decide +kernel
theorem dX11_pairUpwards_85 : decode cX11_pairUpwards 85 = .ok (.invokevirtual 175, 3) := by decide +kernel
theorem dX11_pairUpwards_88 : decode cX11_pairUpwards 88 = .ok (.ifCond .eq 15, 3) := by decide +kernel
theorem dX11_pairUpwards_91 : decode cX11_pairUpwards 91 = .ok (.aload_n 0, 1) := by decide +kernel
theorem dX11_pairUpwards_92 : decode cX11_pairUpwards 92 = .ok (.getfield 35, 3) := by decide +kernel
theorem dX11_pairUpwards_95 : decode cX11_pairUpwards 95 = .ok (.iload_n 1, 1) := by decide +kernel
theorem dX11_pairUpwards_96 : decode cX11_pairUpwards 96 = .ok (.iload 4, 2) := by decide +kernel
theorem dX11_pairUpwards_98 : decode cX11_pairUpwards 98 = .ok (.invokevirtual 183, 3) := by decide +kernel
theorem dX11_pairUpwards_101 : decode cX11_pairUpwards 101 = .ok (.lconst 0, 1) := by decide +kernel
theorem dX11_pairUpwards_102 : decode cX11_pairUpwards 102 = .ok (.lstore_n 2, 1) := by decide +kernel
theorem dX11_pairUpwards_103 : decode cX11_pairUpwards 103 = .ok (.iinc 4 1, 3) := by decide +kernel
theorem dX11_pairUpwards_106 : decode cX11_pairUpwards 106 = .ok (.goto (-55), 3) := by decide +kernel
theorem dX11_pairUpwards_109 : decode cX11_pairUpwards 109 = .ok (.iinc 1 1, 3) := by decide +kernel
theorem dX11_pairUpwards_112 : decode cX11_pairUpwards 112 = .ok (.goto (-110), 3) := by decide +kernel
theorem dX11_pairUpwards_115 : decode cX11_pairUpwards 115 = .ok (.return_, 1) := by decide +kernel
theorem dX11_pairDownwards_0 : decode cX11_pairDownwards 0 = .ok (.aload_n 0, 1) := by decide +kernel
theorem dX11_pairDownwards_1 : decode cX11_pairDownwards 1 = .ok (.getfield 26, 3) := by decide +kernel
theorem dX11_pairDownwards_4 : decode cX11_pairDownwards 4 = .ok (.getfield 119, 3) := by decide +kernel
theorem dX11_pairDownwards_7 : decode cX11_pairDownwards 7 = .ok (.iconst 1, 1) := by decide +kernel
theorem dX11_pairDownwards_8 : decode cX11_pairDownwards 8 = .ok (.isub, 1) := by decide +kernel
theorem dX11_pairDownwards_9 : decode cX11_pairDownwards 9 = .ok (.istore_n 1, 1) := by decide +kernel
theorem dX11_pairDownwards_10 : decode cX11_pairDownwards 10 = .ok (.iload_n 1, 1) := by decide +kernel
theorem dX11_pairDownwards_11 : decode cX11_pairDownwards 11 = .ok (.ifCond .lt 98, 3) := by decide +kernel
theorem dX11_pairDownwards_14 : decode cX11_pairDownwards 14 = .ok (.aload_n 0, 1) := by decide +kernel
theorem dX11_pairDownwards_15 : decode cX11_pairDownwards 15 = .ok (.getfield 35, 3) := by decide +kernel
theorem dX11_pairDownwards_18 : decode cX11_pairDownwards 18 = .ok (.iload_n 1, 1) := by decide +kernel
theorem dX11_pairDownwards_19 : decode cX11_pairDownwards 19 = .ok (.invokevirtual 172, 3) := by decide +kernel
theorem dX11_pairDownwards_22 : decode cX11_pairDownwards 22 = .ok (.ifCond .eq 23, 3) := by decide +kernel
theorem dX11_pairDownwards_25 : decode cX11_pairDownwards 25 = .ok (.aload_n 0, 1) := by decide +kernel
theorem dX11_pairDownwards_26 : decode cX11_pairDownwards 26 = .ok (.getfield 26, 3) := by decide +kernel
theorem dX11_pairDownwards_29 : decode cX11_pairDownwards 29 = .ok (.getfield 165, 3) := by decide +kernel
theorem dX11_pairDownwards_32 : decode cX11_pairDownwards 32 = .ok (.iload_n 1, 1) := by decide +kernel
theorem dX11_pairDownwards_33 : decode cX11_pairDownwards 33 = .ok (.laload, 1) := by decide +kernel
theorem dX11_pairDownwards_34 : decode cX11_pairDownwards 34 = .ok (.aload_n 0, 1) := by decide +kernel
theorem dX11_pairDownwards_35 : decode cX11_pairDownwards 35 = .ok (.getfield 35, 3) := by decide +kernel
theorem dX11_pairDownwards_38 : decode cX11_pairDownwards 38 = .ok (.invokevirtual 232, 3) := by decide +kernel
theorem dX11_pairDownwards_41 : decode cX11_pairDownwards 41 = .ok (.land, 1) := by decide +kernel
theorem dX11_pairDownwards_42 : decode cX11_pairDownwards 42 = .ok (.goto 4, 3) := by decide +kernel
theorem dX11_pairDownwards_45 : decode cX11_pairDownwards 45 = .ok (.lconst 0, 1) := by decide +kernel
theorem dX11_pairDownwards_46 : decode cX11_pairDownwards 46 = .ok (.lstore_n 2, 1) := by decide +kernel
theorem dX11_pairDownwards_47 : decode cX11_pairDownwards 47 = .ok (.iload_n 1, 1) := by decide +kernel
theorem dX11_pairDownwards_48 : decode cX11_pairDownwards 48 = .ok (.iconst 1, 1) := by decide +kernel
theorem dX11_pairDownwards_49 : decode cX11_pairDownwards 49 = .ok (.isub, 1) := by decide +kernel
theorem dX11_pairDownwards_50 : decode cX11_pairDownwards 50 = .ok (.istore 4, 2) := by decide +kernel
theorem dX11_pairDownwards_52 : decode cX11_pairDownwards 52 = .ok (.iload 4, 2) := by decide +kernel
theorem dX11_pairDownwards_54 : decode cX11_pairDownwards 54 = .ok (.ifCond .lt 49, 3) := by decide +kernel
theorem dX11_pairDownwards_57 : decode cX11_pairDownwards 57 = .ok (.lload_n 2, 1) := by decide +kernel
theorem dX11_pairDownwards_58 : decode cX11_pairDownwards 58 = .ok (.lconst 0, 1) := by decide +kernel
theorem dX11_pairDownwards_59 : decode cX11_pairDownwards 59 = .ok (.lcmp, 1) := by decide +kernel
theorem dX11_pairDownwards_60 : decode cX11_pairDownwards 60 = .ok (.ifCond .eq 43, 3) := by decide +kernel
theorem dX11_pairDownwards_63 : decode cX11_pairDownwards 63 = .ok (.lload_n 2, 1) := by decide +kernel
theorem dX11_pairDownwards_64 : decode cX11_pairDownwards 64 = .ok (.iload 4, 2) := by decide +kernel
theorem dX11_pairDownwards_66 : decode cX11_pairDownwards 66 = .ok (.invokestatic 168, 3) := by decide +kernel
theorem dX11_pairDownwards_69 : decode cX11_pairDownwards 69 = .ok (.ifCond .eq 28, 3) := by decide +kernel
theorem dX11_pairDownwards_72 : decode cX11_pairDownwards 72 = .ok (.aload_n 0, 1) := by decide +kernel
theorem dX11_pairDownwards_73 : decode cX11_pairDownwards 73 = .ok (.getfield 35, 3) := by decide +kernel
theorem dX11_pairDownwards_76 : decode cX11_pairDownwards 76 = .ok (.iload 4, 2) := by decide +kernel
theorem dX11_pairDownwards_78 : decode cX11_pairDownwards 78 = .ok (.iload_n 1, 1) := by decide +kernel
theorem dX11_pairDownwards_79 : decode cX11_pairDownwards 79 = .ok (.invokevirtual 175, 3) := by decide +kernel
theorem dX11_pairDownwards_82 : decode cX11_pairDownwards 82 = .ok (.ifCond .eq 15, 3) := by decide +kernel
theorem dX11_pairDownwards_85 : decode cX11_pairDownwards 85 = .ok (.aload_n 0, 1) := by decide +kernel
theorem dX11_pairDownwards_86 : decode cX11_pairDownwards 86 = .ok (.getfield 35, 3) := by decide +kernel
theorem dX11_pairDownwards_89 : decode cX11_pairDownwards 89 = .ok (.iload 4, 2) := by decide +kernel
theorem dX11_pairDownwards_91 : decode cX11_pairDownwards 91 = .ok (.iload_n 1, 1) := by decide +kernel
theorem dX11_pairDownwards_92 : decode cX11_pairDownwards 92 = .ok (.invokevirtual 183, 3) := by decide +kernel
theorem dX11_pairDownwards_95 : decode cX11_pairDownwards 95 = .ok (.lconst 0, 1) := by decide +kernel
theorem dX11_pairDownwards_96 : decode cX11_pairDownwards 96 = .ok (.lstore_n 2, 1) := by decide +kernel
theorem dX11_pairDownwards_97 : decode cX11_pairDownwards 97 = .ok (.iinc 4 (-1), 3) := by decide +kernel
theorem dX11_pairDownwards_100 : decode cX11_pairDownwards 100 = .ok (.goto (-48), 3) := by decide +kernel
theorem dX11_pairDownwards_103 : decode cX11_pairDownwards 103 = .ok (.iinc 1 (-1), 3) := by decide +kernel
theorem dX11_pairDownwards_106 : decode cX11_pairDownwards 106 = .ok (.goto (-96), 3) := by decide +kernel
theorem dX11_pairDownwards_109 : decode cX11_pairDownwards 109 = .ok (.return_, 1) := by decide +kernel
theorem dX11_pairByPeeling_0 : decode cX11_pairByPeeling 0 = .ok (.aload_n 0, 1) := by decide +kernel
theorem dX11_pairByPeeling_1 : decode cX11_pairByPeeling 1 = .ok (.getfield 42, 3) := by decide +kernel
theorem dX11_pairByPeeling_4 : decode cX11_pairByPeeling 4 = .ok (.aload_n 0, 1) := by decide +kernel
theorem dX11_pairByPeeling_5 : decode cX11_pairByPeeling 5 = .ok (.getfield 35, 3) := by decide +kernel
theorem dX11_pairByPeeling_8 : decode cX11_pairByPeeling 8 = .ok (.getfield 147, 3) := by decide +kernel
theorem dX11_pairByPeeling_11 : decode cX11_pairByPeeling 11 = .ok (.invokevirtual 332, 3) := by decide +kernel
theorem dX11_pairByPeeling_14 : decode cX11_pairByPeeling 14 = .ok (.iconst 0, 1) := by decide +kernel
theorem dX11_pairByPeeling_15 : decode cX11_pairByPeeling 15 = .ok (.istore_n 1, 1) := by decide +kernel
theorem dX11_pairByPeeling_16 : decode cX11_pairByPeeling 16 = .ok (.iload_n 1, 1) := by decide +kernel
theorem dX11_pairByPeeling_17 : decode cX11_pairByPeeling 17 = .ok (.bipush 60, 2) := by decide +kernel
theorem dX11_pairByPeeling_19 : decode cX11_pairByPeeling 19 = .ok (.if_icmp .ge 110, 3) := by decide +kernel
theorem dX11_pairByPeeling_22 : decode cX11_pairByPeeling 22 = .ok (.aload_n 0, 1) := by decide +kernel
theorem dX11_pairByPeeling_23 : decode cX11_pairByPeeling 23 = .ok (.getfield 42, 3) := by decide +kernel
theorem dX11_pairByPeeling_26 : decode cX11_pairByPeeling 26 = .ok (.getfield 335, 3) := by decide +kernel
theorem dX11_pairByPeeling_29 : decode cX11_pairByPeeling 29 = .ok (.lconst 0, 1) := by decide +kernel
theorem dX11_pairByPeeling_30 : decode cX11_pairByPeeling 30 = .ok (.lcmp, 1) := by decide +kernel
theorem dX11_pairByPeeling_31 : decode cX11_pairByPeeling 31 = .ok (.ifCond .eq 98, 3) := by decide +kernel
theorem dX11_pairByPeeling_34 : decode cX11_pairByPeeling 34 = .ok (.aload_n 0, 1) := by decide +kernel
theorem dX11_pairByPeeling_35 : decode cX11_pairByPeeling 35 = .ok (.getfield 42, 3) := by decide +kernel
theorem dX11_pairByPeeling_38 : decode cX11_pairByPeeling 38 = .ok (.getfield 338, 3) := by decide +kernel
theorem dX11_pairByPeeling_41 : decode cX11_pairByPeeling 41 = .ok (.lconst 0, 1) := by decide +kernel
theorem dX11_pairByPeeling_42 : decode cX11_pairByPeeling 42 = .ok (.lcmp, 1) := by decide +kernel
theorem dX11_pairByPeeling_43 : decode cX11_pairByPeeling 43 = .ok (.ifCond .eq 51, 3) := by decide +kernel
theorem dX11_pairByPeeling_46 : decode cX11_pairByPeeling 46 = .ok (.aload_n 0, 1) := by decide +kernel
theorem dX11_pairByPeeling_47 : decode cX11_pairByPeeling 47 = .ok (.getfield 42, 3) := by decide +kernel
theorem dX11_pairByPeeling_50 : decode cX11_pairByPeeling 50 = .ok (.getfield 338, 3) := by decide +kernel
theorem dX11_pairByPeeling_53 : decode cX11_pairByPeeling 53 = .ok (.invokestatic 220, 3) := by decide +kernel
theorem dX11_pairByPeeling_56 : decode cX11_pairByPeeling 56 = .ok (.istore_n 2, 1) := by decide +kernel
theorem dX11_pairByPeeling_57 : decode cX11_pairByPeeling 57 = .ok (.aload_n 0, 1) := by decide +kernel
theorem dX11_pairByPeeling_58 : decode cX11_pairByPeeling 58 = .ok (.getfield 42, 3) := by decide +kernel
theorem dX11_pairByPeeling_61 : decode cX11_pairByPeeling 61 = .ok (.iload_n 2, 1) := by decide +kernel
theorem dX11_pairByPeeling_62 : decode cX11_pairByPeeling 62 = .ok (.invokevirtual 341, 3) := by decide +kernel
theorem dX11_pairByPeeling_65 : decode cX11_pairByPeeling 65 = .ok (.istore_n 3, 1) := by decide +kernel
theorem dX11_pairByPeeling_66 : decode cX11_pairByPeeling 66 = .ok (.aload_n 0, 1) := by decide +kernel
theorem dX11_pairByPeeling_67 : decode cX11_pairByPeeling 67 = .ok (.getfield 35, 3) := by decide +kernel
theorem dX11_pairByPeeling_70 : decode cX11_pairByPeeling 70 = .ok (.iload_n 2, 1) := by decide +kernel
theorem dX11_pairByPeeling_71 : decode cX11_pairByPeeling 71 = .ok (.iload_n 3, 1) := by decide +kernel
theorem dX11_pairByPeeling_72 : decode cX11_pairByPeeling 72 = .ok (.invokevirtual 183, 3) := by decide +kernel
theorem dX11_pairByPeeling_75 : decode cX11_pairByPeeling 75 = .ok (.aload_n 0, 1) := by decide +kernel
theorem dX11_pairByPeeling_76 : decode cX11_pairByPeeling 76 = .ok (.getfield 42, 3) := by decide +kernel
theorem dX11_pairByPeeling_79 : decode cX11_pairByPeeling 79 = .ok (.iload_n 3, 1) := by decide +kernel
theorem dX11_pairByPeeling_80 : decode cX11_pairByPeeling 80 = .ok (.invokevirtual 344, 3) := by decide +kernel
theorem dX11_pairByPeeling_83 : decode cX11_pairByPeeling 83 = .ok (.aload_n 0, 1) := by decide +kernel
theorem dX11_pairByPeeling_84 : decode cX11_pairByPeeling 84 = .ok (.getfield 42, 3) := by decide +kernel
theorem dX11_pairByPeeling_87 : decode cX11_pairByPeeling 87 = .ok (.iload_n 2, 1) := by decide +kernel
theorem dX11_pairByPeeling_88 : decode cX11_pairByPeeling 88 = .ok (.invokevirtual 344, 3) := by decide +kernel
theorem dX11_pairByPeeling_91 : decode cX11_pairByPeeling 91 = .ok (.goto 32, 3) := by decide +kernel
theorem dX11_pairByPeeling_94 : decode cX11_pairByPeeling 94 = .ok (.aload_n 0, 1) := by decide +kernel
theorem dX11_pairByPeeling_95 : decode cX11_pairByPeeling 95 = .ok (.getfield 42, 3) := by decide +kernel
theorem dX11_pairByPeeling_98 : decode cX11_pairByPeeling 98 = .ok (.aload_n 0, 1) := by decide +kernel
theorem dX11_pairByPeeling_99 : decode cX11_pairByPeeling 99 = .ok (.getfield 42, 3) := by decide +kernel
theorem dX11_pairByPeeling_102 : decode cX11_pairByPeeling 102 = .ok (.getfield 335, 3) := by decide +kernel
theorem dX11_pairByPeeling_105 : decode cX11_pairByPeeling 105 = .ok (.aload_n 0, 1) := by decide +kernel
theorem dX11_pairByPeeling_106 : decode cX11_pairByPeeling 106 = .ok (.getfield 42, 3) := by decide +kernel
theorem dX11_pairByPeeling_109 : decode cX11_pairByPeeling 109 = .ok (.getfield 335, 3) := by decide +kernel
theorem dX11_pairByPeeling_112 : decode cX11_pairByPeeling 112 = .ok (.invokestatic 151, 3) := by decide +kernel
theorem dX11_pairByPeeling_115 : decode cX11_pairByPeeling 115 = .ok (.iconst 1, 1) := by decide +kernel
theorem dX11_pairByPeeling_116 : decode cX11_pairByPeeling 116 = .ok (.isub, 1) := by decide +kernel
theorem dX11_pairByPeeling_117 : decode cX11_pairByPeeling 117 = .ok (.invokestatic 329, 3) := by decide +kernel
theorem dX11_pairByPeeling_120 : decode cX11_pairByPeeling 120 = .ok (.invokevirtual 344, 3) := by decide +kernel
theorem dX11_pairByPeeling_123 : decode cX11_pairByPeeling 123 = .ok (.iinc 1 1, 3) := by decide +kernel
theorem dX11_pairByPeeling_126 : decode cX11_pairByPeeling 126 = .ok (.goto (-110), 3) := by decide +kernel
theorem dX11_pairByPeeling_129 : decode cX11_pairByPeeling 129 = .ok (.return_, 1) := by decide +kernel
theorem dX11_peelByDraws_0 : decode cX11_peelByDraws 0 = .ok (.iconst 0, 1) := by decide +kernel
theorem dX11_peelByDraws_1 : decode cX11_peelByDraws 1 = .ok (.istore_n 1, 1) := by decide +kernel
theorem dX11_peelByDraws_2 : decode cX11_peelByDraws 2 = .ok (.aload_n 0, 1) := by decide +kernel
theorem dX11_peelByDraws_3 : decode cX11_peelByDraws 3 = .ok (.getfield 42, 3) := by decide +kernel
theorem dX11_peelByDraws_6 : decode cX11_peelByDraws 6 = .ok (.aload_n 0, 1) := by decide +kernel
theorem dX11_peelByDraws_7 : decode cX11_peelByDraws 7 = .ok (.getfield 35, 3) := by decide +kernel
theorem dX11_peelByDraws_10 : decode cX11_peelByDraws 10 = .ok (.getfield 147, 3) := by decide +kernel
theorem dX11_peelByDraws_13 : decode cX11_peelByDraws 13 = .ok (.invokevirtual 332, 3) := by decide +kernel
theorem dX11_peelByDraws_16 : decode cX11_peelByDraws 16 = .ok (.iconst 0, 1) := by decide +kernel
theorem dX11_peelByDraws_17 : decode cX11_peelByDraws 17 = .ok (.istore_n 2, 1) := by decide +kernel
theorem dX11_peelByDraws_18 : decode cX11_peelByDraws 18 = .ok (.iload_n 2, 1) := by decide +kernel
theorem dX11_peelByDraws_19 : decode cX11_peelByDraws 19 = .ok (.bipush 60, 2) := by decide +kernel
theorem dX11_peelByDraws_21 : decode cX11_peelByDraws 21 = .ok (.if_icmp .ge 92, 3) := by decide +kernel
theorem dX11_peelByDraws_24 : decode cX11_peelByDraws 24 = .ok (.aload_n 0, 1) := by decide +kernel
theorem dX11_peelByDraws_25 : decode cX11_peelByDraws 25 = .ok (.getfield 42, 3) := by decide +kernel
theorem dX11_peelByDraws_28 : decode cX11_peelByDraws 28 = .ok (.getfield 335, 3) := by decide +kernel
theorem dX11_peelByDraws_31 : decode cX11_peelByDraws 31 = .ok (.lconst 0, 1) := by decide +kernel
theorem dX11_peelByDraws_32 : decode cX11_peelByDraws 32 = .ok (.lcmp, 1) := by decide +kernel
theorem dX11_peelByDraws_33 : decode cX11_peelByDraws 33 = .ok (.ifCond .eq 80, 3) := by decide +kernel
theorem dX11_peelByDraws_36 : decode cX11_peelByDraws 36 = .ok (.aload_n 0, 1) := by decide +kernel
theorem dX11_peelByDraws_37 : decode cX11_peelByDraws 37 = .ok (.getfield 42, 3) := by decide +kernel
theorem dX11_peelByDraws_40 : decode cX11_peelByDraws 40 = .ok (.getfield 338, 3) := by decide +kernel
theorem dX11_peelByDraws_43 : decode cX11_peelByDraws 43 = .ok (.lconst 0, 1) := by decide +kernel
theorem dX11_peelByDraws_44 : decode cX11_peelByDraws 44 = .ok (.lcmp, 1) := by decide +kernel
theorem dX11_peelByDraws_45 : decode cX11_peelByDraws 45 = .ok (.ifCond .eq 41, 3) := by decide +kernel
theorem dX11_peelByDraws_48 : decode cX11_peelByDraws 48 = .ok (.aload_n 0, 1) := by decide +kernel
theorem dX11_peelByDraws_49 : decode cX11_peelByDraws 49 = .ok (.aload_n 0, 1) := by decide +kernel
theorem dX11_peelByDraws_50 : decode cX11_peelByDraws 50 = .ok (.getfield 42, 3) := by decide +kernel
theorem dX11_peelByDraws_53 : decode cX11_peelByDraws 53 = .ok (.getfield 338, 3) := by decide +kernel
theorem dX11_peelByDraws_56 : decode cX11_peelByDraws 56 = .ok (.invokevirtual 347, 3) := by decide +kernel
theorem dX11_peelByDraws_59 : decode cX11_peelByDraws 59 = .ok (.istore_n 3, 1) := by decide +kernel
theorem dX11_peelByDraws_60 : decode cX11_peelByDraws 60 = .ok (.aload_n 0, 1) := by decide +kernel
theorem dX11_peelByDraws_61 : decode cX11_peelByDraws 61 = .ok (.getfield 42, 3) := by decide +kernel
theorem dX11_peelByDraws_64 : decode cX11_peelByDraws 64 = .ok (.aload_n 0, 1) := by decide +kernel
theorem dX11_peelByDraws_65 : decode cX11_peelByDraws 65 = .ok (.getfield 42, 3) := by decide +kernel
theorem dX11_peelByDraws_68 : decode cX11_peelByDraws 68 = .ok (.iload_n 3, 1) := by decide +kernel
theorem dX11_peelByDraws_69 : decode cX11_peelByDraws 69 = .ok (.invokevirtual 341, 3) := by decide +kernel
theorem dX11_peelByDraws_72 : decode cX11_peelByDraws 72 = .ok (.invokevirtual 344, 3) := by decide +kernel
theorem dX11_peelByDraws_75 : decode cX11_peelByDraws 75 = .ok (.aload_n 0, 1) := by decide +kernel
theorem dX11_peelByDraws_76 : decode cX11_peelByDraws 76 = .ok (.getfield 42, 3) := by decide +kernel
theorem dX11_peelByDraws_79 : decode cX11_peelByDraws 79 = .ok (.iload_n 3, 1) := by decide +kernel
theorem dX11_peelByDraws_80 : decode cX11_peelByDraws 80 = .ok (.invokevirtual 344, 3) := by decide +kernel
theorem dX11_peelByDraws_83 : decode cX11_peelByDraws 83 = .ok (.goto 24, 3) := by decide +kernel
theorem dX11_peelByDraws_86 : decode cX11_peelByDraws 86 = .ok (.aload_n 0, 1) := by decide +kernel
theorem dX11_peelByDraws_87 : decode cX11_peelByDraws 87 = .ok (.getfield 42, 3) := by decide +kernel
theorem dX11_peelByDraws_90 : decode cX11_peelByDraws 90 = .ok (.aload_n 0, 1) := by decide +kernel
theorem dX11_peelByDraws_91 : decode cX11_peelByDraws 91 = .ok (.aload_n 0, 1) := by decide +kernel
theorem dX11_peelByDraws_92 : decode cX11_peelByDraws 92 = .ok (.getfield 42, 3) := by decide +kernel
theorem dX11_peelByDraws_95 : decode cX11_peelByDraws 95 = .ok (.invokevirtual 350, 3) := by decide +kernel
theorem dX11_peelByDraws_98 : decode cX11_peelByDraws 98 = .ok (.invokevirtual 347, 3) := by decide +kernel
theorem dX11_peelByDraws_101 : decode cX11_peelByDraws 101 = .ok (.invokevirtual 344, 3) := by decide +kernel
theorem dX11_peelByDraws_104 : decode cX11_peelByDraws 104 = .ok (.iinc 1 1, 3) := by decide +kernel
theorem dX11_peelByDraws_107 : decode cX11_peelByDraws 107 = .ok (.iinc 2 1, 3) := by decide +kernel
theorem dX11_peelByDraws_110 : decode cX11_peelByDraws 110 = .ok (.goto (-92), 3) := by decide +kernel
theorem dX11_peelByDraws_113 : decode cX11_peelByDraws 113 = .ok (.iload_n 1, 1) := by decide +kernel
theorem dX11_peelByDraws_114 : decode cX11_peelByDraws 114 = .ok (.ireturn, 1) := by decide +kernel
theorem dX11_drawFrom_0 : decode cX11_drawFrom 0 = .ok (.lload_n 1, 1) := by decide +kernel
theorem dX11_drawFrom_1 : decode cX11_drawFrom 1 = .ok (.invokestatic 151, 3) := by decide +kernel
theorem dX11_drawFrom_4 : decode cX11_drawFrom 4 = .ok (.istore_n 3, 1) := by decide +kernel
theorem dX11_drawFrom_5 : decode cX11_drawFrom 5 = .ok (.aload_n 0, 1) := by decide +kernel
theorem dX11_drawFrom_6 : decode cX11_drawFrom 6 = .ok (.aload_n 0, 1) := by decide +kernel
theorem dX11_drawFrom_7 : decode cX11_drawFrom 7 = .ok (.getfield 291, 3) := by decide +kernel
theorem dX11_drawFrom_10 : decode cX11_drawFrom 10 = .ok (.i2l, 1) := by decide +kernel
theorem dX11_drawFrom_11 : decode cX11_drawFrom 11 = .ok (.ldc2_w 353, 3) := by decide +kernel
theorem dX11_drawFrom_14 : decode cX11_drawFrom 14 = .ok (.lmul, 1) := by decide +kernel
theorem dX11_drawFrom_15 : decode cX11_drawFrom 15 = .ok (.ldc2_w 355, 3) := by decide +kernel
theorem dX11_drawFrom_18 : decode cX11_drawFrom 18 = .ok (.ladd, 1) := by decide +kernel
theorem dX11_drawFrom_19 : decode cX11_drawFrom 19 = .ok (.ldc2_w 357, 3) := by decide +kernel
theorem dX11_drawFrom_22 : decode cX11_drawFrom 22 = .ok (.lrem, 1) := by decide +kernel
theorem dX11_drawFrom_23 : decode cX11_drawFrom 23 = .ok (.l2i, 1) := by decide +kernel
theorem dX11_drawFrom_24 : decode cX11_drawFrom 24 = .ok (.putfield 291, 3) := by decide +kernel
theorem dX11_drawFrom_27 : decode cX11_drawFrom 27 = .ok (.iload_n 3, 1) := by decide +kernel
theorem dX11_drawFrom_28 : decode cX11_drawFrom 28 = .ok (.ifCond .le 20, 3) := by decide +kernel
theorem dX11_drawFrom_31 : decode cX11_drawFrom 31 = .ok (.lload_n 1, 1) := by decide +kernel
theorem dX11_drawFrom_32 : decode cX11_drawFrom 32 = .ok (.aload_n 0, 1) := by decide +kernel
theorem dX11_drawFrom_33 : decode cX11_drawFrom 33 = .ok (.getfield 291, 3) := by decide +kernel
theorem dX11_drawFrom_36 : decode cX11_drawFrom 36 = .ok (.ldc_w 359, 3) := by decide +kernel
theorem dX11_drawFrom_39 : decode cX11_drawFrom 39 = .ok (.idiv, 1) := by decide +kernel
theorem dX11_drawFrom_40 : decode cX11_drawFrom 40 = .ok (.iload_n 3, 1) := by decide +kernel
theorem dX11_drawFrom_41 : decode cX11_drawFrom 41 = .ok (.irem, 1) := by decide +kernel
theorem dX11_drawFrom_42 : decode cX11_drawFrom 42 = .ok (.invokestatic 329, 3) := by decide +kernel
theorem dX11_drawFrom_45 : decode cX11_drawFrom 45 = .ok (.goto 4, 3) := by decide +kernel
theorem dX11_drawFrom_48 : decode cX11_drawFrom 48 = .ok (.iconst 0, 1) := by decide +kernel
theorem dX11_drawFrom_49 : decode cX11_drawFrom 49 = .ok (.ireturn, 1) := by decide +kernel
theorem dX11_squaresFrom_0 : decode cX11_squaresFrom 0 = .ok (.aload_n 0, 1) := by decide +kernel
theorem dX11_squaresFrom_1 : decode cX11_squaresFrom 1 = .ok (.getfield 26, 3) := by decide +kernel
theorem dX11_squaresFrom_4 : decode cX11_squaresFrom 4 = .ok (.getfield 127, 3) := by decide +kernel
theorem dX11_squaresFrom_7 : decode cX11_squaresFrom 7 = .ok (.iload_n 1, 1) := by decide +kernel
theorem dX11_squaresFrom_8 : decode cX11_squaresFrom 8 = .ok (.iaload, 1) := by decide +kernel
theorem dX11_squaresFrom_9 : decode cX11_squaresFrom 9 = .ok (.istore_n 2, 1) := by decide +kernel
theorem dX11_squaresFrom_10 : decode cX11_squaresFrom 10 = .ok (.iload_n 2, 1) := by decide +kernel
theorem dX11_squaresFrom_11 : decode cX11_squaresFrom 11 = .ok (.iconst 2, 1) := by decide +kernel
theorem dX11_squaresFrom_12 : decode cX11_squaresFrom 12 = .ok (.if_icmp .ge 5, 3) := by decide +kernel
theorem dX11_squaresFrom_15 : decode cX11_squaresFrom 15 = .ok (.iconst 0, 1) := by decide +kernel
theorem dX11_squaresFrom_16 : decode cX11_squaresFrom 16 = .ok (.ireturn, 1) := by decide +kernel
theorem dX11_squaresFrom_17 : decode cX11_squaresFrom 17 = .ok (.aload_n 0, 1) := by decide +kernel
theorem dX11_squaresFrom_18 : decode cX11_squaresFrom 18 = .ok (.getfield 35, 3) := by decide +kernel
theorem dX11_squaresFrom_21 : decode cX11_squaresFrom 21 = .ok (.invokevirtual 232, 3) := by decide +kernel
theorem dX11_squaresFrom_24 : decode cX11_squaresFrom 24 = .ok (.aload_n 0, 1) := by decide +kernel
theorem dX11_squaresFrom_25 : decode cX11_squaresFrom 25 = .ok (.getfield 26, 3) := by decide +kernel
theorem dX11_squaresFrom_28 : decode cX11_squaresFrom 28 = .ok (.getfield 235, 3) := by decide +kernel
theorem dX11_squaresFrom_31 : decode cX11_squaresFrom 31 = .ok (.iload_n 2, 1) := by decide +kernel
theorem dX11_squaresFrom_32 : decode cX11_squaresFrom 32 = .ok (.iconst 1, 1) := by decide +kernel
theorem dX11_squaresFrom_33 : decode cX11_squaresFrom 33 = .ok (.isub, 1) := by decide +kernel
theorem dX11_squaresFrom_34 : decode cX11_squaresFrom 34 = .ok (.laload, 1) := by decide +kernel
theorem dX11_squaresFrom_35 : decode cX11_squaresFrom 35 = .ok (.land, 1) := by decide +kernel
theorem dX11_squaresFrom_36 : decode cX11_squaresFrom 36 = .ok (.lstore_n 3, 1) := by decide +kernel
theorem dX11_squaresFrom_37 : decode cX11_squaresFrom 37 = .ok (.aload_n 0, 1) := by decide +kernel
theorem dX11_squaresFrom_38 : decode cX11_squaresFrom 38 = .ok (.getfield 35, 3) := by decide +kernel
theorem dX11_squaresFrom_41 : decode cX11_squaresFrom 41 = .ok (.invokevirtual 232, 3) := by decide +kernel
theorem dX11_squaresFrom_44 : decode cX11_squaresFrom 44 = .ok (.aload_n 0, 1) := by decide +kernel
theorem dX11_squaresFrom_45 : decode cX11_squaresFrom 45 = .ok (.getfield 26, 3) := by decide +kernel
theorem dX11_squaresFrom_48 : decode cX11_squaresFrom 48 = .ok (.getfield 235, 3) := by decide +kernel
theorem dX11_squaresFrom_51 : decode cX11_squaresFrom 51 = .ok (.iload_n 2, 1) := by decide +kernel
theorem dX11_squaresFrom_52 : decode cX11_squaresFrom 52 = .ok (.iconst 2, 1) := by decide +kernel
theorem dX11_squaresFrom_53 : decode cX11_squaresFrom 53 = .ok (.isub, 1) := by decide +kernel
theorem dX11_squaresFrom_54 : decode cX11_squaresFrom 54 = .ok (.laload, 1) := by decide +kernel
theorem dX11_squaresFrom_55 : decode cX11_squaresFrom 55 = .ok (.land, 1) := by decide +kernel
theorem dX11_squaresFrom_56 : decode cX11_squaresFrom 56 = .ok (.lstore 5, 2) := by decide +kernel
theorem dX11_squaresFrom_58 : decode cX11_squaresFrom 58 = .ok (.aload_n 0, 1) := by decide +kernel
theorem dX11_squaresFrom_59 : decode cX11_squaresFrom 59 = .ok (.getfield 60, 3) := by decide +kernel
theorem dX11_squaresFrom_62 : decode cX11_squaresFrom 62 = .ok (.iload_n 1, 1) := by decide +kernel
theorem dX11_squaresFrom_63 : decode cX11_squaresFrom 63 = .ok (.invokevirtual 246, 3) := by decide +kernel
theorem dX11_squaresFrom_66 : decode cX11_squaresFrom 66 = .ok (.aload_n 0, 1) := by decide +kernel
theorem dX11_squaresFrom_67 : decode cX11_squaresFrom 67 = .ok (.getfield 60, 3) := by decide +kernel
theorem dX11_squaresFrom_70 : decode cX11_squaresFrom 70 = .ok (.iload_n 2, 1) := by decide +kernel
theorem dX11_squaresFrom_71 : decode cX11_squaresFrom 71 = .ok (.iconst 1, 1) := by decide +kernel
theorem dX11_squaresFrom_72 : decode cX11_squaresFrom 72 = .ok (.invokevirtual 249, 3) := by decide +kernel
theorem dX11_squaresFrom_75 : decode cX11_squaresFrom 75 = .ok (.aload_n 0, 1) := by decide +kernel
theorem dX11_squaresFrom_76 : decode cX11_squaresFrom 76 = .ok (.getfield 60, 3) := by decide +kernel
theorem dX11_squaresFrom_79 : decode cX11_squaresFrom 79 = .ok (.lload_n 3, 1) := by decide +kernel
theorem dX11_squaresFrom_80 : decode cX11_squaresFrom 80 = .ok (.invokevirtual 360, 3) := by decide +kernel
theorem dX11_squaresFrom_83 : decode cX11_squaresFrom 83 = .ok (.aload_n 0, 1) := by decide +kernel
theorem dX11_squaresFrom_84 : decode cX11_squaresFrom 84 = .ok (.getfield 60, 3) := by decide +kernel
theorem dX11_squaresFrom_87 : decode cX11_squaresFrom 87 = .ok (.iload_n 2, 1) := by decide +kernel
theorem dX11_squaresFrom_88 : decode cX11_squaresFrom 88 = .ok (.iconst 1, 1) := by decide +kernel
theorem dX11_squaresFrom_89 : decode cX11_squaresFrom 89 = .ok (.isub, 1) := by decide +kernel
theorem dX11_squaresFrom_90 : decode cX11_squaresFrom 90 = .ok (.iconst 1, 1) := by decide +kernel
theorem dX11_squaresFrom_91 : decode cX11_squaresFrom 91 = .ok (.invokevirtual 249, 3) := by decide +kernel
theorem dX11_squaresFrom_94 : decode cX11_squaresFrom 94 = .ok (.iconst 0, 1) := by decide +kernel
theorem dX11_squaresFrom_95 : decode cX11_squaresFrom 95 = .ok (.istore 7, 2) := by decide +kernel
theorem dX11_squaresFrom_97 : decode cX11_squaresFrom 97 = .ok (.iconst 0, 1) := by decide +kernel
theorem dX11_squaresFrom_98 : decode cX11_squaresFrom 98 = .ok (.istore 8, 2) := by decide +kernel
theorem dX11_squaresFrom_100 : decode cX11_squaresFrom 100 = .ok (.iload 8, 2) := by decide +kernel
theorem dX11_squaresFrom_102 : decode cX11_squaresFrom 102 = .ok (.aload_n 0, 1) := by decide +kernel
theorem dX11_squaresFrom_103 : decode cX11_squaresFrom 103 = .ok (.getfield 26, 3) := by decide +kernel
theorem dX11_squaresFrom_106 : decode cX11_squaresFrom 106 = .ok (.getfield 119, 3) := by decide +kernel
theorem dX11_squaresFrom_109 : decode cX11_squaresFrom 109 = .ok (.if_icmp .ge 37, 3) := by decide +kernel
theorem dX11_squaresFrom_112 : decode cX11_squaresFrom 112 = .ok (.lload 5, 2) := by decide +kernel
theorem dX11_squaresFrom_114 : decode cX11_squaresFrom 114 = .ok (.iload 8, 2) := by decide +kernel
theorem dX11_squaresFrom_116 : decode cX11_squaresFrom 116 = .ok (.invokestatic 168, 3) := by decide +kernel
theorem dX11_squaresFrom_119 : decode cX11_squaresFrom 119 = .ok (.ifCond .eq 21, 3) := by decide +kernel
theorem dX11_squaresFrom_122 : decode cX11_squaresFrom 122 = .ok (.aload_n 0, 1) := by decide +kernel
theorem dX11_squaresFrom_123 : decode cX11_squaresFrom 123 = .ok (.getfield 60, 3) := by decide +kernel
theorem dX11_squaresFrom_126 : decode cX11_squaresFrom 126 = .ok (.getfield 253, 3) := by decide +kernel
theorem dX11_squaresFrom_129 : decode cX11_squaresFrom 129 = .ok (.iload 8, 2) := by decide +kernel
theorem dX11_squaresFrom_131 : decode cX11_squaresFrom 131 = .ok (.laload, 1) := by decide +kernel
theorem dX11_squaresFrom_132 : decode cX11_squaresFrom 132 = .ok (.lconst 0, 1) := by decide +kernel
theorem dX11_squaresFrom_133 : decode cX11_squaresFrom 133 = .ok (.lcmp, 1) := by decide +kernel
theorem dX11_squaresFrom_134 : decode cX11_squaresFrom 134 = .ok (.ifCond .eq 6, 3) := by decide +kernel
theorem dX11_squaresFrom_137 : decode cX11_squaresFrom 137 = .ok (.iinc 7 1, 3) := by decide +kernel
theorem dX11_squaresFrom_140 : decode cX11_squaresFrom 140 = .ok (.iinc 8 1, 3) := by decide +kernel
theorem dX11_squaresFrom_143 : decode cX11_squaresFrom 143 = .ok (.goto (-43), 3) := by decide +kernel
theorem dX11_squaresFrom_146 : decode cX11_squaresFrom 146 = .ok (.iload 7, 2) := by decide +kernel
theorem dX11_squaresFrom_148 : decode cX11_squaresFrom 148 = .ok (.ireturn, 1) := by decide +kernel
theorem dX11_linkOf_0 : decode cX11_linkOf 0 = .ok (.lconst 0, 1) := by decide +kernel
theorem dX11_linkOf_1 : decode cX11_linkOf 1 = .ok (.lstore_n 2, 1) := by decide +kernel
theorem dX11_linkOf_2 : decode cX11_linkOf 2 = .ok (.iconst 0, 1) := by decide +kernel
theorem dX11_linkOf_3 : decode cX11_linkOf 3 = .ok (.istore 4, 2) := by decide +kernel
theorem dX11_linkOf_5 : decode cX11_linkOf 5 = .ok (.iload 4, 2) := by decide +kernel
theorem dX11_linkOf_7 : decode cX11_linkOf 7 = .ok (.aload_n 0, 1) := by decide +kernel
theorem dX11_linkOf_8 : decode cX11_linkOf 8 = .ok (.getfield 26, 3) := by decide +kernel
theorem dX11_linkOf_11 : decode cX11_linkOf 11 = .ok (.getfield 119, 3) := by decide +kernel
theorem dX11_linkOf_14 : decode cX11_linkOf 14 = .ok (.if_icmp .ge 100, 3) := by decide +kernel
theorem dX11_linkOf_17 : decode cX11_linkOf 17 = .ok (.aload_n 0, 1) := by decide +kernel
theorem dX11_linkOf_18 : decode cX11_linkOf 18 = .ok (.getfield 26, 3) := by decide +kernel
theorem dX11_linkOf_21 : decode cX11_linkOf 21 = .ok (.getfield 124, 3) := by decide +kernel
theorem dX11_linkOf_24 : decode cX11_linkOf 24 = .ok (.iload_n 1, 1) := by decide +kernel
theorem dX11_linkOf_25 : decode cX11_linkOf 25 = .ok (.iaload, 1) := by decide +kernel
theorem dX11_linkOf_26 : decode cX11_linkOf 26 = .ok (.aload_n 0, 1) := by decide +kernel
theorem dX11_linkOf_27 : decode cX11_linkOf 27 = .ok (.getfield 26, 3) := by decide +kernel
theorem dX11_linkOf_30 : decode cX11_linkOf 30 = .ok (.getfield 124, 3) := by decide +kernel
theorem dX11_linkOf_33 : decode cX11_linkOf 33 = .ok (.iload 4, 2) := by decide +kernel
theorem dX11_linkOf_35 : decode cX11_linkOf 35 = .ok (.iaload, 1) := by decide +kernel
theorem dX11_linkOf_36 : decode cX11_linkOf 36 = .ok (.ior, 1) := by decide +kernel
theorem dX11_linkOf_37 : decode cX11_linkOf 37 = .ok (.istore 5, 2) := by decide +kernel
theorem dX11_linkOf_39 : decode cX11_linkOf 39 = .ok (.aload_n 0, 1) := by decide +kernel
theorem dX11_linkOf_40 : decode cX11_linkOf 40 = .ok (.getfield 26, 3) := by decide +kernel
theorem dX11_linkOf_43 : decode cX11_linkOf 43 = .ok (.getfield 124, 3) := by decide +kernel
theorem dX11_linkOf_46 : decode cX11_linkOf 46 = .ok (.iload_n 1, 1) := by decide +kernel
theorem dX11_linkOf_47 : decode cX11_linkOf 47 = .ok (.iaload, 1) := by decide +kernel
theorem dX11_linkOf_48 : decode cX11_linkOf 48 = .ok (.aload_n 0, 1) := by decide +kernel
theorem dX11_linkOf_49 : decode cX11_linkOf 49 = .ok (.getfield 26, 3) := by decide +kernel
theorem dX11_linkOf_52 : decode cX11_linkOf 52 = .ok (.getfield 124, 3) := by decide +kernel
theorem dX11_linkOf_55 : decode cX11_linkOf 55 = .ok (.iload 4, 2) := by decide +kernel
theorem dX11_linkOf_57 : decode cX11_linkOf 57 = .ok (.iaload, 1) := by decide +kernel
theorem dX11_linkOf_58 : decode cX11_linkOf 58 = .ok (.iand, 1) := by decide +kernel
theorem dX11_linkOf_59 : decode cX11_linkOf 59 = .ok (.ifCond .ne 7, 3) := by decide +kernel
theorem dX11_linkOf_62 : decode cX11_linkOf 62 = .ok (.iconst 1, 1) := by decide +kernel
theorem dX11_linkOf_63 : decode cX11_linkOf 63 = .ok (.goto 4, 3) := by decide +kernel
theorem dX11_linkOf_66 : decode cX11_linkOf 66 = .ok (.iconst 0, 1) := by decide +kernel
theorem dX11_linkOf_67 : decode cX11_linkOf 67 = .ok (.istore 6, 2) := by decide +kernel
theorem dX11_linkOf_69 : decode cX11_linkOf 69 = .ok (.aload_n 0, 1) := by decide +kernel
theorem dX11_linkOf_70 : decode cX11_linkOf 70 = .ok (.iload 5, 2) := by decide +kernel
theorem dX11_linkOf_72 : decode cX11_linkOf 72 = .ok (.invokevirtual 363, 3) := by decide +kernel
theorem dX11_linkOf_75 : decode cX11_linkOf 75 = .ok (.istore 7, 2) := by decide +kernel
theorem dX11_linkOf_77 : decode cX11_linkOf 77 = .ok (.iload 6, 2) := by decide +kernel
theorem dX11_linkOf_79 : decode cX11_linkOf 79 = .ok (.ifCond .eq 29, 3) := by decide +kernel
theorem dX11_linkOf_82 : decode cX11_linkOf 82 = .ok (.aload_n 0, 1) := by decide +kernel
theorem dX11_linkOf_83 : decode cX11_linkOf 83 = .ok (.iload 4, 2) := by decide +kernel
theorem dX11_linkOf_85 : decode cX11_linkOf 85 = .ok (.invokevirtual 130, 3) := by decide +kernel
theorem dX11_linkOf_88 : decode cX11_linkOf 88 = .ok (.ifCond .eq 20, 3) := by decide +kernel
theorem dX11_linkOf_91 : decode cX11_linkOf 91 = .ok (.aload_n 0, 1) := by decide +kernel
theorem dX11_linkOf_92 : decode cX11_linkOf 92 = .ok (.iload 7, 2) := by decide +kernel
theorem dX11_linkOf_94 : decode cX11_linkOf 94 = .ok (.invokevirtual 130, 3) := by decide +kernel
theorem dX11_linkOf_97 : decode cX11_linkOf 97 = .ok (.ifCond .eq 11, 3) := by decide +kernel
theorem dX11_linkOf_100 : decode cX11_linkOf 100 = .ok (.lload_n 2, 1) := by decide +kernel
theorem dX11_linkOf_101 : decode cX11_linkOf 101 = .ok (.iload 4, 2) := by decide +kernel
theorem dX11_linkOf_103 : decode cX11_linkOf 103 = .ok (.invokestatic 256, 3) := by decide +kernel
theorem dX11_linkOf_106 : decode cX11_linkOf 106 = .ok (.lor, 1) := by decide +kernel
theorem dX11_linkOf_107 : decode cX11_linkOf 107 = .ok (.lstore_n 2, 1) := by decide +kernel
theorem dX11_linkOf_108 : decode cX11_linkOf 108 = .ok (.iinc 4 1, 3) := by decide +kernel
theorem dX11_linkOf_111 : decode cX11_linkOf 111 = .ok (.goto (-106), 3) := by decide +kernel
theorem dX11_linkOf_114 : decode cX11_linkOf 114 = .ok (.lload_n 2, 1) := by decide +kernel
theorem dX11_linkOf_115 : decode cX11_linkOf 115 = .ok (.lreturn, 1) := by decide +kernel
theorem dX11_roomAbove_0 : decode cX11_roomAbove 0 = .ok (.iconst 0, 1) := by decide +kernel
theorem dX11_roomAbove_1 : decode cX11_roomAbove 1 = .ok (.istore 4, 2) := by decide +kernel
theorem dX11_roomAbove_3 : decode cX11_roomAbove 3 = .ok (.iload_n 1, 1) := by decide +kernel
theorem dX11_roomAbove_4 : decode cX11_roomAbove 4 = .ok (.iconst 1, 1) := by decide +kernel
theorem dX11_roomAbove_5 : decode cX11_roomAbove 5 = .ok (.iadd, 1) := by decide +kernel
theorem dX11_roomAbove_6 : decode cX11_roomAbove 6 = .ok (.istore 5, 2) := by decide +kernel
theorem dX11_roomAbove_8 : decode cX11_roomAbove 8 = .ok (.iload 5, 2) := by decide +kernel
theorem dX11_roomAbove_10 : decode cX11_roomAbove 10 = .ok (.aload_n 0, 1) := by decide +kernel
theorem dX11_roomAbove_11 : decode cX11_roomAbove 11 = .ok (.getfield 26, 3) := by decide +kernel
theorem dX11_roomAbove_14 : decode cX11_roomAbove 14 = .ok (.getfield 119, 3) := by decide +kernel
theorem dX11_roomAbove_17 : decode cX11_roomAbove 17 = .ok (.if_icmp .ge 34, 3) := by decide +kernel
theorem dX11_roomAbove_20 : decode cX11_roomAbove 20 = .ok (.lload_n 2, 1) := by decide +kernel
theorem dX11_roomAbove_21 : decode cX11_roomAbove 21 = .ok (.iload 5, 2) := by decide +kernel
theorem dX11_roomAbove_23 : decode cX11_roomAbove 23 = .ok (.invokestatic 168, 3) := by decide +kernel
theorem dX11_roomAbove_26 : decode cX11_roomAbove 26 = .ok (.ifCond .eq 19, 3) := by decide +kernel
theorem dX11_roomAbove_29 : decode cX11_roomAbove 29 = .ok (.aload_n 0, 1) := by decide +kernel
theorem dX11_roomAbove_30 : decode cX11_roomAbove 30 = .ok (.getfield 35, 3) := by decide +kernel
theorem dX11_roomAbove_33 : decode cX11_roomAbove 33 = .ok (.iload_n 1, 1) := by decide +kernel
theorem dX11_roomAbove_34 : decode cX11_roomAbove 34 = .ok (.iload 5, 2) := by decide +kernel
theorem dX11_roomAbove_36 : decode cX11_roomAbove 36 = .ok (.invokevirtual 175, 3) := by decide +kernel
theorem dX11_roomAbove_39 : decode cX11_roomAbove 39 = .ok (.ifCond .eq 6, 3) := by decide +kernel
theorem dX11_roomAbove_42 : decode cX11_roomAbove 42 = .ok (.iinc 4 1, 3) := by decide +kernel
theorem dX11_roomAbove_45 : decode cX11_roomAbove 45 = .ok (.iinc 5 1, 3) := by decide +kernel
theorem dX11_roomAbove_48 : decode cX11_roomAbove 48 = .ok (.goto (-40), 3) := by decide +kernel
theorem dX11_roomAbove_51 : decode cX11_roomAbove 51 = .ok (.iload 4, 2) := by decide +kernel
theorem dX11_roomAbove_53 : decode cX11_roomAbove 53 = .ok (.ireturn, 1) := by decide +kernel
theorem dJ6_bitCount_0f7a4_0 : decode cJ6_bitCount_0f7a4 0 = .ok (.iload_n 0, 1) := by decide +kernel
theorem dJ6_bitCount_0f7a4_1 : decode cJ6_bitCount_0f7a4 1 = .ok (.iload_n 0, 1) := by decide +kernel
theorem dJ6_bitCount_0f7a4_2 : decode cJ6_bitCount_0f7a4 2 = .ok (.iconst 1, 1) := by decide +kernel
theorem dJ6_bitCount_0f7a4_3 : decode cJ6_bitCount_0f7a4 3 = .ok (.iushr, 1) := by decide +kernel
theorem dJ6_bitCount_0f7a4_4 : decode cJ6_bitCount_0f7a4 4 = .ok (.ldc_w 265, 3) := by decide +kernel
theorem dJ6_bitCount_0f7a4_7 : decode cJ6_bitCount_0f7a4 7 = .ok (.iand, 1) := by decide +kernel
theorem dJ6_bitCount_0f7a4_8 : decode cJ6_bitCount_0f7a4 8 = .ok (.isub, 1) := by decide +kernel
theorem dJ6_bitCount_0f7a4_9 : decode cJ6_bitCount_0f7a4 9 = .ok (.istore_n 0, 1) := by decide +kernel
theorem dJ6_bitCount_0f7a4_10 : decode cJ6_bitCount_0f7a4 10 = .ok (.iload_n 0, 1) := by decide +kernel
theorem dJ6_bitCount_0f7a4_11 : decode cJ6_bitCount_0f7a4 11 = .ok (.ldc_w 266, 3) := by decide +kernel
theorem dJ6_bitCount_0f7a4_14 : decode cJ6_bitCount_0f7a4 14 = .ok (.iand, 1) := by decide +kernel
theorem dJ6_bitCount_0f7a4_15 : decode cJ6_bitCount_0f7a4 15 = .ok (.iload_n 0, 1) := by decide +kernel
theorem dJ6_bitCount_0f7a4_16 : decode cJ6_bitCount_0f7a4 16 = .ok (.iconst 2, 1) := by decide +kernel
theorem dJ6_bitCount_0f7a4_17 : decode cJ6_bitCount_0f7a4 17 = .ok (.iushr, 1) := by decide +kernel
theorem dJ6_bitCount_0f7a4_18 : decode cJ6_bitCount_0f7a4 18 = .ok (.ldc_w 266, 3) := by decide +kernel
theorem dJ6_bitCount_0f7a4_21 : decode cJ6_bitCount_0f7a4 21 = .ok (.iand, 1) := by decide +kernel
theorem dJ6_bitCount_0f7a4_22 : decode cJ6_bitCount_0f7a4 22 = .ok (.iadd, 1) := by decide +kernel
theorem dJ6_bitCount_0f7a4_23 : decode cJ6_bitCount_0f7a4 23 = .ok (.istore_n 0, 1) := by decide +kernel
theorem dJ6_bitCount_0f7a4_24 : decode cJ6_bitCount_0f7a4 24 = .ok (.iload_n 0, 1) := by decide +kernel
theorem dJ6_bitCount_0f7a4_25 : decode cJ6_bitCount_0f7a4 25 = .ok (.iload_n 0, 1) := by decide +kernel
theorem dJ6_bitCount_0f7a4_26 : decode cJ6_bitCount_0f7a4 26 = .ok (.iconst 4, 1) := by decide +kernel
theorem dJ6_bitCount_0f7a4_27 : decode cJ6_bitCount_0f7a4 27 = .ok (.iushr, 1) := by decide +kernel
theorem dJ6_bitCount_0f7a4_28 : decode cJ6_bitCount_0f7a4 28 = .ok (.iadd, 1) := by decide +kernel
theorem dJ6_bitCount_0f7a4_29 : decode cJ6_bitCount_0f7a4 29 = .ok (.ldc_w 267, 3) := by decide +kernel
theorem dJ6_bitCount_0f7a4_32 : decode cJ6_bitCount_0f7a4 32 = .ok (.iand, 1) := by decide +kernel
theorem dJ6_bitCount_0f7a4_33 : decode cJ6_bitCount_0f7a4 33 = .ok (.istore_n 0, 1) := by decide +kernel
theorem dJ6_bitCount_0f7a4_34 : decode cJ6_bitCount_0f7a4 34 = .ok (.iload_n 0, 1) := by decide +kernel
theorem dJ6_bitCount_0f7a4_35 : decode cJ6_bitCount_0f7a4 35 = .ok (.iload_n 0, 1) := by decide +kernel
theorem dJ6_bitCount_0f7a4_36 : decode cJ6_bitCount_0f7a4 36 = .ok (.bipush 8, 2) := by decide +kernel
theorem dJ6_bitCount_0f7a4_38 : decode cJ6_bitCount_0f7a4 38 = .ok (.iushr, 1) := by decide +kernel
theorem dJ6_bitCount_0f7a4_39 : decode cJ6_bitCount_0f7a4 39 = .ok (.iadd, 1) := by decide +kernel
theorem dJ6_bitCount_0f7a4_40 : decode cJ6_bitCount_0f7a4 40 = .ok (.istore_n 0, 1) := by decide +kernel
theorem dJ6_bitCount_0f7a4_41 : decode cJ6_bitCount_0f7a4 41 = .ok (.iload_n 0, 1) := by decide +kernel
theorem dJ6_bitCount_0f7a4_42 : decode cJ6_bitCount_0f7a4 42 = .ok (.iload_n 0, 1) := by decide +kernel
theorem dJ6_bitCount_0f7a4_43 : decode cJ6_bitCount_0f7a4 43 = .ok (.bipush 16, 2) := by decide +kernel
theorem dJ6_bitCount_0f7a4_45 : decode cJ6_bitCount_0f7a4 45 = .ok (.iushr, 1) := by decide +kernel
theorem dJ6_bitCount_0f7a4_46 : decode cJ6_bitCount_0f7a4 46 = .ok (.iadd, 1) := by decide +kernel
theorem dJ6_bitCount_0f7a4_47 : decode cJ6_bitCount_0f7a4 47 = .ok (.istore_n 0, 1) := by decide +kernel
theorem dJ6_bitCount_0f7a4_48 : decode cJ6_bitCount_0f7a4 48 = .ok (.iload_n 0, 1) := by decide +kernel
theorem dJ6_bitCount_0f7a4_49 : decode cJ6_bitCount_0f7a4 49 = .ok (.bipush 63, 2) := by decide +kernel
theorem dJ6_bitCount_0f7a4_51 : decode cJ6_bitCount_0f7a4 51 = .ok (.iand, 1) := by decide +kernel
theorem dJ6_bitCount_0f7a4_52 : decode cJ6_bitCount_0f7a4 52 = .ok (.ireturn, 1) := by decide +kernel
theorem dJ13_bitCount_95d88_0 : decode cJ13_bitCount_95d88 0 = .ok (.lload_n 0, 1) := by decide +kernel
theorem dJ13_bitCount_95d88_1 : decode cJ13_bitCount_95d88 1 = .ok (.lload_n 0, 1) := by decide +kernel
theorem dJ13_bitCount_95d88_2 : decode cJ13_bitCount_95d88 2 = .ok (.iconst 1, 1) := by decide +kernel
theorem dJ13_bitCount_95d88_3 : decode cJ13_bitCount_95d88 3 = .ok (.lushr, 1) := by decide +kernel
theorem dJ13_bitCount_95d88_4 : decode cJ13_bitCount_95d88 4 = .ok (.ldc2_w 314, 3) := by decide +kernel
theorem dJ13_bitCount_95d88_7 : decode cJ13_bitCount_95d88 7 = .ok (.land, 1) := by decide +kernel
theorem dJ13_bitCount_95d88_8 : decode cJ13_bitCount_95d88 8 = .ok (.lsub, 1) := by decide +kernel
theorem dJ13_bitCount_95d88_9 : decode cJ13_bitCount_95d88 9 = .ok (.lstore_n 0, 1) := by decide +kernel
theorem dJ13_bitCount_95d88_10 : decode cJ13_bitCount_95d88 10 = .ok (.lload_n 0, 1) := by decide +kernel
theorem dJ13_bitCount_95d88_11 : decode cJ13_bitCount_95d88 11 = .ok (.ldc2_w 316, 3) := by decide +kernel
theorem dJ13_bitCount_95d88_14 : decode cJ13_bitCount_95d88 14 = .ok (.land, 1) := by decide +kernel
theorem dJ13_bitCount_95d88_15 : decode cJ13_bitCount_95d88 15 = .ok (.lload_n 0, 1) := by decide +kernel
theorem dJ13_bitCount_95d88_16 : decode cJ13_bitCount_95d88 16 = .ok (.iconst 2, 1) := by decide +kernel
theorem dJ13_bitCount_95d88_17 : decode cJ13_bitCount_95d88 17 = .ok (.lushr, 1) := by decide +kernel
theorem dJ13_bitCount_95d88_18 : decode cJ13_bitCount_95d88 18 = .ok (.ldc2_w 316, 3) := by decide +kernel
theorem dJ13_bitCount_95d88_21 : decode cJ13_bitCount_95d88 21 = .ok (.land, 1) := by decide +kernel
theorem dJ13_bitCount_95d88_22 : decode cJ13_bitCount_95d88 22 = .ok (.ladd, 1) := by decide +kernel
theorem dJ13_bitCount_95d88_23 : decode cJ13_bitCount_95d88 23 = .ok (.lstore_n 0, 1) := by decide +kernel
theorem dJ13_bitCount_95d88_24 : decode cJ13_bitCount_95d88 24 = .ok (.lload_n 0, 1) := by decide +kernel
theorem dJ13_bitCount_95d88_25 : decode cJ13_bitCount_95d88 25 = .ok (.lload_n 0, 1) := by decide +kernel
theorem dJ13_bitCount_95d88_26 : decode cJ13_bitCount_95d88 26 = .ok (.iconst 4, 1) := by decide +kernel
theorem dJ13_bitCount_95d88_27 : decode cJ13_bitCount_95d88 27 = .ok (.lushr, 1) := by decide +kernel
theorem dJ13_bitCount_95d88_28 : decode cJ13_bitCount_95d88 28 = .ok (.ladd, 1) := by decide +kernel
theorem dJ13_bitCount_95d88_29 : decode cJ13_bitCount_95d88 29 = .ok (.ldc2_w 318, 3) := by decide +kernel
theorem dJ13_bitCount_95d88_32 : decode cJ13_bitCount_95d88 32 = .ok (.land, 1) := by decide +kernel
theorem dJ13_bitCount_95d88_33 : decode cJ13_bitCount_95d88 33 = .ok (.lstore_n 0, 1) := by decide +kernel
theorem dJ13_bitCount_95d88_34 : decode cJ13_bitCount_95d88 34 = .ok (.lload_n 0, 1) := by decide +kernel
theorem dJ13_bitCount_95d88_35 : decode cJ13_bitCount_95d88 35 = .ok (.lload_n 0, 1) := by decide +kernel
theorem dJ13_bitCount_95d88_36 : decode cJ13_bitCount_95d88 36 = .ok (.bipush 8, 2) := by decide +kernel
theorem dJ13_bitCount_95d88_38 : decode cJ13_bitCount_95d88 38 = .ok (.lushr, 1) := by decide +kernel
theorem dJ13_bitCount_95d88_39 : decode cJ13_bitCount_95d88 39 = .ok (.ladd, 1) := by decide +kernel
theorem dJ13_bitCount_95d88_40 : decode cJ13_bitCount_95d88 40 = .ok (.lstore_n 0, 1) := by decide +kernel
theorem dJ13_bitCount_95d88_41 : decode cJ13_bitCount_95d88 41 = .ok (.lload_n 0, 1) := by decide +kernel
theorem dJ13_bitCount_95d88_42 : decode cJ13_bitCount_95d88 42 = .ok (.lload_n 0, 1) := by decide +kernel
theorem dJ13_bitCount_95d88_43 : decode cJ13_bitCount_95d88 43 = .ok (.bipush 16, 2) := by decide +kernel
theorem dJ13_bitCount_95d88_45 : decode cJ13_bitCount_95d88 45 = .ok (.lushr, 1) := by decide +kernel
theorem dJ13_bitCount_95d88_46 : decode cJ13_bitCount_95d88 46 = .ok (.ladd, 1) := by decide +kernel
theorem dJ13_bitCount_95d88_47 : decode cJ13_bitCount_95d88 47 = .ok (.lstore_n 0, 1) := by decide +kernel
theorem dJ13_bitCount_95d88_48 : decode cJ13_bitCount_95d88 48 = .ok (.lload_n 0, 1) := by decide +kernel
theorem dJ13_bitCount_95d88_49 : decode cJ13_bitCount_95d88 49 = .ok (.lload_n 0, 1) := by decide +kernel
theorem dJ13_bitCount_95d88_50 : decode cJ13_bitCount_95d88 50 = .ok (.bipush 32, 2) := by decide +kernel
theorem dJ13_bitCount_95d88_52 : decode cJ13_bitCount_95d88 52 = .ok (.lushr, 1) := by decide +kernel
theorem dJ13_bitCount_95d88_53 : decode cJ13_bitCount_95d88 53 = .ok (.ladd, 1) := by decide +kernel
theorem dJ13_bitCount_95d88_54 : decode cJ13_bitCount_95d88 54 = .ok (.lstore_n 0, 1) := by decide +kernel
theorem dJ13_bitCount_95d88_55 : decode cJ13_bitCount_95d88 55 = .ok (.lload_n 0, 1) := by decide +kernel
theorem dJ13_bitCount_95d88_56 : decode cJ13_bitCount_95d88 56 = .ok (.l2i, 1) := by decide +kernel
theorem dJ13_bitCount_95d88_57 : decode cJ13_bitCount_95d88 57 = .ok (.bipush 127, 2) := by decide +kernel
theorem dJ13_bitCount_95d88_59 : decode cJ13_bitCount_95d88 59 = .ok (.iand, 1) := by decide +kernel
theorem dJ13_bitCount_95d88_60 : decode cJ13_bitCount_95d88 60 = .ok (.ireturn, 1) := by decide +kernel
theorem dJ9_floorDiv_f86c9_0 : decode cJ9_floorDiv_f86c9 0 = .ok (.lload_n 0, 1) := by decide +kernel
theorem dJ9_floorDiv_f86c9_1 : decode cJ9_floorDiv_f86c9 1 = .ok (.lload_n 2, 1) := by decide +kernel
theorem dJ9_floorDiv_f86c9_2 : decode cJ9_floorDiv_f86c9 2 = .ok (.ldiv, 1) := by decide +kernel
theorem dJ9_floorDiv_f86c9_3 : decode cJ9_floorDiv_f86c9 3 = .ok (.lstore 4, 2) := by decide +kernel
theorem dJ9_floorDiv_f86c9_5 : decode cJ9_floorDiv_f86c9 5 = .ok (.lload_n 0, 1) := by decide +kernel
theorem dJ9_floorDiv_f86c9_6 : decode cJ9_floorDiv_f86c9 6 = .ok (.lload_n 2, 1) := by decide +kernel
theorem dJ9_floorDiv_f86c9_7 : decode cJ9_floorDiv_f86c9 7 = .ok (.lxor, 1) := by decide +kernel
theorem dJ9_floorDiv_f86c9_8 : decode cJ9_floorDiv_f86c9 8 = .ok (.lconst 0, 1) := by decide +kernel
theorem dJ9_floorDiv_f86c9_9 : decode cJ9_floorDiv_f86c9 9 = .ok (.lcmp, 1) := by decide +kernel
theorem dJ9_floorDiv_f86c9_10 : decode cJ9_floorDiv_f86c9 10 = .ok (.ifCond .ge 17, 3) := by decide +kernel
theorem dJ9_floorDiv_f86c9_13 : decode cJ9_floorDiv_f86c9 13 = .ok (.lload 4, 2) := by decide +kernel
theorem dJ9_floorDiv_f86c9_15 : decode cJ9_floorDiv_f86c9 15 = .ok (.lload_n 2, 1) := by decide +kernel
theorem dJ9_floorDiv_f86c9_16 : decode cJ9_floorDiv_f86c9 16 = .ok (.lmul, 1) := by decide +kernel
theorem dJ9_floorDiv_f86c9_17 : decode cJ9_floorDiv_f86c9 17 = .ok (.lload_n 0, 1) := by decide +kernel
theorem dJ9_floorDiv_f86c9_18 : decode cJ9_floorDiv_f86c9 18 = .ok (.lcmp, 1) := by decide +kernel
theorem dJ9_floorDiv_f86c9_19 : decode cJ9_floorDiv_f86c9 19 = .ok (.ifCond .eq 8, 3) := by decide +kernel
theorem dJ9_floorDiv_f86c9_22 : decode cJ9_floorDiv_f86c9 22 = .ok (.lload 4, 2) := by decide +kernel
theorem dJ9_floorDiv_f86c9_24 : decode cJ9_floorDiv_f86c9 24 = .ok (.lconst 1, 1) := by decide +kernel
theorem dJ9_floorDiv_f86c9_25 : decode cJ9_floorDiv_f86c9 25 = .ok (.lsub, 1) := by decide +kernel
theorem dJ9_floorDiv_f86c9_26 : decode cJ9_floorDiv_f86c9 26 = .ok (.lreturn, 1) := by decide +kernel
theorem dJ9_floorDiv_f86c9_27 : decode cJ9_floorDiv_f86c9 27 = .ok (.lload 4, 2) := by decide +kernel
theorem dJ9_floorDiv_f86c9_29 : decode cJ9_floorDiv_f86c9 29 = .ok (.lreturn, 1) := by decide +kernel
theorem dJ9_floorMod_f86c9_0 : decode cJ9_floorMod_f86c9 0 = .ok (.lload_n 0, 1) := by decide +kernel
theorem dJ9_floorMod_f86c9_1 : decode cJ9_floorMod_f86c9 1 = .ok (.lload_n 2, 1) := by decide +kernel
theorem dJ9_floorMod_f86c9_2 : decode cJ9_floorMod_f86c9 2 = .ok (.lrem, 1) := by decide +kernel
theorem dJ9_floorMod_f86c9_3 : decode cJ9_floorMod_f86c9 3 = .ok (.lstore 4, 2) := by decide +kernel
theorem dJ9_floorMod_f86c9_5 : decode cJ9_floorMod_f86c9 5 = .ok (.lload_n 0, 1) := by decide +kernel
theorem dJ9_floorMod_f86c9_6 : decode cJ9_floorMod_f86c9 6 = .ok (.lload_n 2, 1) := by decide +kernel
theorem dJ9_floorMod_f86c9_7 : decode cJ9_floorMod_f86c9 7 = .ok (.lxor, 1) := by decide +kernel
theorem dJ9_floorMod_f86c9_8 : decode cJ9_floorMod_f86c9 8 = .ok (.lconst 0, 1) := by decide +kernel
theorem dJ9_floorMod_f86c9_9 : decode cJ9_floorMod_f86c9 9 = .ok (.lcmp, 1) := by decide +kernel
theorem dJ9_floorMod_f86c9_10 : decode cJ9_floorMod_f86c9 10 = .ok (.ifCond .ge 15, 3) := by decide +kernel
theorem dJ9_floorMod_f86c9_13 : decode cJ9_floorMod_f86c9 13 = .ok (.lload 4, 2) := by decide +kernel
theorem dJ9_floorMod_f86c9_15 : decode cJ9_floorMod_f86c9 15 = .ok (.lconst 0, 1) := by decide +kernel
theorem dJ9_floorMod_f86c9_16 : decode cJ9_floorMod_f86c9 16 = .ok (.lcmp, 1) := by decide +kernel
theorem dJ9_floorMod_f86c9_17 : decode cJ9_floorMod_f86c9 17 = .ok (.ifCond .eq 8, 3) := by decide +kernel
theorem dJ9_floorMod_f86c9_20 : decode cJ9_floorMod_f86c9 20 = .ok (.lload 4, 2) := by decide +kernel
theorem dJ9_floorMod_f86c9_22 : decode cJ9_floorMod_f86c9 22 = .ok (.lload_n 2, 1) := by decide +kernel
theorem dJ9_floorMod_f86c9_23 : decode cJ9_floorMod_f86c9 23 = .ok (.ladd, 1) := by decide +kernel
theorem dJ9_floorMod_f86c9_24 : decode cJ9_floorMod_f86c9 24 = .ok (.lreturn, 1) := by decide +kernel
theorem dJ9_floorMod_f86c9_25 : decode cJ9_floorMod_f86c9 25 = .ok (.lload 4, 2) := by decide +kernel
theorem dJ9_floorMod_f86c9_27 : decode cJ9_floorMod_f86c9 27 = .ok (.lreturn, 1) := by decide +kernel
