set_option maxHeartbeats 4000000 in
set_option maxRecDepth 100000 in
theorem wkX0_fillj (Q R : XT → Prop) : ∀ k : Nat, (∀ (t : XT) (li : Nat → Int32) (lj : Nat → Int64), wpX0_fill k 0 t li lj Q → wpX0_fill k 0 t li lj R → wpX0_fill k 0 t li lj (fun t => Q t ∧ R t)) ∧ (∀ (t : XT) (li : Nat → Int32) (lj : Nat → Int64), wpX0_fill k 1 t li lj Q → wpX0_fill k 1 t li lj R → wpX0_fill k 1 t li lj (fun t => Q t ∧ R t)) ∧ (∀ (t : XT) (li : Nat → Int32) (lj : Nat → Int64), wpX0_fill k 2 t li lj Q → wpX0_fill k 2 t li lj R → wpX0_fill k 2 t li lj (fun t => Q t ∧ R t)) ∧ (∀ (t : XT) (li : Nat → Int32) (lj : Nat → Int64), wpX0_fill k 3 t li lj Q → wpX0_fill k 3 t li lj R → wpX0_fill k 3 t li lj (fun t => Q t ∧ R t)) := by
  intro k
  induction k with
  | zero => exact ⟨fun _ _ _ hR _ => False.elim hR, fun _ _ _ hR _ => False.elim hR, fun _ _ _ hR _ => False.elim hR, fun _ _ _ hR _ => False.elim hR⟩
  | succ k ih =>
    refine ⟨?_, ?_, ?_, ?_⟩
    · intro t li lj hQ hR
      have hQ : wbX0_fill_0 (wpX0_fill k) k t li lj Q := hQ
      have hR : wbX0_fill_0 (wpX0_fill k) k t li lj R := hR
      show wbX0_fill_0 (wpX0_fill k) k t li lj (fun t => Q t ∧ R t)
      unfold wbX0_fill_0 at hQ hR ⊢
      exact wiJ13_bitCount_95d88 hQ hR (fun y1_0 h1 i1 => wiJ13_bitCount_95d88 h1 i1 (fun y2_0 h2 i2 => wiX5_resize h2 i2 (fun y3_0 h3 i3 => ih.2.1 _ _ _ h3 i3)))
    · intro t li lj hQ hR
      have hQ : wbX0_fill_1 (wpX0_fill k) k t li lj Q := hQ
      have hR : wbX0_fill_1 (wpX0_fill k) k t li lj R := hR
      show wbX0_fill_1 (wpX0_fill k) k t li lj (fun t => Q t ∧ R t)
      unfold wbX0_fill_1 at hQ hR ⊢
      exact ⟨fun c1 => ⟨(hQ.1 c1), (hR.1 c1)⟩, fun c2 => wiX11_isIn (hQ.2 c2) (hR.2 c2) (fun y3_0 h3 i3 => ⟨fun c4 => ih.2.2.2 _ _ _ (h3.1 c4) (i3.1 c4), fun c5 => ⟨fun c6 => ih.2.2.1 _ _ _ ((h3.2 c5).1 c6) ((i3.2 c5).1 c6), fun c7 => wiX1_start ((h3.2 c5).2 c7) ((i3.2 c5).2 c7) (fun y8_0 h8 i8 => ⟨h8.1, fun x9 e9 => wiX1_pour (h8.2 x9 e9) (i8.2 x9 e9) (fun y10_0 h10 i10 => ih.2.2.1 _ _ _ h10 i10)⟩)⟩⟩)⟩
    · intro t li lj hQ hR
      have hQ : wbX0_fill_2 (wpX0_fill k) k t li lj Q := hQ
      have hR : wbX0_fill_2 (wpX0_fill k) k t li lj R := hR
      show wbX0_fill_2 (wpX0_fill k) k t li lj (fun t => Q t ∧ R t)
      unfold wbX0_fill_2 at hQ hR ⊢
      exact wiX0_fillRow hQ hR (fun y1_0 h1 i1 => fun x2 e2 => ih.2.2.2 _ _ _ (h1 x2 e2) (i1 x2 e2))
    · intro t li lj hQ hR
      have hQ : wbX0_fill_3 (wpX0_fill k) k t li lj Q := hQ
      have hR : wbX0_fill_3 (wpX0_fill k) k t li lj R := hR
      show wbX0_fill_3 (wpX0_fill k) k t li lj (fun t => Q t ∧ R t)
      unfold wbX0_fill_3 at hQ hR ⊢
      exact fun x1 e1 => ih.2.1 _ _ _ (hQ x1 e1) (hR x1 e1)
theorem wjX0_fill {k : Nat} {t : XT} {a1 : Int64} {a2 : Int64} {a3 : Int32} {Q R : XT → Prop} (hQ : wqX0_fill k t a1 a2 a3 Q) (hR : wqX0_fill k t a1 a2 a3 R) : wqX0_fill k t a1 a2 a3 (fun t => Q t ∧ R t) := (wkX0_fillj Q R k).1 t _ _ hQ hR
theorem wiX0_fill {k : Nat} {t : XT} {a1 : Int64} {a2 : Int64} {a3 : Int32} {Q R S : XT → Prop} (hQ : wqX0_fill k t a1 a2 a3 Q) (hR : wqX0_fill k t a1 a2 a3 R) (f : ∀ t, Q t → R t → S t) : wqX0_fill k t a1 a2 a3 S := wmX0_fill (Nat.le_refl k) (fun t h => f t h.1 h.2) (wjX0_fill hQ hR)
set_option maxHeartbeats 4000000 in
set_option maxRecDepth 100000 in
theorem wkX5_firstRowj (Q R : Int32 → XT → Prop) : ∀ k : Nat, (∀ (t : XT) (li : Nat → Int32) (lj : Nat → Int64), wpX5_firstRow k 0 t li lj Q → wpX5_firstRow k 0 t li lj R → wpX5_firstRow k 0 t li lj (fun r t => Q r t ∧ R r t)) ∧ (∀ (t : XT) (li : Nat → Int32) (lj : Nat → Int64), wpX5_firstRow k 1 t li lj Q → wpX5_firstRow k 1 t li lj R → wpX5_firstRow k 1 t li lj (fun r t => Q r t ∧ R r t)) := by
  intro k
  induction k with
  | zero => exact ⟨fun _ _ _ hR _ => False.elim hR, fun _ _ _ hR _ => False.elim hR⟩
  | succ k ih =>
    refine ⟨?_, ?_⟩
    · intro t li lj hQ hR
      have hQ : wbX5_firstRow_0 (wpX5_firstRow k) k t li lj Q := hQ
      have hR : wbX5_firstRow_0 (wpX5_firstRow k) k t li lj R := hR
      show wbX5_firstRow_0 (wpX5_firstRow k) k t li lj (fun r t => Q r t ∧ R r t)
      unfold wbX5_firstRow_0 at hQ hR ⊢
      exact ih.2 _ _ _ hQ hR
    · intro t li lj hQ hR
      have hQ : wbX5_firstRow_1 (wpX5_firstRow k) k t li lj Q := hQ
      have hR : wbX5_firstRow_1 (wpX5_firstRow k) k t li lj R := hR
      show wbX5_firstRow_1 (wpX5_firstRow k) k t li lj (fun r t => Q r t ∧ R r t)
      unfold wbX5_firstRow_1 at hQ hR ⊢
      exact ⟨fun c1 => ⟨(hQ.1 c1), (hR.1 c1)⟩, fun c2 => fun x3 e3 => fun x4 e4 => ⟨(((hQ.2 c2) x3 e3) x4 e4).1, fun x5 e5 => fun x6 e6 => ⟨fun c7 => fun x8 e8 => ih.2 _ _ _ (((((((hQ.2 c2) x3 e3) x4 e4).2 x5 e5) x6 e6).1 c7) x8 e8) (((((((hR.2 c2) x3 e3) x4 e4).2 x5 e5) x6 e6).1 c7) x8 e8), fun c9 => ⟨((((((hQ.2 c2) x3 e3) x4 e4).2 x5 e5) x6 e6).2 c9), ((((((hR.2 c2) x3 e3) x4 e4).2 x5 e5) x6 e6).2 c9)⟩⟩⟩⟩
theorem wjX5_firstRow {k : Nat} {t : XT} {a1 : Int32} {a2 : Int32} {Q R : Int32 → XT → Prop} (hQ : wqX5_firstRow k t a1 a2 Q) (hR : wqX5_firstRow k t a1 a2 R) : wqX5_firstRow k t a1 a2 (fun r t => Q r t ∧ R r t) := (wkX5_firstRowj Q R k).1 t _ _ hQ hR
theorem wiX5_firstRow {k : Nat} {t : XT} {a1 : Int32} {a2 : Int32} {Q R S : Int32 → XT → Prop} (hQ : wqX5_firstRow k t a1 a2 Q) (hR : wqX5_firstRow k t a1 a2 R) (f : ∀ r t, Q r t → R r t → S r t) : wqX5_firstRow k t a1 a2 S := wmX5_firstRow (Nat.le_refl k) (fun r t h => f r t h.1 h.2) (wjX5_firstRow hQ hR)
set_option maxHeartbeats 4000000 in
set_option maxRecDepth 100000 in
theorem wkX5_swapRows_c31j (Q R : XT → Prop) : ∀ k : Nat, (∀ (t : XT) (li : Nat → Int32) (lj : Nat → Int64), wpX5_swapRows_c31 k 0 t li lj Q → wpX5_swapRows_c31 k 0 t li lj R → wpX5_swapRows_c31 k 0 t li lj (fun t => Q t ∧ R t)) ∧ (∀ (t : XT) (li : Nat → Int32) (lj : Nat → Int64), wpX5_swapRows_c31 k 1 t li lj Q → wpX5_swapRows_c31 k 1 t li lj R → wpX5_swapRows_c31 k 1 t li lj (fun t => Q t ∧ R t)) := by
  intro k
  induction k with
  | zero => exact ⟨fun _ _ _ hR _ => False.elim hR, fun _ _ _ hR _ => False.elim hR⟩
  | succ k ih =>
    refine ⟨?_, ?_⟩
    · intro t li lj hQ hR
      have hQ : wbX5_swapRows_c31_0 (wpX5_swapRows_c31 k) k t li lj Q := hQ
      have hR : wbX5_swapRows_c31_0 (wpX5_swapRows_c31 k) k t li lj R := hR
      show wbX5_swapRows_c31_0 (wpX5_swapRows_c31 k) k t li lj (fun t => Q t ∧ R t)
      unfold wbX5_swapRows_c31_0 at hQ hR ⊢
      exact ih.2 _ _ _ hQ hR
    · intro t li lj hQ hR
      have hQ : wbX5_swapRows_c31_1 (wpX5_swapRows_c31 k) k t li lj Q := hQ
      have hR : wbX5_swapRows_c31_1 (wpX5_swapRows_c31 k) k t li lj R := hR
      show wbX5_swapRows_c31_1 (wpX5_swapRows_c31 k) k t li lj (fun t => Q t ∧ R t)
      unfold wbX5_swapRows_c31_1 at hQ hR ⊢
      exact ⟨fun c1 => ⟨(hQ.1 c1), (hR.1 c1)⟩, fun c2 => ⟨fun c3 => ⟨((hQ.2 c2).1 c3), ((hR.2 c2).1 c3)⟩, fun c4 => fun x5 e5 => fun x6 e6 => ⟨((((hQ.2 c2).2 c4) x5 e5) x6 e6).1, fun x7 e7 => fun x8 e8 => fun x9 e9 => fun x10 e10 => fun x11 e11 => ⟨(((((((((hQ.2 c2).2 c4) x5 e5) x6 e6).2 x7 e7) x8 e8) x9 e9) x10 e10) x11 e11).1, fun x12 e12 => ⟨((((((((((hQ.2 c2).2 c4) x5 e5) x6 e6).2 x7 e7) x8 e8) x9 e9) x10 e10) x11 e11).2 x12 e12).1, fun x13 e13 => fun x14 e14 => fun x15 e15 => ⟨(((((((((((((hQ.2 c2).2 c4) x5 e5) x6 e6).2 x7 e7) x8 e8) x9 e9) x10 e10) x11 e11).2 x12 e12).2 x13 e13) x14 e14) x15 e15).1, fun x16 e16 => fun x17 e17 => ih.2 _ _ _ (((((((((((((((hQ.2 c2).2 c4) x5 e5) x6 e6).2 x7 e7) x8 e8) x9 e9) x10 e10) x11 e11).2 x12 e12).2 x13 e13) x14 e14) x15 e15).2 x16 e16) x17 e17) (((((((((((((((hR.2 c2).2 c4) x5 e5) x6 e6).2 x7 e7) x8 e8) x9 e9) x10 e10) x11 e11).2 x12 e12).2 x13 e13) x14 e14) x15 e15).2 x16 e16) x17 e17)⟩⟩⟩⟩⟩⟩
theorem wjX5_swapRows_c31 {k : Nat} {t : XT} {a2 : Int32} {a3 : Int32} {Q R : XT → Prop} (hQ : wqX5_swapRows_c31 k t a2 a3 Q) (hR : wqX5_swapRows_c31 k t a2 a3 R) : wqX5_swapRows_c31 k t a2 a3 (fun t => Q t ∧ R t) := (wkX5_swapRows_c31j Q R k).1 t _ _ hQ hR
theorem wiX5_swapRows_c31 {k : Nat} {t : XT} {a2 : Int32} {a3 : Int32} {Q R S : XT → Prop} (hQ : wqX5_swapRows_c31 k t a2 a3 Q) (hR : wqX5_swapRows_c31 k t a2 a3 R) (f : ∀ t, Q t → R t → S t) : wqX5_swapRows_c31 k t a2 a3 S := wmX5_swapRows_c31 (Nat.le_refl k) (fun t h => f t h.1 h.2) (wjX5_swapRows_c31 hQ hR)
set_option maxHeartbeats 4000000 in
set_option maxRecDepth 100000 in
theorem wkX5_makePositivej (Q R : XT → Prop) : ∀ k : Nat, (∀ (t : XT) (li : Nat → Int32) (lj : Nat → Int64), wpX5_makePositive k 0 t li lj Q → wpX5_makePositive k 0 t li lj R → wpX5_makePositive k 0 t li lj (fun t => Q t ∧ R t)) ∧ (∀ (t : XT) (li : Nat → Int32) (lj : Nat → Int64), wpX5_makePositive k 1 t li lj Q → wpX5_makePositive k 1 t li lj R → wpX5_makePositive k 1 t li lj (fun t => Q t ∧ R t)) := by
  intro k
  induction k with
  | zero => exact ⟨fun _ _ _ hR _ => False.elim hR, fun _ _ _ hR _ => False.elim hR⟩
  | succ k ih =>
    refine ⟨?_, ?_⟩
    · intro t li lj hQ hR
      have hQ : wbX5_makePositive_0 (wpX5_makePositive k) k t li lj Q := hQ
      have hR : wbX5_makePositive_0 (wpX5_makePositive k) k t li lj R := hR
      show wbX5_makePositive_0 (wpX5_makePositive k) k t li lj (fun t => Q t ∧ R t)
      unfold wbX5_makePositive_0 at hQ hR ⊢
      exact fun x1 e1 => fun x2 e2 => ⟨((hQ x1 e1) x2 e2).1, fun x3 e3 => fun x4 e4 => ⟨fun c5 => ih.2 _ _ _ (((((hQ x1 e1) x2 e2).2 x3 e3) x4 e4).1 c5) (((((hR x1 e1) x2 e2).2 x3 e3) x4 e4).1 c5), fun c6 => ⟨(((((hQ x1 e1) x2 e2).2 x3 e3) x4 e4).2 c6), (((((hR x1 e1) x2 e2).2 x3 e3) x4 e4).2 c6)⟩⟩⟩
    · intro t li lj hQ hR
      have hQ : wbX5_makePositive_1 (wpX5_makePositive k) k t li lj Q := hQ
      have hR : wbX5_makePositive_1 (wpX5_makePositive k) k t li lj R := hR
      show wbX5_makePositive_1 (wpX5_makePositive k) k t li lj (fun t => Q t ∧ R t)
      unfold wbX5_makePositive_1 at hQ hR ⊢
      exact ⟨fun c1 => ⟨(hQ.1 c1), (hR.1 c1)⟩, fun c2 => fun x3 e3 => fun x4 e4 => fun x5 e5 => fun x6 e6 => ⟨(((((hQ.2 c2) x3 e3) x4 e4) x5 e5) x6 e6).1, fun x7 e7 => fun x8 e8 => ⟨(((((((hQ.2 c2) x3 e3) x4 e4) x5 e5) x6 e6).2 x7 e7) x8 e8).1, fun x9 e9 => fun x10 e10 => ih.2 _ _ _ (((((((((hQ.2 c2) x3 e3) x4 e4) x5 e5) x6 e6).2 x7 e7) x8 e8).2 x9 e9) x10 e10) (((((((((hR.2 c2) x3 e3) x4 e4) x5 e5) x6 e6).2 x7 e7) x8 e8).2 x9 e9) x10 e10)⟩⟩⟩
theorem wjX5_makePositive {k : Nat} {t : XT} {a1 : Int32} {a2 : Int32} {Q R : XT → Prop} (hQ : wqX5_makePositive k t a1 a2 Q) (hR : wqX5_makePositive k t a1 a2 R) : wqX5_makePositive k t a1 a2 (fun t => Q t ∧ R t) := (wkX5_makePositivej Q R k).1 t _ _ hQ hR
theorem wiX5_makePositive {k : Nat} {t : XT} {a1 : Int32} {a2 : Int32} {Q R S : XT → Prop} (hQ : wqX5_makePositive k t a1 a2 Q) (hR : wqX5_makePositive k t a1 a2 R) (f : ∀ t, Q t → R t → S t) : wqX5_makePositive k t a1 a2 S := wmX5_makePositive (Nat.le_refl k) (fun t h => f t h.1 h.2) (wjX5_makePositive hQ hR)
set_option maxHeartbeats 4000000 in
set_option maxRecDepth 100000 in
theorem wkX5_clearBelowj (Q R : XT → Prop) : ∀ k : Nat, (∀ (t : XT) (li : Nat → Int32) (lj : Nat → Int64), wpX5_clearBelow k 0 t li lj Q → wpX5_clearBelow k 0 t li lj R → wpX5_clearBelow k 0 t li lj (fun t => Q t ∧ R t)) ∧ (∀ (t : XT) (li : Nat → Int32) (lj : Nat → Int64), wpX5_clearBelow k 1 t li lj Q → wpX5_clearBelow k 1 t li lj R → wpX5_clearBelow k 1 t li lj (fun t => Q t ∧ R t)) ∧ (∀ (t : XT) (li : Nat → Int32) (lj : Nat → Int64), wpX5_clearBelow k 2 t li lj Q → wpX5_clearBelow k 2 t li lj R → wpX5_clearBelow k 2 t li lj (fun t => Q t ∧ R t)) ∧ (∀ (t : XT) (li : Nat → Int32) (lj : Nat → Int64), wpX5_clearBelow k 3 t li lj Q → wpX5_clearBelow k 3 t li lj R → wpX5_clearBelow k 3 t li lj (fun t => Q t ∧ R t)) ∧ (∀ (t : XT) (li : Nat → Int32) (lj : Nat → Int64), wpX5_clearBelow k 4 t li lj Q → wpX5_clearBelow k 4 t li lj R → wpX5_clearBelow k 4 t li lj (fun t => Q t ∧ R t)) ∧ (∀ (t : XT) (li : Nat → Int32) (lj : Nat → Int64), wpX5_clearBelow k 5 t li lj Q → wpX5_clearBelow k 5 t li lj R → wpX5_clearBelow k 5 t li lj (fun t => Q t ∧ R t)) := by
  intro k
  induction k with
  | zero => exact ⟨fun _ _ _ hR _ => False.elim hR, fun _ _ _ hR _ => False.elim hR, fun _ _ _ hR _ => False.elim hR, fun _ _ _ hR _ => False.elim hR, fun _ _ _ hR _ => False.elim hR, fun _ _ _ hR _ => False.elim hR⟩
  | succ k ih =>
    refine ⟨?_, ?_, ?_, ?_, ?_, ?_⟩
    · intro t li lj hQ hR
      have hQ : wbX5_clearBelow_0 (wpX5_clearBelow k) k t li lj Q := hQ
      have hR : wbX5_clearBelow_0 (wpX5_clearBelow k) k t li lj R := hR
      show wbX5_clearBelow_0 (wpX5_clearBelow k) k t li lj (fun t => Q t ∧ R t)
      unfold wbX5_clearBelow_0 at hQ hR ⊢
      exact fun x1 e1 => fun x2 e2 => ⟨((hQ x1 e1) x2 e2).1, fun x3 e3 => fun x4 e4 => ⟨fun c5 => fun x6 e6 => ih.2.1 _ _ _ ((((((hQ x1 e1) x2 e2).2 x3 e3) x4 e4).1 c5) x6 e6) ((((((hR x1 e1) x2 e2).2 x3 e3) x4 e4).1 c5) x6 e6), fun c7 => ⟨(((((hQ x1 e1) x2 e2).2 x3 e3) x4 e4).2 c7), (((((hR x1 e1) x2 e2).2 x3 e3) x4 e4).2 c7)⟩⟩⟩
    · intro t li lj hQ hR
      have hQ : wbX5_clearBelow_1 (wpX5_clearBelow k) k t li lj Q := hQ
      have hR : wbX5_clearBelow_1 (wpX5_clearBelow k) k t li lj R := hR
      show wbX5_clearBelow_1 (wpX5_clearBelow k) k t li lj (fun t => Q t ∧ R t)
      unfold wbX5_clearBelow_1 at hQ hR ⊢
      exact ⟨fun c1 => ⟨(hQ.1 c1), (hR.1 c1)⟩, fun c2 => fun x3 e3 => fun x4 e4 => ⟨(((hQ.2 c2) x3 e3) x4 e4).1, fun x5 e5 => fun x6 e6 => ⟨fun c7 => ih.2.2.1 _ _ _ ((((((hQ.2 c2) x3 e3) x4 e4).2 x5 e5) x6 e6).1 c7) ((((((hR.2 c2) x3 e3) x4 e4).2 x5 e5) x6 e6).1 c7), fun c8 => fun x9 e9 => ⟨fun c10 => ih.2.2.2.1 _ _ _ ((((((((hQ.2 c2) x3 e3) x4 e4).2 x5 e5) x6 e6).2 c8) x9 e9).1 c10) ((((((((hR.2 c2) x3 e3) x4 e4).2 x5 e5) x6 e6).2 c8) x9 e9).1 c10), fun c11 => ih.2.2.1 _ _ _ ((((((((hQ.2 c2) x3 e3) x4 e4).2 x5 e5) x6 e6).2 c8) x9 e9).2 c11) ((((((((hR.2 c2) x3 e3) x4 e4).2 x5 e5) x6 e6).2 c8) x9 e9).2 c11)⟩⟩⟩⟩
    · intro t li lj hQ hR
      have hQ : wbX5_clearBelow_2 (wpX5_clearBelow k) k t li lj Q := hQ
      have hR : wbX5_clearBelow_2 (wpX5_clearBelow k) k t li lj R := hR
      show wbX5_clearBelow_2 (wpX5_clearBelow k) k t li lj (fun t => Q t ∧ R t)
      unfold wbX5_clearBelow_2 at hQ hR ⊢
      exact ih.2.2.2.1 _ _ _ hQ hR
    · intro t li lj hQ hR
      have hQ : wbX5_clearBelow_3 (wpX5_clearBelow k) k t li lj Q := hQ
      have hR : wbX5_clearBelow_3 (wpX5_clearBelow k) k t li lj R := hR
      show wbX5_clearBelow_3 (wpX5_clearBelow k) k t li lj (fun t => Q t ∧ R t)
      unfold wbX5_clearBelow_3 at hQ hR ⊢
      exact ih.2.2.2.2.1 _ _ _ hQ hR
    · intro t li lj hQ hR
      have hQ : wbX5_clearBelow_4 (wpX5_clearBelow k) k t li lj Q := hQ
      have hR : wbX5_clearBelow_4 (wpX5_clearBelow k) k t li lj R := hR
      show wbX5_clearBelow_4 (wpX5_clearBelow k) k t li lj (fun t => Q t ∧ R t)
      unfold wbX5_clearBelow_4 at hQ hR ⊢
      exact ⟨fun c1 => ih.2.2.2.2.2 _ _ _ (hQ.1 c1) (hR.1 c1), fun c2 => ⟨fun c3 => ih.2.2.2.2.2 _ _ _ ((hQ.2 c2).1 c3) ((hR.2 c2).1 c3), fun c4 => fun x5 e5 => fun x6 e6 => ⟨((((hQ.2 c2).2 c4) x5 e5) x6 e6).1, fun x7 e7 => fun x8 e8 => fun x9 e9 => fun x10 e10 => ⟨((((((((hQ.2 c2).2 c4) x5 e5) x6 e6).2 x7 e7) x8 e8) x9 e9) x10 e10).1, fun x11 e11 => fun x12 e12 => fun x13 e13 => ⟨(((((((((((hQ.2 c2).2 c4) x5 e5) x6 e6).2 x7 e7) x8 e8) x9 e9) x10 e10).2 x11 e11) x12 e12) x13 e13).1, fun x14 e14 => ⟨((((((((((((hQ.2 c2).2 c4) x5 e5) x6 e6).2 x7 e7) x8 e8) x9 e9) x10 e10).2 x11 e11) x12 e12) x13 e13).2 x14 e14).1, fun x15 e15 => fun x16 e16 => ih.2.2.2.2.1 _ _ _ ((((((((((((((hQ.2 c2).2 c4) x5 e5) x6 e6).2 x7 e7) x8 e8) x9 e9) x10 e10).2 x11 e11) x12 e12) x13 e13).2 x14 e14).2 x15 e15) x16 e16) ((((((((((((((hR.2 c2).2 c4) x5 e5) x6 e6).2 x7 e7) x8 e8) x9 e9) x10 e10).2 x11 e11) x12 e12) x13 e13).2 x14 e14).2 x15 e15) x16 e16)⟩⟩⟩⟩⟩⟩
    · intro t li lj hQ hR
      have hQ : wbX5_clearBelow_5 (wpX5_clearBelow k) k t li lj Q := hQ
      have hR : wbX5_clearBelow_5 (wpX5_clearBelow k) k t li lj R := hR
      show wbX5_clearBelow_5 (wpX5_clearBelow k) k t li lj (fun t => Q t ∧ R t)
      unfold wbX5_clearBelow_5 at hQ hR ⊢
      exact fun x1 e1 => ih.2.1 _ _ _ (hQ x1 e1) (hR x1 e1)
theorem wjX5_clearBelow {k : Nat} {t : XT} {a1 : Int32} {a2 : Int32} {a3 : Int64} {Q R : XT → Prop} (hQ : wqX5_clearBelow k t a1 a2 a3 Q) (hR : wqX5_clearBelow k t a1 a2 a3 R) : wqX5_clearBelow k t a1 a2 a3 (fun t => Q t ∧ R t) := (wkX5_clearBelowj Q R k).1 t _ _ hQ hR
theorem wiX5_clearBelow {k : Nat} {t : XT} {a1 : Int32} {a2 : Int32} {a3 : Int64} {Q R S : XT → Prop} (hQ : wqX5_clearBelow k t a1 a2 a3 Q) (hR : wqX5_clearBelow k t a1 a2 a3 R) (f : ∀ t, Q t → R t → S t) : wqX5_clearBelow k t a1 a2 a3 S := wmX5_clearBelow (Nat.le_refl k) (fun t h => f t h.1 h.2) (wjX5_clearBelow hQ hR)
set_option maxHeartbeats 4000000 in
set_option maxRecDepth 100000 in
theorem wkX5_eliminatej (Q R : Int32 → XT → Prop) : ∀ k : Nat, (∀ (t : XT) (li : Nat → Int32) (lj : Nat → Int64), wpX5_eliminate k 0 t li lj Q → wpX5_eliminate k 0 t li lj R → wpX5_eliminate k 0 t li lj (fun r t => Q r t ∧ R r t)) ∧ (∀ (t : XT) (li : Nat → Int32) (lj : Nat → Int64), wpX5_eliminate k 1 t li lj Q → wpX5_eliminate k 1 t li lj R → wpX5_eliminate k 1 t li lj (fun r t => Q r t ∧ R r t)) ∧ (∀ (t : XT) (li : Nat → Int32) (lj : Nat → Int64), wpX5_eliminate k 2 t li lj Q → wpX5_eliminate k 2 t li lj R → wpX5_eliminate k 2 t li lj (fun r t => Q r t ∧ R r t)) ∧ (∀ (t : XT) (li : Nat → Int32) (lj : Nat → Int64), wpX5_eliminate k 3 t li lj Q → wpX5_eliminate k 3 t li lj R → wpX5_eliminate k 3 t li lj (fun r t => Q r t ∧ R r t)) := by
  intro k
  induction k with
  | zero => exact ⟨fun _ _ _ hR _ => False.elim hR, fun _ _ _ hR _ => False.elim hR, fun _ _ _ hR _ => False.elim hR, fun _ _ _ hR _ => False.elim hR⟩
  | succ k ih =>
    refine ⟨?_, ?_, ?_, ?_⟩
    · intro t li lj hQ hR
      have hQ : wbX5_eliminate_0 (wpX5_eliminate k) k t li lj Q := hQ
      have hR : wbX5_eliminate_0 (wpX5_eliminate k) k t li lj R := hR
      show wbX5_eliminate_0 (wpX5_eliminate k) k t li lj (fun r t => Q r t ∧ R r t)
      unfold wbX5_eliminate_0 at hQ hR ⊢
      exact fun x1 e1 => ⟨(hQ x1 e1).1, (hQ x1 e1).2.1, (hQ x1 e1).2.2.1, (hQ x1 e1).2.2.2.1, (hQ x1 e1).2.2.2.2.1, fun x2 e2 => ih.2.1 _ _ _ ((hQ x1 e1).2.2.2.2.2 x2 e2) ((hR x1 e1).2.2.2.2.2 x2 e2)⟩
    · intro t li lj hQ hR
      have hQ : wbX5_eliminate_1 (wpX5_eliminate k) k t li lj Q := hQ
      have hR : wbX5_eliminate_1 (wpX5_eliminate k) k t li lj R := hR
      show wbX5_eliminate_1 (wpX5_eliminate k) k t li lj (fun r t => Q r t ∧ R r t)
      unfold wbX5_eliminate_1 at hQ hR ⊢
      exact ⟨fun c1 => ih.2.2.2 _ _ _ (hQ.1 c1) (hR.1 c1), fun c2 => ⟨fun c3 => ih.2.2.2 _ _ _ ((hQ.2 c2).1 c3) ((hR.2 c2).1 c3), fun c4 => wiX5_firstRow ((hQ.2 c2).2 c4) ((hR.2 c2).2 c4) (fun y5_0 y5_1 h5 i5 => ⟨fun c6 => ih.2.2.1 _ _ _ (h5.1 c6) (i5.1 c6), fun c7 => wiX5_swapRows_c31 (h5.2 c7) (i5.2 c7) (fun y8_0 h8 i8 => wiX5_makePositive h8 i8 (fun y9_0 h9 i9 => wiX5_clearBelow h9 i9 (fun y10_0 h10 i10 => fun x11 e11 => fun x12 e12 => ⟨((h10 x11 e11) x12 e12).1, fun x13 e13 => fun x14 e14 => ih.2.2.1 _ _ _ ((((h10 x11 e11) x12 e12).2 x13 e13) x14 e14) ((((i10 x11 e11) x12 e12).2 x13 e13) x14 e14)⟩)))⟩)⟩⟩
    · intro t li lj hQ hR
      have hQ : wbX5_eliminate_2 (wpX5_eliminate k) k t li lj Q := hQ
      have hR : wbX5_eliminate_2 (wpX5_eliminate k) k t li lj R := hR
      show wbX5_eliminate_2 (wpX5_eliminate k) k t li lj (fun r t => Q r t ∧ R r t)
      unfold wbX5_eliminate_2 at hQ hR ⊢
      exact fun x1 e1 => ih.2.1 _ _ _ (hQ x1 e1) (hR x1 e1)
    · intro t li lj hQ hR
      have hQ : wbX5_eliminate_3 (wpX5_eliminate k) k t li lj Q := hQ
      have hR : wbX5_eliminate_3 (wpX5_eliminate k) k t li lj R := hR
      show wbX5_eliminate_3 (wpX5_eliminate k) k t li lj (fun r t => Q r t ∧ R r t)
      unfold wbX5_eliminate_3 at hQ hR ⊢
      exact fun x1 e1 => ⟨(hQ x1 e1), (hR x1 e1)⟩
theorem wjX5_eliminate {k : Nat} {t : XT}  {Q R : Int32 → XT → Prop} (hQ : wqX5_eliminate k t  Q) (hR : wqX5_eliminate k t  R) : wqX5_eliminate k t  (fun r t => Q r t ∧ R r t) := (wkX5_eliminatej Q R k).1 t _ _ hQ hR
theorem wiX5_eliminate {k : Nat} {t : XT}  {Q R S : Int32 → XT → Prop} (hQ : wqX5_eliminate k t  Q) (hR : wqX5_eliminate k t  R) (f : ∀ r t, Q r t → R r t → S r t) : wqX5_eliminate k t  S := wmX5_eliminate (Nat.le_refl k) (fun r t h => f r t h.1 h.2) (wjX5_eliminate hQ hR)
set_option maxHeartbeats 4000000 in
set_option maxRecDepth 100000 in
theorem wkX0_rankOfj (Q R : Int32 → XT → Prop) : ∀ k : Nat, (∀ (t : XT) (li : Nat → Int32) (lj : Nat → Int64), wpX0_rankOf k 0 t li lj Q → wpX0_rankOf k 0 t li lj R → wpX0_rankOf k 0 t li lj (fun r t => Q r t ∧ R r t)) ∧ (∀ (t : XT) (li : Nat → Int32) (lj : Nat → Int64), wpX0_rankOf k 1 t li lj Q → wpX0_rankOf k 1 t li lj R → wpX0_rankOf k 1 t li lj (fun r t => Q r t ∧ R r t)) := by
  intro k
  induction k with
  | zero => exact ⟨fun _ _ _ hR _ => False.elim hR, fun _ _ _ hR _ => False.elim hR⟩
  | succ k ih =>
    refine ⟨?_, ?_⟩
    · intro t li lj hQ hR
      have hQ : wbX0_rankOf_0 (wpX0_rankOf k) k t li lj Q := hQ
      have hR : wbX0_rankOf_0 (wpX0_rankOf k) k t li lj R := hR
      show wbX0_rankOf_0 (wpX0_rankOf k) k t li lj (fun r t => Q r t ∧ R r t)
      unfold wbX0_rankOf_0 at hQ hR ⊢
      exact ⟨fun c1 => ih.2 _ _ _ (hQ.1 c1) (hR.1 c1), fun c2 => ⟨fun c3 => ⟨((hQ.2 c2).1 c3).1, fun x4 e4 => fun x5 e5 => fun x6 e6 => ⟨(((((hQ.2 c2).1 c3).2 x4 e4) x5 e5) x6 e6).1, fun x7 e7 => fun x8 e8 => wiX0_fill (((((((hQ.2 c2).1 c3).2 x4 e4) x5 e5) x6 e6).2 x7 e7) x8 e8) (((((((hR.2 c2).1 c3).2 x4 e4) x5 e5) x6 e6).2 x7 e7) x8 e8) (fun y9_0 h9 i9 => wiX5_eliminate h9 i9 (fun y10_0 y10_1 h10 i10 => ⟨h10, i10⟩))⟩⟩, fun c11 => ih.2 _ _ _ ((hQ.2 c2).2 c11) ((hR.2 c2).2 c11)⟩⟩
    · intro t li lj hQ hR
      have hQ : wbX0_rankOf_1 (wpX0_rankOf k) k t li lj Q := hQ
      have hR : wbX0_rankOf_1 (wpX0_rankOf k) k t li lj R := hR
      show wbX0_rankOf_1 (wpX0_rankOf k) k t li lj (fun r t => Q r t ∧ R r t)
      unfold wbX0_rankOf_1 at hQ hR ⊢
      exact ⟨hQ, hR⟩
theorem wjX0_rankOf {k : Nat} {t : XT} {a1 : Int64} {a2 : Int32} {a3 : Int32} {Q R : Int32 → XT → Prop} (hQ : wqX0_rankOf k t a1 a2 a3 Q) (hR : wqX0_rankOf k t a1 a2 a3 R) : wqX0_rankOf k t a1 a2 a3 (fun r t => Q r t ∧ R r t) := (wkX0_rankOfj Q R k).1 t _ _ hQ hR
theorem wiX0_rankOf {k : Nat} {t : XT} {a1 : Int64} {a2 : Int32} {a3 : Int32} {Q R S : Int32 → XT → Prop} (hQ : wqX0_rankOf k t a1 a2 a3 Q) (hR : wqX0_rankOf k t a1 a2 a3 R) (f : ∀ r t, Q r t → R r t → S r t) : wqX0_rankOf k t a1 a2 a3 S := wmX0_rankOf (Nat.le_refl k) (fun r t h => f r t h.1 h.2) (wjX0_rankOf hQ hR)
set_option maxHeartbeats 4000000 in
set_option maxRecDepth 100000 in
theorem wkX0_bettiOfj (Q R : Int32 → XT → Prop) : ∀ k : Nat, (∀ (t : XT) (li : Nat → Int32) (lj : Nat → Int64), wpX0_bettiOf k 0 t li lj Q → wpX0_bettiOf k 0 t li lj R → wpX0_bettiOf k 0 t li lj (fun r t => Q r t ∧ R r t)) := by
  intro k
  induction k with
  | zero => exact fun _ _ _ hR _ => False.elim hR
  | succ k ih =>
    intro t li lj hQ hR
    have hQ : wbX0_bettiOf_0 (wpX0_bettiOf k) k t li lj Q := hQ
    have hR : wbX0_bettiOf_0 (wpX0_bettiOf k) k t li lj R := hR
    show wbX0_bettiOf_0 (wpX0_bettiOf k) k t li lj (fun r t => Q r t ∧ R r t)
    unfold wbX0_bettiOf_0 at hQ hR ⊢
    exact ⟨hQ.1, fun x1 e1 => fun x2 e2 => wiJ13_bitCount_95d88 ((hQ.2 x1 e1) x2 e2) ((hR.2 x1 e1) x2 e2) (fun y3_0 h3 i3 => wiX0_rankOf h3 i3 (fun y4_0 y4_1 h4 i4 => fun x5 e5 => fun x6 e6 => wiX0_rankOf ((h4 x5 e5) x6 e6) ((i4 x5 e5) x6 e6) (fun y7_0 y7_1 h7 i7 => fun x8 e8 => ⟨(h7 x8 e8), (i7 x8 e8)⟩)))⟩
theorem wjX0_bettiOf {k : Nat} {t : XT} {a1 : Int64} {a2 : Int32} {a3 : Int32} {Q R : Int32 → XT → Prop} (hQ : wqX0_bettiOf k t a1 a2 a3 Q) (hR : wqX0_bettiOf k t a1 a2 a3 R) : wqX0_bettiOf k t a1 a2 a3 (fun r t => Q r t ∧ R r t) := (wkX0_bettiOfj Q R k) t _ _ hQ hR
theorem wiX0_bettiOf {k : Nat} {t : XT} {a1 : Int64} {a2 : Int32} {a3 : Int32} {Q R S : Int32 → XT → Prop} (hQ : wqX0_bettiOf k t a1 a2 a3 Q) (hR : wqX0_bettiOf k t a1 a2 a3 R) (f : ∀ r t, Q r t → R r t → S r t) : wqX0_bettiOf k t a1 a2 a3 S := wmX0_bettiOf (Nat.le_refl k) (fun r t h => f r t h.1 h.2) (wjX0_bettiOf hQ hR)
set_option maxHeartbeats 4000000 in
set_option maxRecDepth 100000 in
theorem wkX11_bettij (Q R : Int32 → XT → Prop) : ∀ k : Nat, (∀ (t : XT) (li : Nat → Int32) (lj : Nat → Int64), wpX11_betti k 0 t li lj Q → wpX11_betti k 0 t li lj R → wpX11_betti k 0 t li lj (fun r t => Q r t ∧ R r t)) ∧ (∀ (t : XT) (li : Nat → Int32) (lj : Nat → Int64), wpX11_betti k 1 t li lj Q → wpX11_betti k 1 t li lj R → wpX11_betti k 1 t li lj (fun r t => Q r t ∧ R r t)) ∧ (∀ (t : XT) (li : Nat → Int32) (lj : Nat → Int64), wpX11_betti k 2 t li lj Q → wpX11_betti k 2 t li lj R → wpX11_betti k 2 t li lj (fun r t => Q r t ∧ R r t)) := by
  intro k
  induction k with
  | zero => exact ⟨fun _ _ _ hR _ => False.elim hR, fun _ _ _ hR _ => False.elim hR, fun _ _ _ hR _ => False.elim hR⟩
  | succ k ih =>
    refine ⟨?_, ?_, ?_⟩
    · intro t li lj hQ hR
      have hQ : wbX11_betti_0 (wpX11_betti k) k t li lj Q := hQ
      have hR : wbX11_betti_0 (wpX11_betti k) k t li lj R := hR
      show wbX11_betti_0 (wpX11_betti k) k t li lj (fun r t => Q r t ∧ R r t)
      unfold wbX11_betti_0 at hQ hR ⊢
      exact wiX11_isDim hQ hR (fun y1_0 h1 i1 => ⟨fun c2 => ih.2.1 _ _ _ (h1.1 c2) (i1.1 c2), fun c3 => ⟨fun c4 => ih.2.1 _ _ _ ((h1.2 c3).1 c4) ((i1.2 c3).1 c4), fun c5 => ⟨fun c6 => wiX11_basis (((h1.2 c3).2 c5).1 c6) (((i1.2 c3).2 c5).1 c6) (fun y7_0 y7_1 h7 i7 => ⟨fun c8 => ih.2.2 _ _ _ (h7.1 c8) (i7.1 c8), fun c9 => ih.2.2 _ _ _ (h7.2 c9) (i7.2 c9)⟩), fun c10 => ih.2.1 _ _ _ (((h1.2 c3).2 c5).2 c10) (((i1.2 c3).2 c5).2 c10)⟩⟩⟩)
    · intro t li lj hQ hR
      have hQ : wbX11_betti_1 (wpX11_betti k) k t li lj Q := hQ
      have hR : wbX11_betti_1 (wpX11_betti k) k t li lj R := hR
      show wbX11_betti_1 (wpX11_betti k) k t li lj (fun r t => Q r t ∧ R r t)
      unfold wbX11_betti_1 at hQ hR ⊢
      exact ⟨hQ, hR⟩
    · intro t li lj hQ hR
      have hQ : wbX11_betti_2 (wpX11_betti k) k t li lj Q := hQ
      have hR : wbX11_betti_2 (wpX11_betti k) k t li lj R := hR
      show wbX11_betti_2 (wpX11_betti k) k t li lj (fun r t => Q r t ∧ R r t)
      unfold wbX11_betti_2 at hQ hR ⊢
      exact wiX0_bettiOf hQ hR (fun y1_0 y1_1 h1 i1 => ⟨h1, i1⟩)
theorem wjX11_betti {k : Nat} {t : XT} {a1 : Int32} {a2 : Int32} {Q R : Int32 → XT → Prop} (hQ : wqX11_betti k t a1 a2 Q) (hR : wqX11_betti k t a1 a2 R) : wqX11_betti k t a1 a2 (fun r t => Q r t ∧ R r t) := (wkX11_bettij Q R k).1 t _ _ hQ hR
theorem wiX11_betti {k : Nat} {t : XT} {a1 : Int32} {a2 : Int32} {Q R S : Int32 → XT → Prop} (hQ : wqX11_betti k t a1 a2 Q) (hR : wqX11_betti k t a1 a2 R) (f : ∀ r t, Q r t → R r t → S r t) : wqX11_betti k t a1 a2 S := wmX11_betti (Nat.le_refl k) (fun r t h => f r t h.1 h.2) (wjX11_betti hQ hR)
set_option maxHeartbeats 4000000 in
set_option maxRecDepth 100000 in
theorem wkJ9_floorMod_f86c9j (Q R : Int64 → Prop) : ∀ k : Nat, (∀ (li : Nat → Int32) (lj : Nat → Int64), wpJ9_floorMod_f86c9 k 0 li lj Q → wpJ9_floorMod_f86c9 k 0 li lj R → wpJ9_floorMod_f86c9 k 0 li lj (fun r => Q r ∧ R r)) ∧ (∀ (li : Nat → Int32) (lj : Nat → Int64), wpJ9_floorMod_f86c9 k 1 li lj Q → wpJ9_floorMod_f86c9 k 1 li lj R → wpJ9_floorMod_f86c9 k 1 li lj (fun r => Q r ∧ R r)) := by
  intro k
  induction k with
  | zero => exact ⟨fun _ _ hR _ => False.elim hR, fun _ _ hR _ => False.elim hR⟩
  | succ k ih =>
    refine ⟨?_, ?_⟩
    · intro li lj hQ hR
      have hQ : wbJ9_floorMod_f86c9_0 (wpJ9_floorMod_f86c9 k) k li lj Q := hQ
      have hR : wbJ9_floorMod_f86c9_0 (wpJ9_floorMod_f86c9 k) k li lj R := hR
      show wbJ9_floorMod_f86c9_0 (wpJ9_floorMod_f86c9 k) k li lj (fun r => Q r ∧ R r)
      unfold wbJ9_floorMod_f86c9_0 at hQ hR ⊢
      exact ⟨hQ.1, fun x1 e1 => fun x2 e2 => fun x3 e3 => ⟨fun c4 => ih.2 _ _ ((((hQ.2 x1 e1) x2 e2) x3 e3).1 c4) ((((hR.2 x1 e1) x2 e2) x3 e3).1 c4), fun c5 => fun x6 e6 => ⟨fun c7 => ih.2 _ _ ((((((hQ.2 x1 e1) x2 e2) x3 e3).2 c5) x6 e6).1 c7) ((((((hR.2 x1 e1) x2 e2) x3 e3).2 c5) x6 e6).1 c7), fun c8 => fun x9 e9 => ⟨(((((((hQ.2 x1 e1) x2 e2) x3 e3).2 c5) x6 e6).2 c8) x9 e9), (((((((hR.2 x1 e1) x2 e2) x3 e3).2 c5) x6 e6).2 c8) x9 e9)⟩⟩⟩⟩
    · intro li lj hQ hR
      have hQ : wbJ9_floorMod_f86c9_1 (wpJ9_floorMod_f86c9 k) k li lj Q := hQ
      have hR : wbJ9_floorMod_f86c9_1 (wpJ9_floorMod_f86c9 k) k li lj R := hR
      show wbJ9_floorMod_f86c9_1 (wpJ9_floorMod_f86c9 k) k li lj (fun r => Q r ∧ R r)
      unfold wbJ9_floorMod_f86c9_1 at hQ hR ⊢
      exact ⟨hQ, hR⟩
theorem wjJ9_floorMod_f86c9 {k : Nat} {a0 : Int64} {a1 : Int64} {Q R : Int64 → Prop} (hQ : wqJ9_floorMod_f86c9 k a0 a1 Q) (hR : wqJ9_floorMod_f86c9 k a0 a1 R) : wqJ9_floorMod_f86c9 k a0 a1 (fun r => Q r ∧ R r) := (wkJ9_floorMod_f86c9j Q R k).1 _ _ hQ hR
theorem wiJ9_floorMod_f86c9 {k : Nat} {a0 : Int64} {a1 : Int64} {Q R S : Int64 → Prop} (hQ : wqJ9_floorMod_f86c9 k a0 a1 Q) (hR : wqJ9_floorMod_f86c9 k a0 a1 R) (f : ∀ r, Q r → R r → S r) : wqJ9_floorMod_f86c9 k a0 a1 S := wmJ9_floorMod_f86c9 (Nat.le_refl k) (fun r h => f r h.1 h.2) (wjJ9_floorMod_f86c9 hQ hR)
set_option maxHeartbeats 4000000 in
set_option maxRecDepth 100000 in
theorem wkX5_remainderj (Q R : Int64 → XT → Prop) : ∀ k : Nat, (∀ (t : XT) (li : Nat → Int32) (lj : Nat → Int64), wpX5_remainder k 0 t li lj Q → wpX5_remainder k 0 t li lj R → wpX5_remainder k 0 t li lj (fun r t => Q r t ∧ R r t)) := by
  intro k
  induction k with
  | zero => exact fun _ _ _ hR _ => False.elim hR
  | succ k ih =>
    intro t li lj hQ hR
    have hQ : wbX5_remainder_0 (wpX5_remainder k) k t li lj Q := hQ
    have hR : wbX5_remainder_0 (wpX5_remainder k) k t li lj R := hR
    show wbX5_remainder_0 (wpX5_remainder k) k t li lj (fun r t => Q r t ∧ R r t)
    unfold wbX5_remainder_0 at hQ hR ⊢
    exact fun x1 e1 => ⟨fun c2 => wiJ9_floorMod_f86c9 ((hQ x1 e1).1 c2) ((hR x1 e1).1 c2) (fun y3_0 h3 i3 => fun x4 e4 => fun x5 e5 => ⟨fun c6 => ⟨(((h3 x4 e4) x5 e5).1 c6), (((i3 x4 e4) x5 e5).1 c6)⟩, fun c7 => fun x8 e8 => ⟨((((h3 x4 e4) x5 e5).2 c7) x8 e8), ((((i3 x4 e4) x5 e5).2 c7) x8 e8)⟩⟩), fun c9 => ⟨((hQ x1 e1).2 c9), ((hR x1 e1).2 c9)⟩⟩
theorem wjX5_remainder {k : Nat} {t : XT} {a1 : Int64} {Q R : Int64 → XT → Prop} (hQ : wqX5_remainder k t a1 Q) (hR : wqX5_remainder k t a1 R) : wqX5_remainder k t a1 (fun r t => Q r t ∧ R r t) := (wkX5_remainderj Q R k) t _ _ hQ hR
theorem wiX5_remainder {k : Nat} {t : XT} {a1 : Int64} {Q R S : Int64 → XT → Prop} (hQ : wqX5_remainder k t a1 Q) (hR : wqX5_remainder k t a1 R) (f : ∀ r t, Q r t → R r t → S r t) : wqX5_remainder k t a1 S := wmX5_remainder (Nat.le_refl k) (fun r t h => f r t h.1 h.2) (wjX5_remainder hQ hR)
set_option maxHeartbeats 4000000 in
set_option maxRecDepth 100000 in
theorem wkX5_leastCellj (Q R : Int32 → XT → Prop) : ∀ k : Nat, (∀ (t : XT) (li : Nat → Int32) (lj : Nat → Int64), wpX5_leastCell k 0 t li lj Q → wpX5_leastCell k 0 t li lj R → wpX5_leastCell k 0 t li lj (fun r t => Q r t ∧ R r t)) ∧ (∀ (t : XT) (li : Nat → Int32) (lj : Nat → Int64), wpX5_leastCell k 1 t li lj Q → wpX5_leastCell k 1 t li lj R → wpX5_leastCell k 1 t li lj (fun r t => Q r t ∧ R r t)) ∧ (∀ (t : XT) (li : Nat → Int32) (lj : Nat → Int64), wpX5_leastCell k 2 t li lj Q → wpX5_leastCell k 2 t li lj R → wpX5_leastCell k 2 t li lj (fun r t => Q r t ∧ R r t)) ∧ (∀ (t : XT) (li : Nat → Int32) (lj : Nat → Int64), wpX5_leastCell k 3 t li lj Q → wpX5_leastCell k 3 t li lj R → wpX5_leastCell k 3 t li lj (fun r t => Q r t ∧ R r t)) ∧ (∀ (t : XT) (li : Nat → Int32) (lj : Nat → Int64), wpX5_leastCell k 4 t li lj Q → wpX5_leastCell k 4 t li lj R → wpX5_leastCell k 4 t li lj (fun r t => Q r t ∧ R r t)) ∧ (∀ (t : XT) (li : Nat → Int32) (lj : Nat → Int64), wpX5_leastCell k 5 t li lj Q → wpX5_leastCell k 5 t li lj R → wpX5_leastCell k 5 t li lj (fun r t => Q r t ∧ R r t)) := by
  intro k
  induction k with
  | zero => exact ⟨fun _ _ _ hR _ => False.elim hR, fun _ _ _ hR _ => False.elim hR, fun _ _ _ hR _ => False.elim hR, fun _ _ _ hR _ => False.elim hR, fun _ _ _ hR _ => False.elim hR, fun _ _ _ hR _ => False.elim hR⟩
  | succ k ih =>
    refine ⟨?_, ?_, ?_, ?_, ?_, ?_⟩
    · intro t li lj hQ hR
      have hQ : wbX5_leastCell_0 (wpX5_leastCell k) k t li lj Q := hQ
      have hR : wbX5_leastCell_0 (wpX5_leastCell k) k t li lj R := hR
      show wbX5_leastCell_0 (wpX5_leastCell k) k t li lj (fun r t => Q r t ∧ R r t)
      unfold wbX5_leastCell_0 at hQ hR ⊢
      exact ih.2.1 _ _ _ hQ hR
    · intro t li lj hQ hR
      have hQ : wbX5_leastCell_1 (wpX5_leastCell k) k t li lj Q := hQ
      have hR : wbX5_leastCell_1 (wpX5_leastCell k) k t li lj R := hR
      show wbX5_leastCell_1 (wpX5_leastCell k) k t li lj (fun r t => Q r t ∧ R r t)
      unfold wbX5_leastCell_1 at hQ hR ⊢
      exact ⟨fun c1 => ⟨(hQ.1 c1), (hR.1 c1)⟩, fun c2 => ih.2.2.1 _ _ _ (hQ.2 c2) (hR.2 c2)⟩
    · intro t li lj hQ hR
      have hQ : wbX5_leastCell_2 (wpX5_leastCell k) k t li lj Q := hQ
      have hR : wbX5_leastCell_2 (wpX5_leastCell k) k t li lj R := hR
      show wbX5_leastCell_2 (wpX5_leastCell k) k t li lj (fun r t => Q r t ∧ R r t)
      unfold wbX5_leastCell_2 at hQ hR ⊢
      exact ⟨fun c1 => fun x2 e2 => ih.2.1 _ _ _ ((hQ.1 c1) x2 e2) ((hR.1 c1) x2 e2), fun c3 => fun x4 e4 => fun x5 e5 => ⟨fun c6 => ih.2.2.2.1 _ _ _ ((((hQ.2 c3) x4 e4) x5 e5).1 c6) ((((hR.2 c3) x4 e4) x5 e5).1 c6), fun c7 => ⟨((((hQ.2 c3) x4 e4) x5 e5).2 c7).1, fun x8 e8 => fun x9 e9 => ⟨((((((hQ.2 c3) x4 e4) x5 e5).2 c7).2 x8 e8) x9 e9).1, fun x10 e10 => fun x11 e11 => fun x12 e12 => ⟨fun c13 => ih.2.2.2.2.1 _ _ _ ((((((((((hQ.2 c3) x4 e4) x5 e5).2 c7).2 x8 e8) x9 e9).2 x10 e10) x11 e11) x12 e12).1 c13) ((((((((((hR.2 c3) x4 e4) x5 e5).2 c7).2 x8 e8) x9 e9).2 x10 e10) x11 e11) x12 e12).1 c13), fun c14 => ih.2.2.2.1 _ _ _ ((((((((((hQ.2 c3) x4 e4) x5 e5).2 c7).2 x8 e8) x9 e9).2 x10 e10) x11 e11) x12 e12).2 c14) ((((((((((hR.2 c3) x4 e4) x5 e5).2 c7).2 x8 e8) x9 e9).2 x10 e10) x11 e11) x12 e12).2 c14)⟩⟩⟩⟩⟩
    · intro t li lj hQ hR
      have hQ : wbX5_leastCell_3 (wpX5_leastCell k) k t li lj Q := hQ
      have hR : wbX5_leastCell_3 (wpX5_leastCell k) k t li lj R := hR
      show wbX5_leastCell_3 (wpX5_leastCell k) k t li lj (fun r t => Q r t ∧ R r t)
      unfold wbX5_leastCell_3 at hQ hR ⊢
      exact ih.2.2.2.2.1 _ _ _ hQ hR
    · intro t li lj hQ hR
      have hQ : wbX5_leastCell_4 (wpX5_leastCell k) k t li lj Q := hQ
      have hR : wbX5_leastCell_4 (wpX5_leastCell k) k t li lj R := hR
      show wbX5_leastCell_4 (wpX5_leastCell k) k t li lj (fun r t => Q r t ∧ R r t)
      unfold wbX5_leastCell_4 at hQ hR ⊢
      exact ⟨hQ.1, fun x1 e1 => fun x2 e2 => ⟨fun c3 => ih.2.2.2.2.2 _ _ _ (((hQ.2 x1 e1) x2 e2).1 c3) (((hR.2 x1 e1) x2 e2).1 c3), fun c4 => ⟨fun c5 => ih.2.2.2.2.2 _ _ _ ((((hQ.2 x1 e1) x2 e2).2 c4).1 c5) ((((hR.2 x1 e1) x2 e2).2 c4).1 c5), fun c6 => ih.2.2.2.2.2 _ _ _ ((((hQ.2 x1 e1) x2 e2).2 c4).2 c6) ((((hR.2 x1 e1) x2 e2).2 c4).2 c6)⟩⟩⟩
    · intro t li lj hQ hR
      have hQ : wbX5_leastCell_5 (wpX5_leastCell k) k t li lj Q := hQ
      have hR : wbX5_leastCell_5 (wpX5_leastCell k) k t li lj R := hR
      show wbX5_leastCell_5 (wpX5_leastCell k) k t li lj (fun r t => Q r t ∧ R r t)
      unfold wbX5_leastCell_5 at hQ hR ⊢
      exact fun x1 e1 => ih.2.2.1 _ _ _ (hQ x1 e1) (hR x1 e1)
theorem wjX5_leastCell {k : Nat} {t : XT} {a1 : Int32} {Q R : Int32 → XT → Prop} (hQ : wqX5_leastCell k t a1 Q) (hR : wqX5_leastCell k t a1 R) : wqX5_leastCell k t a1 (fun r t => Q r t ∧ R r t) := (wkX5_leastCellj Q R k).1 t _ _ hQ hR
theorem wiX5_leastCell {k : Nat} {t : XT} {a1 : Int32} {Q R S : Int32 → XT → Prop} (hQ : wqX5_leastCell k t a1 Q) (hR : wqX5_leastCell k t a1 R) (f : ∀ r t, Q r t → R r t → S r t) : wqX5_leastCell k t a1 S := wmX5_leastCell (Nat.le_refl k) (fun r t h => f r t h.1 h.2) (wjX5_leastCell hQ hR)
set_option maxHeartbeats 4000000 in
set_option maxRecDepth 100000 in
theorem wkX5_swapRows_c30j (Q R : XT → Prop) : ∀ k : Nat, (∀ (t : XT) (li : Nat → Int32) (lj : Nat → Int64), wpX5_swapRows_c30 k 0 t li lj Q → wpX5_swapRows_c30 k 0 t li lj R → wpX5_swapRows_c30 k 0 t li lj (fun t => Q t ∧ R t)) ∧ (∀ (t : XT) (li : Nat → Int32) (lj : Nat → Int64), wpX5_swapRows_c30 k 1 t li lj Q → wpX5_swapRows_c30 k 1 t li lj R → wpX5_swapRows_c30 k 1 t li lj (fun t => Q t ∧ R t)) := by
  intro k
  induction k with
  | zero => exact ⟨fun _ _ _ hR _ => False.elim hR, fun _ _ _ hR _ => False.elim hR⟩
  | succ k ih =>
    refine ⟨?_, ?_⟩
    · intro t li lj hQ hR
      have hQ : wbX5_swapRows_c30_0 (wpX5_swapRows_c30 k) k t li lj Q := hQ
      have hR : wbX5_swapRows_c30_0 (wpX5_swapRows_c30 k) k t li lj R := hR
      show wbX5_swapRows_c30_0 (wpX5_swapRows_c30 k) k t li lj (fun t => Q t ∧ R t)
      unfold wbX5_swapRows_c30_0 at hQ hR ⊢
      exact ih.2 _ _ _ hQ hR
    · intro t li lj hQ hR
      have hQ : wbX5_swapRows_c30_1 (wpX5_swapRows_c30 k) k t li lj Q := hQ
      have hR : wbX5_swapRows_c30_1 (wpX5_swapRows_c30 k) k t li lj R := hR
      show wbX5_swapRows_c30_1 (wpX5_swapRows_c30 k) k t li lj (fun t => Q t ∧ R t)
      unfold wbX5_swapRows_c30_1 at hQ hR ⊢
      exact ⟨fun c1 => ⟨(hQ.1 c1), (hR.1 c1)⟩, fun c2 => ⟨fun c3 => ⟨((hQ.2 c2).1 c3), ((hR.2 c2).1 c3)⟩, fun c4 => fun x5 e5 => fun x6 e6 => ⟨((((hQ.2 c2).2 c4) x5 e5) x6 e6).1, fun x7 e7 => fun x8 e8 => fun x9 e9 => fun x10 e10 => fun x11 e11 => ⟨(((((((((hQ.2 c2).2 c4) x5 e5) x6 e6).2 x7 e7) x8 e8) x9 e9) x10 e10) x11 e11).1, fun x12 e12 => ⟨((((((((((hQ.2 c2).2 c4) x5 e5) x6 e6).2 x7 e7) x8 e8) x9 e9) x10 e10) x11 e11).2 x12 e12).1, fun x13 e13 => fun x14 e14 => fun x15 e15 => ⟨(((((((((((((hQ.2 c2).2 c4) x5 e5) x6 e6).2 x7 e7) x8 e8) x9 e9) x10 e10) x11 e11).2 x12 e12).2 x13 e13) x14 e14) x15 e15).1, fun x16 e16 => fun x17 e17 => ih.2 _ _ _ (((((((((((((((hQ.2 c2).2 c4) x5 e5) x6 e6).2 x7 e7) x8 e8) x9 e9) x10 e10) x11 e11).2 x12 e12).2 x13 e13) x14 e14) x15 e15).2 x16 e16) x17 e17) (((((((((((((((hR.2 c2).2 c4) x5 e5) x6 e6).2 x7 e7) x8 e8) x9 e9) x10 e10) x11 e11).2 x12 e12).2 x13 e13) x14 e14) x15 e15).2 x16 e16) x17 e17)⟩⟩⟩⟩⟩⟩
theorem wjX5_swapRows_c30 {k : Nat} {t : XT} {a2 : Int32} {a3 : Int32} {Q R : XT → Prop} (hQ : wqX5_swapRows_c30 k t a2 a3 Q) (hR : wqX5_swapRows_c30 k t a2 a3 R) : wqX5_swapRows_c30 k t a2 a3 (fun t => Q t ∧ R t) := (wkX5_swapRows_c30j Q R k).1 t _ _ hQ hR
theorem wiX5_swapRows_c30 {k : Nat} {t : XT} {a2 : Int32} {a3 : Int32} {Q R S : XT → Prop} (hQ : wqX5_swapRows_c30 k t a2 a3 Q) (hR : wqX5_swapRows_c30 k t a2 a3 R) (f : ∀ t, Q t → R t → S t) : wqX5_swapRows_c30 k t a2 a3 S := wmX5_swapRows_c30 (Nat.le_refl k) (fun t h => f t h.1 h.2) (wjX5_swapRows_c30 hQ hR)
set_option maxHeartbeats 4000000 in
set_option maxRecDepth 100000 in
theorem wkX5_swapColumnsj (Q R : XT → Prop) : ∀ k : Nat, (∀ (t : XT) (li : Nat → Int32) (lj : Nat → Int64), wpX5_swapColumns k 0 t li lj Q → wpX5_swapColumns k 0 t li lj R → wpX5_swapColumns k 0 t li lj (fun t => Q t ∧ R t)) ∧ (∀ (t : XT) (li : Nat → Int32) (lj : Nat → Int64), wpX5_swapColumns k 1 t li lj Q → wpX5_swapColumns k 1 t li lj R → wpX5_swapColumns k 1 t li lj (fun t => Q t ∧ R t)) := by
  intro k
  induction k with
  | zero => exact ⟨fun _ _ _ hR _ => False.elim hR, fun _ _ _ hR _ => False.elim hR⟩
  | succ k ih =>
    refine ⟨?_, ?_⟩
    · intro t li lj hQ hR
      have hQ : wbX5_swapColumns_0 (wpX5_swapColumns k) k t li lj Q := hQ
      have hR : wbX5_swapColumns_0 (wpX5_swapColumns k) k t li lj R := hR
      show wbX5_swapColumns_0 (wpX5_swapColumns k) k t li lj (fun t => Q t ∧ R t)
      unfold wbX5_swapColumns_0 at hQ hR ⊢
      exact ih.2 _ _ _ hQ hR
    · intro t li lj hQ hR
      have hQ : wbX5_swapColumns_1 (wpX5_swapColumns k) k t li lj Q := hQ
      have hR : wbX5_swapColumns_1 (wpX5_swapColumns k) k t li lj R := hR
      show wbX5_swapColumns_1 (wpX5_swapColumns k) k t li lj (fun t => Q t ∧ R t)
      unfold wbX5_swapColumns_1 at hQ hR ⊢
      exact ⟨fun c1 => ⟨(hQ.1 c1), (hR.1 c1)⟩, fun c2 => ⟨fun c3 => ⟨((hQ.2 c2).1 c3), ((hR.2 c2).1 c3)⟩, fun c4 => fun x5 e5 => fun x6 e6 => ⟨((((hQ.2 c2).2 c4) x5 e5) x6 e6).1, fun x7 e7 => fun x8 e8 => fun x9 e9 => fun x10 e10 => fun x11 e11 => ⟨(((((((((hQ.2 c2).2 c4) x5 e5) x6 e6).2 x7 e7) x8 e8) x9 e9) x10 e10) x11 e11).1, fun x12 e12 => ⟨((((((((((hQ.2 c2).2 c4) x5 e5) x6 e6).2 x7 e7) x8 e8) x9 e9) x10 e10) x11 e11).2 x12 e12).1, fun x13 e13 => fun x14 e14 => fun x15 e15 => ⟨(((((((((((((hQ.2 c2).2 c4) x5 e5) x6 e6).2 x7 e7) x8 e8) x9 e9) x10 e10) x11 e11).2 x12 e12).2 x13 e13) x14 e14) x15 e15).1, fun x16 e16 => fun x17 e17 => ih.2 _ _ _ (((((((((((((((hQ.2 c2).2 c4) x5 e5) x6 e6).2 x7 e7) x8 e8) x9 e9) x10 e10) x11 e11).2 x12 e12).2 x13 e13) x14 e14) x15 e15).2 x16 e16) x17 e17) (((((((((((((((hR.2 c2).2 c4) x5 e5) x6 e6).2 x7 e7) x8 e8) x9 e9) x10 e10) x11 e11).2 x12 e12).2 x13 e13) x14 e14) x15 e15).2 x16 e16) x17 e17)⟩⟩⟩⟩⟩⟩
theorem wjX5_swapColumns {k : Nat} {t : XT} {a1 : Int32} {a2 : Int32} {Q R : XT → Prop} (hQ : wqX5_swapColumns k t a1 a2 Q) (hR : wqX5_swapColumns k t a1 a2 R) : wqX5_swapColumns k t a1 a2 (fun t => Q t ∧ R t) := (wkX5_swapColumnsj Q R k).1 t _ _ hQ hR
theorem wiX5_swapColumns {k : Nat} {t : XT} {a1 : Int32} {a2 : Int32} {Q R S : XT → Prop} (hQ : wqX5_swapColumns k t a1 a2 Q) (hR : wqX5_swapColumns k t a1 a2 R) (f : ∀ t, Q t → R t → S t) : wqX5_swapColumns k t a1 a2 S := wmX5_swapColumns (Nat.le_refl k) (fun t h => f t h.1 h.2) (wjX5_swapColumns hQ hR)
set_option maxHeartbeats 4000000 in
set_option maxRecDepth 100000 in
theorem wkJ9_floorDiv_f86c9j (Q R : Int64 → Prop) : ∀ k : Nat, (∀ (li : Nat → Int32) (lj : Nat → Int64), wpJ9_floorDiv_f86c9 k 0 li lj Q → wpJ9_floorDiv_f86c9 k 0 li lj R → wpJ9_floorDiv_f86c9 k 0 li lj (fun r => Q r ∧ R r)) ∧ (∀ (li : Nat → Int32) (lj : Nat → Int64), wpJ9_floorDiv_f86c9 k 1 li lj Q → wpJ9_floorDiv_f86c9 k 1 li lj R → wpJ9_floorDiv_f86c9 k 1 li lj (fun r => Q r ∧ R r)) := by
  intro k
  induction k with
  | zero => exact ⟨fun _ _ hR _ => False.elim hR, fun _ _ hR _ => False.elim hR⟩
  | succ k ih =>
    refine ⟨?_, ?_⟩
    · intro li lj hQ hR
      have hQ : wbJ9_floorDiv_f86c9_0 (wpJ9_floorDiv_f86c9 k) k li lj Q := hQ
      have hR : wbJ9_floorDiv_f86c9_0 (wpJ9_floorDiv_f86c9 k) k li lj R := hR
      show wbJ9_floorDiv_f86c9_0 (wpJ9_floorDiv_f86c9 k) k li lj (fun r => Q r ∧ R r)
      unfold wbJ9_floorDiv_f86c9_0 at hQ hR ⊢
      exact ⟨hQ.1, fun x1 e1 => fun x2 e2 => fun x3 e3 => ⟨fun c4 => ih.2 _ _ ((((hQ.2 x1 e1) x2 e2) x3 e3).1 c4) ((((hR.2 x1 e1) x2 e2) x3 e3).1 c4), fun c5 => fun x6 e6 => fun x7 e7 => ⟨fun c8 => ih.2 _ _ (((((((hQ.2 x1 e1) x2 e2) x3 e3).2 c5) x6 e6) x7 e7).1 c8) (((((((hR.2 x1 e1) x2 e2) x3 e3).2 c5) x6 e6) x7 e7).1 c8), fun c9 => fun x10 e10 => ⟨((((((((hQ.2 x1 e1) x2 e2) x3 e3).2 c5) x6 e6) x7 e7).2 c9) x10 e10), ((((((((hR.2 x1 e1) x2 e2) x3 e3).2 c5) x6 e6) x7 e7).2 c9) x10 e10)⟩⟩⟩⟩
    · intro li lj hQ hR
      have hQ : wbJ9_floorDiv_f86c9_1 (wpJ9_floorDiv_f86c9 k) k li lj Q := hQ
      have hR : wbJ9_floorDiv_f86c9_1 (wpJ9_floorDiv_f86c9 k) k li lj R := hR
      show wbJ9_floorDiv_f86c9_1 (wpJ9_floorDiv_f86c9 k) k li lj (fun r => Q r ∧ R r)
      unfold wbJ9_floorDiv_f86c9_1 at hQ hR ⊢
      exact ⟨hQ, hR⟩
theorem wjJ9_floorDiv_f86c9 {k : Nat} {a0 : Int64} {a1 : Int64} {Q R : Int64 → Prop} (hQ : wqJ9_floorDiv_f86c9 k a0 a1 Q) (hR : wqJ9_floorDiv_f86c9 k a0 a1 R) : wqJ9_floorDiv_f86c9 k a0 a1 (fun r => Q r ∧ R r) := (wkJ9_floorDiv_f86c9j Q R k).1 _ _ hQ hR
theorem wiJ9_floorDiv_f86c9 {k : Nat} {a0 : Int64} {a1 : Int64} {Q R S : Int64 → Prop} (hQ : wqJ9_floorDiv_f86c9 k a0 a1 Q) (hR : wqJ9_floorDiv_f86c9 k a0 a1 R) (f : ∀ r, Q r → R r → S r) : wqJ9_floorDiv_f86c9 k a0 a1 S := wmJ9_floorDiv_f86c9 (Nat.le_refl k) (fun r h => f r h.1 h.2) (wjJ9_floorDiv_f86c9 hQ hR)
set_option maxHeartbeats 4000000 in
set_option maxRecDepth 100000 in
theorem wkX5_nearestj (Q R : Int64 → Prop) : ∀ k : Nat, (∀ (li : Nat → Int32) (lj : Nat → Int64), wpX5_nearest k 0 li lj Q → wpX5_nearest k 0 li lj R → wpX5_nearest k 0 li lj (fun r => Q r ∧ R r)) := by
  intro k
  induction k with
  | zero => exact fun _ _ hR _ => False.elim hR
  | succ k ih =>
    intro li lj hQ hR
    have hQ : wbX5_nearest_0 (wpX5_nearest k) k li lj Q := hQ
    have hR : wbX5_nearest_0 (wpX5_nearest k) k li lj R := hR
    show wbX5_nearest_0 (wpX5_nearest k) k li lj (fun r => Q r ∧ R r)
    unfold wbX5_nearest_0 at hQ hR ⊢
    exact fun x1 e1 => ⟨fun c2 => fun x3 e3 => fun x4 e4 => fun x5 e5 => fun x6 e6 => wiJ9_floorDiv_f86c9 ((((((hQ x1 e1).1 c2) x3 e3) x4 e4) x5 e5) x6 e6) ((((((hR x1 e1).1 c2) x3 e3) x4 e4) x5 e5) x6 e6) (fun y7_0 h7 i7 => fun x8 e8 => ⟨fun c9 => ⟨((h7 x8 e8).1 c9), ((i7 x8 e8).1 c9)⟩, fun c10 => fun x11 e11 => ⟨(((h7 x8 e8).2 c10) x11 e11), (((i7 x8 e8).2 c10) x11 e11)⟩⟩), fun c12 => ⟨((hQ x1 e1).2 c12), ((hR x1 e1).2 c12)⟩⟩
theorem wjX5_nearest {k : Nat} {a0 : Int64} {a1 : Int64} {Q R : Int64 → Prop} (hQ : wqX5_nearest k a0 a1 Q) (hR : wqX5_nearest k a0 a1 R) : wqX5_nearest k a0 a1 (fun r => Q r ∧ R r) := (wkX5_nearestj Q R k) _ _ hQ hR
theorem wiX5_nearest {k : Nat} {a0 : Int64} {a1 : Int64} {Q R S : Int64 → Prop} (hQ : wqX5_nearest k a0 a1 Q) (hR : wqX5_nearest k a0 a1 R) (f : ∀ r, Q r → R r → S r) : wqX5_nearest k a0 a1 S := wmX5_nearest (Nat.le_refl k) (fun r h => f r h.1 h.2) (wjX5_nearest hQ hR)
set_option maxHeartbeats 4000000 in
set_option maxRecDepth 100000 in
theorem wkX5_reduceRowsj (Q R : Int32 → XT → Prop) : ∀ k : Nat, (∀ (t : XT) (li : Nat → Int32) (lj : Nat → Int64), wpX5_reduceRows k 0 t li lj Q → wpX5_reduceRows k 0 t li lj R → wpX5_reduceRows k 0 t li lj (fun r t => Q r t ∧ R r t)) ∧ (∀ (t : XT) (li : Nat → Int32) (lj : Nat → Int64), wpX5_reduceRows k 1 t li lj Q → wpX5_reduceRows k 1 t li lj R → wpX5_reduceRows k 1 t li lj (fun r t => Q r t ∧ R r t)) ∧ (∀ (t : XT) (li : Nat → Int32) (lj : Nat → Int64), wpX5_reduceRows k 2 t li lj Q → wpX5_reduceRows k 2 t li lj R → wpX5_reduceRows k 2 t li lj (fun r t => Q r t ∧ R r t)) ∧ (∀ (t : XT) (li : Nat → Int32) (lj : Nat → Int64), wpX5_reduceRows k 3 t li lj Q → wpX5_reduceRows k 3 t li lj R → wpX5_reduceRows k 3 t li lj (fun r t => Q r t ∧ R r t)) ∧ (∀ (t : XT) (li : Nat → Int32) (lj : Nat → Int64), wpX5_reduceRows k 4 t li lj Q → wpX5_reduceRows k 4 t li lj R → wpX5_reduceRows k 4 t li lj (fun r t => Q r t ∧ R r t)) ∧ (∀ (t : XT) (li : Nat → Int32) (lj : Nat → Int64), wpX5_reduceRows k 5 t li lj Q → wpX5_reduceRows k 5 t li lj R → wpX5_reduceRows k 5 t li lj (fun r t => Q r t ∧ R r t)) := by
  intro k
  induction k with
  | zero => exact ⟨fun _ _ _ hR _ => False.elim hR, fun _ _ _ hR _ => False.elim hR, fun _ _ _ hR _ => False.elim hR, fun _ _ _ hR _ => False.elim hR, fun _ _ _ hR _ => False.elim hR, fun _ _ _ hR _ => False.elim hR⟩
  | succ k ih =>
    refine ⟨?_, ?_, ?_, ?_, ?_, ?_⟩
    · intro t li lj hQ hR
      have hQ : wbX5_reduceRows_0 (wpX5_reduceRows k) k t li lj Q := hQ
      have hR : wbX5_reduceRows_0 (wpX5_reduceRows k) k t li lj R := hR
      show wbX5_reduceRows_0 (wpX5_reduceRows k) k t li lj (fun r t => Q r t ∧ R r t)
      unfold wbX5_reduceRows_0 at hQ hR ⊢
      exact fun x1 e1 => ih.2.1 _ _ _ (hQ x1 e1) (hR x1 e1)
    · intro t li lj hQ hR
      have hQ : wbX5_reduceRows_1 (wpX5_reduceRows k) k t li lj Q := hQ
      have hR : wbX5_reduceRows_1 (wpX5_reduceRows k) k t li lj R := hR
      show wbX5_reduceRows_1 (wpX5_reduceRows k) k t li lj (fun r t => Q r t ∧ R r t)
      unfold wbX5_reduceRows_1 at hQ hR ⊢
      exact ⟨fun c1 => ⟨(hQ.1 c1).1, ⟨(hQ.1 c1).2, (hR.1 c1).2⟩⟩, fun c2 => fun x3 e3 => fun x4 e4 => ⟨(((hQ.2 c2) x3 e3) x4 e4).1, fun x5 e5 => fun x6 e6 => fun x7 e7 => ⟨((((((hQ.2 c2) x3 e3) x4 e4).2 x5 e5) x6 e6) x7 e7).1, fun x8 e8 => wiX5_nearest (((((((hQ.2 c2) x3 e3) x4 e4).2 x5 e5) x6 e6) x7 e7).2 x8 e8) (((((((hR.2 c2) x3 e3) x4 e4).2 x5 e5) x6 e6) x7 e7).2 x8 e8) (fun y9_0 h9 i9 => ih.2.2.1 _ _ _ h9 i9)⟩⟩⟩
    · intro t li lj hQ hR
      have hQ : wbX5_reduceRows_2 (wpX5_reduceRows k) k t li lj Q := hQ
      have hR : wbX5_reduceRows_2 (wpX5_reduceRows k) k t li lj R := hR
      show wbX5_reduceRows_2 (wpX5_reduceRows k) k t li lj (fun r t => Q r t ∧ R r t)
      unfold wbX5_reduceRows_2 at hQ hR ⊢
      exact ⟨fun c1 => ih.2.2.2.1 _ _ _ (hQ.1 c1) (hR.1 c1), fun c2 => fun x3 e3 => ⟨fun c4 => ih.2.2.2.1 _ _ _ (((hQ.2 c2) x3 e3).1 c4) (((hR.2 c2) x3 e3).1 c4), fun c5 => fun x6 e6 => fun x7 e7 => ⟨(((((hQ.2 c2) x3 e3).2 c5) x6 e6) x7 e7).1, fun x8 e8 => fun x9 e9 => fun x10 e10 => ⟨((((((((hQ.2 c2) x3 e3).2 c5) x6 e6) x7 e7).2 x8 e8) x9 e9) x10 e10).1, fun x11 e11 => fun x12 e12 => fun x13 e13 => wiX5_remainder (((((((((((hQ.2 c2) x3 e3).2 c5) x6 e6) x7 e7).2 x8 e8) x9 e9) x10 e10).2 x11 e11) x12 e12) x13 e13) (((((((((((hR.2 c2) x3 e3).2 c5) x6 e6) x7 e7).2 x8 e8) x9 e9) x10 e10).2 x11 e11) x12 e12) x13 e13) (fun y14_0 y14_1 h14 i14 => ⟨h14.1, fun x15 e15 => fun x16 e16 => ih.2.2.1 _ _ _ ((h14.2 x15 e15) x16 e16) ((i14.2 x15 e15) x16 e16)⟩)⟩⟩⟩⟩
    · intro t li lj hQ hR
      have hQ : wbX5_reduceRows_3 (wpX5_reduceRows k) k t li lj Q := hQ
      have hR : wbX5_reduceRows_3 (wpX5_reduceRows k) k t li lj R := hR
      show wbX5_reduceRows_3 (wpX5_reduceRows k) k t li lj (fun r t => Q r t ∧ R r t)
      unfold wbX5_reduceRows_3 at hQ hR ⊢
      exact ⟨fun c1 => ih.2.2.2.2.1 _ _ _ (hQ.1 c1) (hR.1 c1), fun c2 => fun x3 e3 => fun x4 e4 => ⟨(((hQ.2 c2) x3 e3) x4 e4).1, fun x5 e5 => fun x6 e6 => ⟨fun c7 => ih.2.2.2.2.1 _ _ _ ((((((hQ.2 c2) x3 e3) x4 e4).2 x5 e5) x6 e6).1 c7) ((((((hR.2 c2) x3 e3) x4 e4).2 x5 e5) x6 e6).1 c7), fun c8 => ih.2.2.2.2.2 _ _ _ ((((((hQ.2 c2) x3 e3) x4 e4).2 x5 e5) x6 e6).2 c8) ((((((hR.2 c2) x3 e3) x4 e4).2 x5 e5) x6 e6).2 c8)⟩⟩⟩
    · intro t li lj hQ hR
      have hQ : wbX5_reduceRows_4 (wpX5_reduceRows k) k t li lj Q := hQ
      have hR : wbX5_reduceRows_4 (wpX5_reduceRows k) k t li lj R := hR
      show wbX5_reduceRows_4 (wpX5_reduceRows k) k t li lj (fun r t => Q r t ∧ R r t)
      unfold wbX5_reduceRows_4 at hQ hR ⊢
      exact ih.2.2.2.2.2 _ _ _ hQ hR
    · intro t li lj hQ hR
      have hQ : wbX5_reduceRows_5 (wpX5_reduceRows k) k t li lj Q := hQ
      have hR : wbX5_reduceRows_5 (wpX5_reduceRows k) k t li lj R := hR
      show wbX5_reduceRows_5 (wpX5_reduceRows k) k t li lj (fun r t => Q r t ∧ R r t)
      unfold wbX5_reduceRows_5 at hQ hR ⊢
      exact fun x1 e1 => ih.2.1 _ _ _ (hQ x1 e1) (hR x1 e1)
theorem wjX5_reduceRows {k : Nat} {t : XT} {a1 : Int32} {Q R : Int32 → XT → Prop} (hQ : wqX5_reduceRows k t a1 Q) (hR : wqX5_reduceRows k t a1 R) : wqX5_reduceRows k t a1 (fun r t => Q r t ∧ R r t) := (wkX5_reduceRowsj Q R k).1 t _ _ hQ hR
theorem wiX5_reduceRows {k : Nat} {t : XT} {a1 : Int32} {Q R S : Int32 → XT → Prop} (hQ : wqX5_reduceRows k t a1 Q) (hR : wqX5_reduceRows k t a1 R) (f : ∀ r t, Q r t → R r t → S r t) : wqX5_reduceRows k t a1 S := wmX5_reduceRows (Nat.le_refl k) (fun r t h => f r t h.1 h.2) (wjX5_reduceRows hQ hR)
set_option maxHeartbeats 4000000 in
set_option maxRecDepth 100000 in
theorem wkX5_reduceColumnsj (Q R : Int32 → XT → Prop) : ∀ k : Nat, (∀ (t : XT) (li : Nat → Int32) (lj : Nat → Int64), wpX5_reduceColumns k 0 t li lj Q → wpX5_reduceColumns k 0 t li lj R → wpX5_reduceColumns k 0 t li lj (fun r t => Q r t ∧ R r t)) ∧ (∀ (t : XT) (li : Nat → Int32) (lj : Nat → Int64), wpX5_reduceColumns k 1 t li lj Q → wpX5_reduceColumns k 1 t li lj R → wpX5_reduceColumns k 1 t li lj (fun r t => Q r t ∧ R r t)) ∧ (∀ (t : XT) (li : Nat → Int32) (lj : Nat → Int64), wpX5_reduceColumns k 2 t li lj Q → wpX5_reduceColumns k 2 t li lj R → wpX5_reduceColumns k 2 t li lj (fun r t => Q r t ∧ R r t)) ∧ (∀ (t : XT) (li : Nat → Int32) (lj : Nat → Int64), wpX5_reduceColumns k 3 t li lj Q → wpX5_reduceColumns k 3 t li lj R → wpX5_reduceColumns k 3 t li lj (fun r t => Q r t ∧ R r t)) ∧ (∀ (t : XT) (li : Nat → Int32) (lj : Nat → Int64), wpX5_reduceColumns k 4 t li lj Q → wpX5_reduceColumns k 4 t li lj R → wpX5_reduceColumns k 4 t li lj (fun r t => Q r t ∧ R r t)) ∧ (∀ (t : XT) (li : Nat → Int32) (lj : Nat → Int64), wpX5_reduceColumns k 5 t li lj Q → wpX5_reduceColumns k 5 t li lj R → wpX5_reduceColumns k 5 t li lj (fun r t => Q r t ∧ R r t)) := by
  intro k
  induction k with
  | zero => exact ⟨fun _ _ _ hR _ => False.elim hR, fun _ _ _ hR _ => False.elim hR, fun _ _ _ hR _ => False.elim hR, fun _ _ _ hR _ => False.elim hR, fun _ _ _ hR _ => False.elim hR, fun _ _ _ hR _ => False.elim hR⟩
  | succ k ih =>
    refine ⟨?_, ?_, ?_, ?_, ?_, ?_⟩
    · intro t li lj hQ hR
      have hQ : wbX5_reduceColumns_0 (wpX5_reduceColumns k) k t li lj Q := hQ
      have hR : wbX5_reduceColumns_0 (wpX5_reduceColumns k) k t li lj R := hR
      show wbX5_reduceColumns_0 (wpX5_reduceColumns k) k t li lj (fun r t => Q r t ∧ R r t)
      unfold wbX5_reduceColumns_0 at hQ hR ⊢
      exact fun x1 e1 => ih.2.1 _ _ _ (hQ x1 e1) (hR x1 e1)
    · intro t li lj hQ hR
      have hQ : wbX5_reduceColumns_1 (wpX5_reduceColumns k) k t li lj Q := hQ
      have hR : wbX5_reduceColumns_1 (wpX5_reduceColumns k) k t li lj R := hR
      show wbX5_reduceColumns_1 (wpX5_reduceColumns k) k t li lj (fun r t => Q r t ∧ R r t)
      unfold wbX5_reduceColumns_1 at hQ hR ⊢
      exact ⟨fun c1 => ⟨(hQ.1 c1).1, ⟨(hQ.1 c1).2, (hR.1 c1).2⟩⟩, fun c2 => fun x3 e3 => fun x4 e4 => ⟨(((hQ.2 c2) x3 e3) x4 e4).1, fun x5 e5 => fun x6 e6 => fun x7 e7 => ⟨((((((hQ.2 c2) x3 e3) x4 e4).2 x5 e5) x6 e6) x7 e7).1, fun x8 e8 => wiX5_nearest (((((((hQ.2 c2) x3 e3) x4 e4).2 x5 e5) x6 e6) x7 e7).2 x8 e8) (((((((hR.2 c2) x3 e3) x4 e4).2 x5 e5) x6 e6) x7 e7).2 x8 e8) (fun y9_0 h9 i9 => ih.2.2.1 _ _ _ h9 i9)⟩⟩⟩
    · intro t li lj hQ hR
      have hQ : wbX5_reduceColumns_2 (wpX5_reduceColumns k) k t li lj Q := hQ
      have hR : wbX5_reduceColumns_2 (wpX5_reduceColumns k) k t li lj R := hR
      show wbX5_reduceColumns_2 (wpX5_reduceColumns k) k t li lj (fun r t => Q r t ∧ R r t)
      unfold wbX5_reduceColumns_2 at hQ hR ⊢
      exact ⟨fun c1 => ih.2.2.2.1 _ _ _ (hQ.1 c1) (hR.1 c1), fun c2 => fun x3 e3 => ⟨fun c4 => ih.2.2.2.1 _ _ _ (((hQ.2 c2) x3 e3).1 c4) (((hR.2 c2) x3 e3).1 c4), fun c5 => fun x6 e6 => fun x7 e7 => ⟨(((((hQ.2 c2) x3 e3).2 c5) x6 e6) x7 e7).1, fun x8 e8 => fun x9 e9 => fun x10 e10 => ⟨((((((((hQ.2 c2) x3 e3).2 c5) x6 e6) x7 e7).2 x8 e8) x9 e9) x10 e10).1, fun x11 e11 => fun x12 e12 => fun x13 e13 => wiX5_remainder (((((((((((hQ.2 c2) x3 e3).2 c5) x6 e6) x7 e7).2 x8 e8) x9 e9) x10 e10).2 x11 e11) x12 e12) x13 e13) (((((((((((hR.2 c2) x3 e3).2 c5) x6 e6) x7 e7).2 x8 e8) x9 e9) x10 e10).2 x11 e11) x12 e12) x13 e13) (fun y14_0 y14_1 h14 i14 => ⟨h14.1, fun x15 e15 => fun x16 e16 => ih.2.2.1 _ _ _ ((h14.2 x15 e15) x16 e16) ((i14.2 x15 e15) x16 e16)⟩)⟩⟩⟩⟩
    · intro t li lj hQ hR
      have hQ : wbX5_reduceColumns_3 (wpX5_reduceColumns k) k t li lj Q := hQ
      have hR : wbX5_reduceColumns_3 (wpX5_reduceColumns k) k t li lj R := hR
      show wbX5_reduceColumns_3 (wpX5_reduceColumns k) k t li lj (fun r t => Q r t ∧ R r t)
      unfold wbX5_reduceColumns_3 at hQ hR ⊢
      exact ⟨fun c1 => ih.2.2.2.2.1 _ _ _ (hQ.1 c1) (hR.1 c1), fun c2 => fun x3 e3 => fun x4 e4 => ⟨(((hQ.2 c2) x3 e3) x4 e4).1, fun x5 e5 => fun x6 e6 => ⟨fun c7 => ih.2.2.2.2.1 _ _ _ ((((((hQ.2 c2) x3 e3) x4 e4).2 x5 e5) x6 e6).1 c7) ((((((hR.2 c2) x3 e3) x4 e4).2 x5 e5) x6 e6).1 c7), fun c8 => ih.2.2.2.2.2 _ _ _ ((((((hQ.2 c2) x3 e3) x4 e4).2 x5 e5) x6 e6).2 c8) ((((((hR.2 c2) x3 e3) x4 e4).2 x5 e5) x6 e6).2 c8)⟩⟩⟩
    · intro t li lj hQ hR
      have hQ : wbX5_reduceColumns_4 (wpX5_reduceColumns k) k t li lj Q := hQ
      have hR : wbX5_reduceColumns_4 (wpX5_reduceColumns k) k t li lj R := hR
      show wbX5_reduceColumns_4 (wpX5_reduceColumns k) k t li lj (fun r t => Q r t ∧ R r t)
      unfold wbX5_reduceColumns_4 at hQ hR ⊢
      exact ih.2.2.2.2.2 _ _ _ hQ hR
    · intro t li lj hQ hR
      have hQ : wbX5_reduceColumns_5 (wpX5_reduceColumns k) k t li lj Q := hQ
      have hR : wbX5_reduceColumns_5 (wpX5_reduceColumns k) k t li lj R := hR
      show wbX5_reduceColumns_5 (wpX5_reduceColumns k) k t li lj (fun r t => Q r t ∧ R r t)
      unfold wbX5_reduceColumns_5 at hQ hR ⊢
      exact fun x1 e1 => ih.2.1 _ _ _ (hQ x1 e1) (hR x1 e1)
theorem wjX5_reduceColumns {k : Nat} {t : XT} {a1 : Int32} {Q R : Int32 → XT → Prop} (hQ : wqX5_reduceColumns k t a1 Q) (hR : wqX5_reduceColumns k t a1 R) : wqX5_reduceColumns k t a1 (fun r t => Q r t ∧ R r t) := (wkX5_reduceColumnsj Q R k).1 t _ _ hQ hR
theorem wiX5_reduceColumns {k : Nat} {t : XT} {a1 : Int32} {Q R S : Int32 → XT → Prop} (hQ : wqX5_reduceColumns k t a1 Q) (hR : wqX5_reduceColumns k t a1 R) (f : ∀ r t, Q r t → R r t → S r t) : wqX5_reduceColumns k t a1 S := wmX5_reduceColumns (Nat.le_refl k) (fun r t h => f r t h.1 h.2) (wjX5_reduceColumns hQ hR)
set_option maxHeartbeats 4000000 in
set_option maxRecDepth 100000 in
theorem wkX5_gcdj (Q R : Int64 → Prop) : ∀ k : Nat, (∀ (li : Nat → Int32) (lj : Nat → Int64), wpX5_gcd k 0 li lj Q → wpX5_gcd k 0 li lj R → wpX5_gcd k 0 li lj (fun r => Q r ∧ R r)) ∧ (∀ (li : Nat → Int32) (lj : Nat → Int64), wpX5_gcd k 1 li lj Q → wpX5_gcd k 1 li lj R → wpX5_gcd k 1 li lj (fun r => Q r ∧ R r)) ∧ (∀ (li : Nat → Int32) (lj : Nat → Int64), wpX5_gcd k 2 li lj Q → wpX5_gcd k 2 li lj R → wpX5_gcd k 2 li lj (fun r => Q r ∧ R r)) := by
  intro k
  induction k with
  | zero => exact ⟨fun _ _ hR _ => False.elim hR, fun _ _ hR _ => False.elim hR, fun _ _ hR _ => False.elim hR⟩
  | succ k ih =>
    refine ⟨?_, ?_, ?_⟩
    · intro li lj hQ hR
      have hQ : wbX5_gcd_0 (wpX5_gcd k) k li lj Q := hQ
      have hR : wbX5_gcd_0 (wpX5_gcd k) k li lj R := hR
      show wbX5_gcd_0 (wpX5_gcd k) k li lj (fun r => Q r ∧ R r)
      unfold wbX5_gcd_0 at hQ hR ⊢
      exact fun x1 e1 => fun x2 e2 => ih.2.1 _ _ ((hQ x1 e1) x2 e2) ((hR x1 e1) x2 e2)
    · intro li lj hQ hR
      have hQ : wbX5_gcd_1 (wpX5_gcd k) k li lj Q := hQ
      have hR : wbX5_gcd_1 (wpX5_gcd k) k li lj R := hR
      show wbX5_gcd_1 (wpX5_gcd k) k li lj (fun r => Q r ∧ R r)
      unfold wbX5_gcd_1 at hQ hR ⊢
      exact ⟨fun c1 => ih.2.2 _ _ (hQ.1 c1) (hR.1 c1), fun c2 => fun x3 e3 => ⟨fun c4 => ih.2.2 _ _ (((hQ.2 c2) x3 e3).1 c4) (((hR.2 c2) x3 e3).1 c4), fun c5 => ⟨(((hQ.2 c2) x3 e3).2 c5).1, fun x6 e6 => fun x7 e7 => ih.2.1 _ _ (((((hQ.2 c2) x3 e3).2 c5).2 x6 e6) x7 e7) (((((hR.2 c2) x3 e3).2 c5).2 x6 e6) x7 e7)⟩⟩⟩
    · intro li lj hQ hR
      have hQ : wbX5_gcd_2 (wpX5_gcd k) k li lj Q := hQ
      have hR : wbX5_gcd_2 (wpX5_gcd k) k li lj R := hR
      show wbX5_gcd_2 (wpX5_gcd k) k li lj (fun r => Q r ∧ R r)
      unfold wbX5_gcd_2 at hQ hR ⊢
      exact ⟨hQ, hR⟩
theorem wjX5_gcd {k : Nat} {a0 : Int64} {a1 : Int64} {Q R : Int64 → Prop} (hQ : wqX5_gcd k a0 a1 Q) (hR : wqX5_gcd k a0 a1 R) : wqX5_gcd k a0 a1 (fun r => Q r ∧ R r) := (wkX5_gcdj Q R k).1 _ _ hQ hR
theorem wiX5_gcd {k : Nat} {a0 : Int64} {a1 : Int64} {Q R S : Int64 → Prop} (hQ : wqX5_gcd k a0 a1 Q) (hR : wqX5_gcd k a0 a1 R) (f : ∀ r, Q r → R r → S r) : wqX5_gcd k a0 a1 S := wmX5_gcd (Nat.le_refl k) (fun r h => f r h.1 h.2) (wjX5_gcd hQ hR)
set_option maxHeartbeats 4000000 in
set_option maxRecDepth 100000 in
theorem wkX5_clearCornerj (Q R : Int64 → XT → Prop) : ∀ k : Nat, (∀ (t : XT) (li : Nat → Int32) (lj : Nat → Int64), wpX5_clearCorner k 0 t li lj Q → wpX5_clearCorner k 0 t li lj R → wpX5_clearCorner k 0 t li lj (fun r t => Q r t ∧ R r t)) ∧ (∀ (t : XT) (li : Nat → Int32) (lj : Nat → Int64), wpX5_clearCorner k 1 t li lj Q → wpX5_clearCorner k 1 t li lj R → wpX5_clearCorner k 1 t li lj (fun r t => Q r t ∧ R r t)) ∧ (∀ (t : XT) (li : Nat → Int32) (lj : Nat → Int64), wpX5_clearCorner k 2 t li lj Q → wpX5_clearCorner k 2 t li lj R → wpX5_clearCorner k 2 t li lj (fun r t => Q r t ∧ R r t)) ∧ (∀ (t : XT) (li : Nat → Int32) (lj : Nat → Int64), wpX5_clearCorner k 3 t li lj Q → wpX5_clearCorner k 3 t li lj R → wpX5_clearCorner k 3 t li lj (fun r t => Q r t ∧ R r t)) := by
  intro k
  induction k with
  | zero => exact ⟨fun _ _ _ hR _ => False.elim hR, fun _ _ _ hR _ => False.elim hR, fun _ _ _ hR _ => False.elim hR, fun _ _ _ hR _ => False.elim hR⟩
  | succ k ih =>
    refine ⟨?_, ?_, ?_, ?_⟩
    · intro t li lj hQ hR
      have hQ : wbX5_clearCorner_0 (wpX5_clearCorner k) k t li lj Q := hQ
      have hR : wbX5_clearCorner_0 (wpX5_clearCorner k) k t li lj R := hR
      show wbX5_clearCorner_0 (wpX5_clearCorner k) k t li lj (fun r t => Q r t ∧ R r t)
      unfold wbX5_clearCorner_0 at hQ hR ⊢
      exact ih.2.1 _ _ _ hQ hR
    · intro t li lj hQ hR
      have hQ : wbX5_clearCorner_1 (wpX5_clearCorner k) k t li lj Q := hQ
      have hR : wbX5_clearCorner_1 (wpX5_clearCorner k) k t li lj R := hR
      show wbX5_clearCorner_1 (wpX5_clearCorner k) k t li lj (fun r t => Q r t ∧ R r t)
      unfold wbX5_clearCorner_1 at hQ hR ⊢
      exact ⟨fun c1 => ⟨(hQ.1 c1), (hR.1 c1)⟩, fun c2 => wiX5_leastCell (hQ.2 c2) (hR.2 c2) (fun y3_0 y3_1 h3 i3 => ⟨fun c4 => ih.2.2.1 _ _ _ (h3.1 c4) (i3.1 c4), fun c5 => ⟨fun c6 => ⟨((h3.2 c5).1 c6).1, fun x7 e7 => wiX5_swapRows_c30 (((h3.2 c5).1 c6).2 x7 e7) (((i3.2 c5).1 c6).2 x7 e7) (fun y8_0 h8 i8 => ⟨h8.1, fun x9 e9 => wiX5_swapColumns (h8.2 x9 e9) (i8.2 x9 e9) (fun y10_0 h10 i10 => wiX5_reduceRows h10 i10 (fun y11_0 y11_1 h11 i11 => wiX5_reduceColumns h11 i11 (fun y12_0 y12_1 h12 i12 => ⟨fun c13 => ih.2.2.2 _ _ _ (h12.1 c13) (i12.1 c13), fun c14 => ⟨fun c15 => ih.2.2.2 _ _ _ ((h12.2 c14).1 c15) ((i12.2 c14).1 c15), fun c16 => fun x17 e17 => fun x18 e18 => ⟨((((h12.2 c14).2 c16) x17 e17) x18 e18).1, fun x19 e19 => wiX5_gcd (((((h12.2 c14).2 c16) x17 e17) x18 e18).2 x19 e19) (((((i12.2 c14).2 c16) x17 e17) x18 e18).2 x19 e19) (fun y20_0 h20 i20 => ⟨h20, i20⟩)⟩⟩⟩)))⟩)⟩, fun c21 => ih.2.2.1 _ _ _ ((h3.2 c5).2 c21) ((i3.2 c5).2 c21)⟩⟩)⟩
    · intro t li lj hQ hR
      have hQ : wbX5_clearCorner_2 (wpX5_clearCorner k) k t li lj Q := hQ
      have hR : wbX5_clearCorner_2 (wpX5_clearCorner k) k t li lj R := hR
      show wbX5_clearCorner_2 (wpX5_clearCorner k) k t li lj (fun r t => Q r t ∧ R r t)
      unfold wbX5_clearCorner_2 at hQ hR ⊢
      exact ⟨hQ, hR⟩
    · intro t li lj hQ hR
      have hQ : wbX5_clearCorner_3 (wpX5_clearCorner k) k t li lj Q := hQ
      have hR : wbX5_clearCorner_3 (wpX5_clearCorner k) k t li lj R := hR
      show wbX5_clearCorner_3 (wpX5_clearCorner k) k t li lj (fun r t => Q r t ∧ R r t)
      unfold wbX5_clearCorner_3 at hQ hR ⊢
      exact fun x1 e1 => ih.2.1 _ _ _ (hQ x1 e1) (hR x1 e1)
theorem wjX5_clearCorner {k : Nat} {t : XT} {a1 : Int32} {Q R : Int64 → XT → Prop} (hQ : wqX5_clearCorner k t a1 Q) (hR : wqX5_clearCorner k t a1 R) : wqX5_clearCorner k t a1 (fun r t => Q r t ∧ R r t) := (wkX5_clearCornerj Q R k).1 t _ _ hQ hR
theorem wiX5_clearCorner {k : Nat} {t : XT} {a1 : Int32} {Q R S : Int64 → XT → Prop} (hQ : wqX5_clearCorner k t a1 Q) (hR : wqX5_clearCorner k t a1 R) (f : ∀ r t, Q r t → R r t → S r t) : wqX5_clearCorner k t a1 S := wmX5_clearCorner (Nat.le_refl k) (fun r t h => f r t h.1 h.2) (wjX5_clearCorner hQ hR)
