set_option maxHeartbeats 4000000 in
set_option maxRecDepth 100000 in
theorem wkX12_squareOfj (Q R : Int64 → XT → Prop) : ∀ k : Nat, (∀ (t : XT) (li : Nat → Int32) (lj : Nat → Int64), wpX12_squareOf k 0 t li lj Q → wpX12_squareOf k 0 t li lj R → wpX12_squareOf k 0 t li lj (fun r t => Q r t ∧ R r t)) ∧ (∀ (t : XT) (li : Nat → Int32) (lj : Nat → Int64), wpX12_squareOf k 1 t li lj Q → wpX12_squareOf k 1 t li lj R → wpX12_squareOf k 1 t li lj (fun r t => Q r t ∧ R r t)) ∧ (∀ (t : XT) (li : Nat → Int32) (lj : Nat → Int64), wpX12_squareOf k 2 t li lj Q → wpX12_squareOf k 2 t li lj R → wpX12_squareOf k 2 t li lj (fun r t => Q r t ∧ R r t)) := by
  intro k
  induction k with
  | zero => exact ⟨fun _ _ _ hR _ => False.elim hR, fun _ _ _ hR _ => False.elim hR, fun _ _ _ hR _ => False.elim hR⟩
  | succ k ih =>
    refine ⟨?_, ?_, ?_⟩
    · intro t li lj hQ hR
      have hQ : wbX12_squareOf_0 (wpX12_squareOf k) k t li lj Q := hQ
      have hR : wbX12_squareOf_0 (wpX12_squareOf k) k t li lj R := hR
      show wbX12_squareOf_0 (wpX12_squareOf k) k t li lj (fun r t => Q r t ∧ R r t)
      unfold wbX12_squareOf_0 at hQ hR ⊢
      exact ih.2.1 _ _ _ hQ hR
    · intro t li lj hQ hR
      have hQ : wbX12_squareOf_1 (wpX12_squareOf k) k t li lj Q := hQ
      have hR : wbX12_squareOf_1 (wpX12_squareOf k) k t li lj R := hR
      show wbX12_squareOf_1 (wpX12_squareOf k) k t li lj (fun r t => Q r t ∧ R r t)
      unfold wbX12_squareOf_1 at hQ hR ⊢
      exact ⟨fun c1 => ⟨(hQ.1 c1), (hR.1 c1)⟩, fun c2 => wiX12_areEnds (hQ.2 c2) (hR.2 c2) (fun y3_0 y3_1 h3 i3 => ⟨fun c4 => ih.2.2 _ _ _ (h3.1 c4) (i3.1 c4), fun c5 => wiX12_areEnds (h3.2 c5) (i3.2 c5) (fun y6_0 y6_1 h6 i6 => ⟨fun c7 => ih.2.2 _ _ _ (h6.1 c7) (i6.1 c7), fun c8 => wiX12_incidenceOf (h6.2 c8) (i6.2 c8) (fun y9_0 y9_1 h9 i9 => wiX12_incidenceOf h9 i9 (fun y10_0 y10_1 h10 i10 => fun x11 e11 => fun x12 e12 => ih.2.2 _ _ _ ((h10 x11 e11) x12 e12) ((i10 x11 e11) x12 e12)))⟩)⟩)⟩
    · intro t li lj hQ hR
      have hQ : wbX12_squareOf_2 (wpX12_squareOf k) k t li lj Q := hQ
      have hR : wbX12_squareOf_2 (wpX12_squareOf k) k t li lj R := hR
      show wbX12_squareOf_2 (wpX12_squareOf k) k t li lj (fun r t => Q r t ∧ R r t)
      unfold wbX12_squareOf_2 at hQ hR ⊢
      exact fun x1 e1 => ih.2.1 _ _ _ (hQ x1 e1) (hR x1 e1)
theorem wjX12_squareOf {k : Nat} {t : XT} {a1 : Int32} {a2 : Int32} {Q R : Int64 → XT → Prop} (hQ : wqX12_squareOf k t a1 a2 Q) (hR : wqX12_squareOf k t a1 a2 R) : wqX12_squareOf k t a1 a2 (fun r t => Q r t ∧ R r t) := (wkX12_squareOfj Q R k).1 t _ _ hQ hR
theorem wiX12_squareOf {k : Nat} {t : XT} {a1 : Int32} {a2 : Int32} {Q R S : Int64 → XT → Prop} (hQ : wqX12_squareOf k t a1 a2 Q) (hR : wqX12_squareOf k t a1 a2 R) (f : ∀ r t, Q r t → R r t → S r t) : wqX12_squareOf k t a1 a2 S := wmX12_squareOf (Nat.le_refl k) (fun r t h => f r t h.1 h.2) (wjX12_squareOf hQ hR)
set_option maxHeartbeats 4000000 in
set_option maxRecDepth 100000 in
theorem wkX12_squaresj (Q R : Int32 → XT → Prop) : ∀ k : Nat, (∀ (t : XT) (li : Nat → Int32) (lj : Nat → Int64), wpX12_squares k 0 t li lj Q → wpX12_squares k 0 t li lj R → wpX12_squares k 0 t li lj (fun r t => Q r t ∧ R r t)) ∧ (∀ (t : XT) (li : Nat → Int32) (lj : Nat → Int64), wpX12_squares k 1 t li lj Q → wpX12_squares k 1 t li lj R → wpX12_squares k 1 t li lj (fun r t => Q r t ∧ R r t)) ∧ (∀ (t : XT) (li : Nat → Int32) (lj : Nat → Int64), wpX12_squares k 2 t li lj Q → wpX12_squares k 2 t li lj R → wpX12_squares k 2 t li lj (fun r t => Q r t ∧ R r t)) ∧ (∀ (t : XT) (li : Nat → Int32) (lj : Nat → Int64), wpX12_squares k 3 t li lj Q → wpX12_squares k 3 t li lj R → wpX12_squares k 3 t li lj (fun r t => Q r t ∧ R r t)) ∧ (∀ (t : XT) (li : Nat → Int32) (lj : Nat → Int64), wpX12_squares k 4 t li lj Q → wpX12_squares k 4 t li lj R → wpX12_squares k 4 t li lj (fun r t => Q r t ∧ R r t)) := by
  intro k
  induction k with
  | zero => exact ⟨fun _ _ _ hR _ => False.elim hR, fun _ _ _ hR _ => False.elim hR, fun _ _ _ hR _ => False.elim hR, fun _ _ _ hR _ => False.elim hR, fun _ _ _ hR _ => False.elim hR⟩
  | succ k ih =>
    refine ⟨?_, ?_, ?_, ?_, ?_⟩
    · intro t li lj hQ hR
      have hQ : wbX12_squares_0 (wpX12_squares k) k t li lj Q := hQ
      have hR : wbX12_squares_0 (wpX12_squares k) k t li lj R := hR
      show wbX12_squares_0 (wpX12_squares k) k t li lj (fun r t => Q r t ∧ R r t)
      unfold wbX12_squares_0 at hQ hR ⊢
      exact ih.2.1 _ _ _ hQ hR
    · intro t li lj hQ hR
      have hQ : wbX12_squares_1 (wpX12_squares k) k t li lj Q := hQ
      have hR : wbX12_squares_1 (wpX12_squares k) k t li lj R := hR
      show wbX12_squares_1 (wpX12_squares k) k t li lj (fun r t => Q r t ∧ R r t)
      unfold wbX12_squares_1 at hQ hR ⊢
      exact ⟨fun c1 => ⟨(hQ.1 c1), (hR.1 c1)⟩, fun c2 => ih.2.2.1 _ _ _ (hQ.2 c2) (hR.2 c2)⟩
    · intro t li lj hQ hR
      have hQ : wbX12_squares_2 (wpX12_squares k) k t li lj Q := hQ
      have hR : wbX12_squares_2 (wpX12_squares k) k t li lj R := hR
      show wbX12_squares_2 (wpX12_squares k) k t li lj (fun r t => Q r t ∧ R r t)
      unfold wbX12_squares_2 at hQ hR ⊢
      exact ⟨fun c1 => fun x2 e2 => ih.2.1 _ _ _ ((hQ.1 c1) x2 e2) ((hR.1 c1) x2 e2), fun c3 => wiX12_isCritical (hQ.2 c3) (hR.2 c3) (fun y4_0 y4_1 h4 i4 => ⟨fun c5 => ih.2.2.2.2 _ _ _ (h4.1 c5) (i4.1 c5), fun c6 => wiX12_isCritical (h4.2 c6) (i4.2 c6) (fun y7_0 y7_1 h7 i7 => ⟨fun c8 => ih.2.2.2.2 _ _ _ (h7.1 c8) (i7.1 c8), fun c9 => wiX12_dimOf (h7.2 c9) (i7.2 c9) (fun y10_0 y10_1 h10 i10 => wiX12_dimOf h10 i10 (fun y11_0 y11_1 h11 i11 => fun x12 e12 => ⟨fun c13 => ih.2.2.2.2 _ _ _ ((h11 x12 e12).1 c13) ((i11 x12 e12).1 c13), fun c14 => wiX12_squareOf ((h11 x12 e12).2 c14) ((i11 x12 e12).2 c14) (fun y15_0 y15_1 h15 i15 => fun x16 e16 => ⟨fun c17 => ih.2.2.2.1 _ _ _ ((h15 x16 e16).1 c17) ((i15 x16 e16).1 c17), fun c18 => ih.2.2.2.1 _ _ _ ((h15 x16 e16).2 c18) ((i15 x16 e16).2 c18)⟩)⟩))⟩)⟩)⟩
    · intro t li lj hQ hR
      have hQ : wbX12_squares_3 (wpX12_squares k) k t li lj Q := hQ
      have hR : wbX12_squares_3 (wpX12_squares k) k t li lj R := hR
      show wbX12_squares_3 (wpX12_squares k) k t li lj (fun r t => Q r t ∧ R r t)
      unfold wbX12_squares_3 at hQ hR ⊢
      exact wiX12_truth hQ hR (fun y1_0 h1 i1 => fun x2 e2 => ih.2.2.2.2 _ _ _ (h1 x2 e2) (i1 x2 e2))
    · intro t li lj hQ hR
      have hQ : wbX12_squares_4 (wpX12_squares k) k t li lj Q := hQ
      have hR : wbX12_squares_4 (wpX12_squares k) k t li lj R := hR
      show wbX12_squares_4 (wpX12_squares k) k t li lj (fun r t => Q r t ∧ R r t)
      unfold wbX12_squares_4 at hQ hR ⊢
      exact fun x1 e1 => ih.2.2.1 _ _ _ (hQ x1 e1) (hR x1 e1)
theorem wjX12_squares {k : Nat} {t : XT}  {Q R : Int32 → XT → Prop} (hQ : wqX12_squares k t  Q) (hR : wqX12_squares k t  R) : wqX12_squares k t  (fun r t => Q r t ∧ R r t) := (wkX12_squaresj Q R k).1 t _ _ hQ hR
theorem wiX12_squares {k : Nat} {t : XT}  {Q R S : Int32 → XT → Prop} (hQ : wqX12_squares k t  Q) (hR : wqX12_squares k t  R) (f : ∀ r t, Q r t → R r t → S r t) : wqX12_squares k t  S := wmX12_squares (Nat.le_refl k) (fun r t h => f r t h.1 h.2) (wjX12_squares hQ hR)
set_option maxHeartbeats 4000000 in
set_option maxRecDepth 100000 in
theorem wkX12_takesj (Q R : XT → Prop) : ∀ k : Nat, (∀ (t : XT) (li : Nat → Int32) (lj : Nat → Int64), wpX12_takes k 0 t li lj Q → wpX12_takes k 0 t li lj R → wpX12_takes k 0 t li lj (fun t => Q t ∧ R t)) ∧ (∀ (t : XT) (li : Nat → Int32) (lj : Nat → Int64), wpX12_takes k 1 t li lj Q → wpX12_takes k 1 t li lj R → wpX12_takes k 1 t li lj (fun t => Q t ∧ R t)) ∧ (∀ (t : XT) (li : Nat → Int32) (lj : Nat → Int64), wpX12_takes k 2 t li lj Q → wpX12_takes k 2 t li lj R → wpX12_takes k 2 t li lj (fun t => Q t ∧ R t)) := by
  intro k
  induction k with
  | zero => exact ⟨fun _ _ _ hR _ => False.elim hR, fun _ _ _ hR _ => False.elim hR, fun _ _ _ hR _ => False.elim hR⟩
  | succ k ih =>
    refine ⟨?_, ?_, ?_⟩
    · intro t li lj hQ hR
      have hQ : wbX12_takes_0 (wpX12_takes k) k t li lj Q := hQ
      have hR : wbX12_takes_0 (wpX12_takes k) k t li lj R := hR
      show wbX12_takes_0 (wpX12_takes k) k t li lj (fun t => Q t ∧ R t)
      unfold wbX12_takes_0 at hQ hR ⊢
      exact ih.2.1 _ _ _ hQ hR
    · intro t li lj hQ hR
      have hQ : wbX12_takes_1 (wpX12_takes k) k t li lj Q := hQ
      have hR : wbX12_takes_1 (wpX12_takes k) k t li lj R := hR
      show wbX12_takes_1 (wpX12_takes k) k t li lj (fun t => Q t ∧ R t)
      unfold wbX12_takes_1 at hQ hR ⊢
      exact ⟨fun c1 => ⟨(hQ.1 c1), (hR.1 c1)⟩, fun c2 => ⟨fun c3 => wiX12_isCritical ((hQ.2 c2).1 c3) ((hR.2 c2).1 c3) (fun y4_0 y4_1 h4 i4 => ih.2.2 _ _ _ h4 i4), fun c5 => ⟨((hQ.2 c2).2 c5).1, fun x6 e6 => ⟨fun c7 => ih.2.2 _ _ _ ((((hQ.2 c2).2 c5).2 x6 e6).1 c7) ((((hR.2 c2).2 c5).2 x6 e6).1 c7), fun c8 => ih.2.2 _ _ _ ((((hQ.2 c2).2 c5).2 x6 e6).2 c8) ((((hR.2 c2).2 c5).2 x6 e6).2 c8)⟩⟩⟩⟩
    · intro t li lj hQ hR
      have hQ : wbX12_takes_2 (wpX12_takes k) k t li lj Q := hQ
      have hR : wbX12_takes_2 (wpX12_takes k) k t li lj R := hR
      show wbX12_takes_2 (wpX12_takes k) k t li lj (fun t => Q t ∧ R t)
      unfold wbX12_takes_2 at hQ hR ⊢
      exact ⟨hQ.1, fun x1 e1 => fun x2 e2 => ih.2.1 _ _ _ ((hQ.2 x1 e1) x2 e2) ((hR.2 x1 e1) x2 e2)⟩
theorem wjX12_takes {k : Nat} {t : XT} {a1 : Int32} {Q R : XT → Prop} (hQ : wqX12_takes k t a1 Q) (hR : wqX12_takes k t a1 R) : wqX12_takes k t a1 (fun t => Q t ∧ R t) := (wkX12_takesj Q R k).1 t _ _ hQ hR
theorem wiX12_takes {k : Nat} {t : XT} {a1 : Int32} {Q R S : XT → Prop} (hQ : wqX12_takes k t a1 Q) (hR : wqX12_takes k t a1 R) (f : ∀ t, Q t → R t → S t) : wqX12_takes k t a1 S := wmX12_takes (Nat.le_refl k) (fun t h => f t h.1 h.2) (wjX12_takes hQ hR)
set_option maxHeartbeats 4000000 in
set_option maxRecDepth 100000 in
theorem wkX12_takenOfj (Q R : Int32 → XT → Prop) : ∀ k : Nat, (∀ (t : XT) (li : Nat → Int32) (lj : Nat → Int64), wpX12_takenOf k 0 t li lj Q → wpX12_takenOf k 0 t li lj R → wpX12_takenOf k 0 t li lj (fun r t => Q r t ∧ R r t)) ∧ (∀ (t : XT) (li : Nat → Int32) (lj : Nat → Int64), wpX12_takenOf k 1 t li lj Q → wpX12_takenOf k 1 t li lj R → wpX12_takenOf k 1 t li lj (fun r t => Q r t ∧ R r t)) ∧ (∀ (t : XT) (li : Nat → Int32) (lj : Nat → Int64), wpX12_takenOf k 2 t li lj Q → wpX12_takenOf k 2 t li lj R → wpX12_takenOf k 2 t li lj (fun r t => Q r t ∧ R r t)) ∧ (∀ (t : XT) (li : Nat → Int32) (lj : Nat → Int64), wpX12_takenOf k 3 t li lj Q → wpX12_takenOf k 3 t li lj R → wpX12_takenOf k 3 t li lj (fun r t => Q r t ∧ R r t)) := by
  intro k
  induction k with
  | zero => exact ⟨fun _ _ _ hR _ => False.elim hR, fun _ _ _ hR _ => False.elim hR, fun _ _ _ hR _ => False.elim hR, fun _ _ _ hR _ => False.elim hR⟩
  | succ k ih =>
    refine ⟨?_, ?_, ?_, ?_⟩
    · intro t li lj hQ hR
      have hQ : wbX12_takenOf_0 (wpX12_takenOf k) k t li lj Q := hQ
      have hR : wbX12_takenOf_0 (wpX12_takenOf k) k t li lj R := hR
      show wbX12_takenOf_0 (wpX12_takenOf k) k t li lj (fun r t => Q r t ∧ R r t)
      unfold wbX12_takenOf_0 at hQ hR ⊢
      exact ih.2.1 _ _ _ hQ hR
    · intro t li lj hQ hR
      have hQ : wbX12_takenOf_1 (wpX12_takenOf k) k t li lj Q := hQ
      have hR : wbX12_takenOf_1 (wpX12_takenOf k) k t li lj R := hR
      show wbX12_takenOf_1 (wpX12_takenOf k) k t li lj (fun r t => Q r t ∧ R r t)
      unfold wbX12_takenOf_1 at hQ hR ⊢
      exact ⟨fun c1 => ⟨(hQ.1 c1), (hR.1 c1)⟩, fun c2 => ⟨(hQ.2 c2).1, fun x3 e3 => ⟨fun c4 => ih.2.2.1 _ _ _ (((hQ.2 c2).2 x3 e3).1 c4) (((hR.2 c2).2 x3 e3).1 c4), fun c5 => wiX12_dimOf (((hQ.2 c2).2 x3 e3).2 c5) (((hR.2 c2).2 x3 e3).2 c5) (fun y6_0 y6_1 h6 i6 => ⟨fun c7 => ih.2.2.1 _ _ _ (h6.1 c7) (i6.1 c7), fun c8 => ih.2.2.2 _ _ _ (h6.2 c8) (i6.2 c8)⟩)⟩⟩⟩
    · intro t li lj hQ hR
      have hQ : wbX12_takenOf_2 (wpX12_takenOf k) k t li lj Q := hQ
      have hR : wbX12_takenOf_2 (wpX12_takenOf k) k t li lj R := hR
      show wbX12_takenOf_2 (wpX12_takenOf k) k t li lj (fun r t => Q r t ∧ R r t)
      unfold wbX12_takenOf_2 at hQ hR ⊢
      exact ih.2.2.2 _ _ _ hQ hR
    · intro t li lj hQ hR
      have hQ : wbX12_takenOf_3 (wpX12_takenOf k) k t li lj Q := hQ
      have hR : wbX12_takenOf_3 (wpX12_takenOf k) k t li lj R := hR
      show wbX12_takenOf_3 (wpX12_takenOf k) k t li lj (fun r t => Q r t ∧ R r t)
      unfold wbX12_takenOf_3 at hQ hR ⊢
      exact wiX12_truth hQ hR (fun y1_0 h1 i1 => fun x2 e2 => fun x3 e3 => ih.2.1 _ _ _ ((h1 x2 e2) x3 e3) ((i1 x2 e2) x3 e3))
theorem wjX12_takenOf {k : Nat} {t : XT} {a1 : Int32} {Q R : Int32 → XT → Prop} (hQ : wqX12_takenOf k t a1 Q) (hR : wqX12_takenOf k t a1 R) : wqX12_takenOf k t a1 (fun r t => Q r t ∧ R r t) := (wkX12_takenOfj Q R k).1 t _ _ hQ hR
theorem wiX12_takenOf {k : Nat} {t : XT} {a1 : Int32} {Q R S : Int32 → XT → Prop} (hQ : wqX12_takenOf k t a1 Q) (hR : wqX12_takenOf k t a1 R) (f : ∀ r t, Q r t → R r t → S r t) : wqX12_takenOf k t a1 S := wmX12_takenOf (Nat.le_refl k) (fun r t h => f r t h.1 h.2) (wjX12_takenOf hQ hR)
set_option maxHeartbeats 4000000 in
set_option maxRecDepth 100000 in
theorem wkX12_laysTablej (Q R : XT → Prop) : ∀ k : Nat, (∀ (t : XT) (li : Nat → Int32) (lj : Nat → Int64), wpX12_laysTable k 0 t li lj Q → wpX12_laysTable k 0 t li lj R → wpX12_laysTable k 0 t li lj (fun t => Q t ∧ R t)) ∧ (∀ (t : XT) (li : Nat → Int32) (lj : Nat → Int64), wpX12_laysTable k 1 t li lj Q → wpX12_laysTable k 1 t li lj R → wpX12_laysTable k 1 t li lj (fun t => Q t ∧ R t)) ∧ (∀ (t : XT) (li : Nat → Int32) (lj : Nat → Int64), wpX12_laysTable k 2 t li lj Q → wpX12_laysTable k 2 t li lj R → wpX12_laysTable k 2 t li lj (fun t => Q t ∧ R t)) ∧ (∀ (t : XT) (li : Nat → Int32) (lj : Nat → Int64), wpX12_laysTable k 3 t li lj Q → wpX12_laysTable k 3 t li lj R → wpX12_laysTable k 3 t li lj (fun t => Q t ∧ R t)) ∧ (∀ (t : XT) (li : Nat → Int32) (lj : Nat → Int64), wpX12_laysTable k 4 t li lj Q → wpX12_laysTable k 4 t li lj R → wpX12_laysTable k 4 t li lj (fun t => Q t ∧ R t)) ∧ (∀ (t : XT) (li : Nat → Int32) (lj : Nat → Int64), wpX12_laysTable k 5 t li lj Q → wpX12_laysTable k 5 t li lj R → wpX12_laysTable k 5 t li lj (fun t => Q t ∧ R t)) := by
  intro k
  induction k with
  | zero => exact ⟨fun _ _ _ hR _ => False.elim hR, fun _ _ _ hR _ => False.elim hR, fun _ _ _ hR _ => False.elim hR, fun _ _ _ hR _ => False.elim hR, fun _ _ _ hR _ => False.elim hR, fun _ _ _ hR _ => False.elim hR⟩
  | succ k ih =>
    refine ⟨?_, ?_, ?_, ?_, ?_, ?_⟩
    · intro t li lj hQ hR
      have hQ : wbX12_laysTable_0 (wpX12_laysTable k) k t li lj Q := hQ
      have hR : wbX12_laysTable_0 (wpX12_laysTable k) k t li lj R := hR
      show wbX12_laysTable_0 (wpX12_laysTable k) k t li lj (fun t => Q t ∧ R t)
      unfold wbX12_laysTable_0 at hQ hR ⊢
      exact wiX12_takenOf hQ hR (fun y1_0 y1_1 h1 i1 => fun x2 e2 => fun x3 e3 => wiX12_takenOf ((h1 x2 e2) x3 e3) ((i1 x2 e2) x3 e3) (fun y4_0 y4_1 h4 i4 => fun x5 e5 => ih.2.1 _ _ _ (h4 x5 e5) (i4 x5 e5)))
    · intro t li lj hQ hR
      have hQ : wbX12_laysTable_1 (wpX12_laysTable k) k t li lj Q := hQ
      have hR : wbX12_laysTable_1 (wpX12_laysTable k) k t li lj R := hR
      show wbX12_laysTable_1 (wpX12_laysTable k) k t li lj (fun t => Q t ∧ R t)
      unfold wbX12_laysTable_1 at hQ hR ⊢
      exact ⟨fun c1 => ⟨(hQ.1 c1), (hR.1 c1)⟩, fun c2 => ⟨(hQ.2 c2).1, fun x3 e3 => ⟨fun c4 => ih.2.2.2.2.2 _ _ _ (((hQ.2 c2).2 x3 e3).1 c4) (((hR.2 c2).2 x3 e3).1 c4), fun c5 => wiX12_dimOf (((hQ.2 c2).2 x3 e3).2 c5) (((hR.2 c2).2 x3 e3).2 c5) (fun y6_0 y6_1 h6 i6 => ⟨fun c7 => ih.2.2.1 _ _ _ (h6.1 c7) (i6.1 c7), fun c8 => ih.2.2.2.2.2 _ _ _ (h6.2 c8) (i6.2 c8)⟩)⟩⟩⟩
    · intro t li lj hQ hR
      have hQ : wbX12_laysTable_2 (wpX12_laysTable k) k t li lj Q := hQ
      have hR : wbX12_laysTable_2 (wpX12_laysTable k) k t li lj R := hR
      show wbX12_laysTable_2 (wpX12_laysTable k) k t li lj (fun t => Q t ∧ R t)
      unfold wbX12_laysTable_2 at hQ hR ⊢
      exact ⟨fun c1 => fun x2 e2 => ih.2.2.2.2.2 _ _ _ ((hQ.1 c1) x2 e2) ((hR.1 c1) x2 e2), fun c3 => ⟨(hQ.2 c3).1, fun x4 e4 => ⟨fun c5 => ih.2.2.2.2.1 _ _ _ (((hQ.2 c3).2 x4 e4).1 c5) (((hR.2 c3).2 x4 e4).1 c5), fun c6 => wiX12_dimOf (((hQ.2 c3).2 x4 e4).2 c6) (((hR.2 c3).2 x4 e4).2 c6) (fun y7_0 y7_1 h7 i7 => fun x8 e8 => ⟨fun c9 => ih.2.2.2.2.1 _ _ _ ((h7 x8 e8).1 c9) ((i7 x8 e8).1 c9), fun c10 => fun x11 e11 => fun x12 e12 => ⟨fun c13 => wiX12_isFace (((((h7 x8 e8).2 c10) x11 e11) x12 e12).1 c13) (((((i7 x8 e8).2 c10) x11 e11) x12 e12).1 c13) (fun y14_0 y14_1 h14 i14 => ⟨fun c15 => ih.2.2.2.1 _ _ _ (h14.1 c15) (i14.1 c15), fun c16 => wiX12_signOf (h14.2 c16) (i14.2 c16) (fun y17_0 y17_1 h17 i17 => fun x18 e18 => ih.2.2.2.1 _ _ _ (h17 x18 e18) (i17 x18 e18))⟩), fun c19 => wiX12_incidenceOf (((((h7 x8 e8).2 c10) x11 e11) x12 e12).2 c19) (((((i7 x8 e8).2 c10) x11 e11) x12 e12).2 c19) (fun y20_0 y20_1 h20 i20 => ih.2.2.2.1 _ _ _ h20 i20)⟩⟩)⟩⟩⟩
    · intro t li lj hQ hR
      have hQ : wbX12_laysTable_3 (wpX12_laysTable k) k t li lj Q := hQ
      have hR : wbX12_laysTable_3 (wpX12_laysTable k) k t li lj R := hR
      show wbX12_laysTable_3 (wpX12_laysTable k) k t li lj (fun t => Q t ∧ R t)
      unfold wbX12_laysTable_3 at hQ hR ⊢
      exact ⟨hQ.1, fun x1 e1 => fun x2 e2 => ih.2.2.2.2.1 _ _ _ ((hQ.2 x1 e1) x2 e2) ((hR.2 x1 e1) x2 e2)⟩
    · intro t li lj hQ hR
      have hQ : wbX12_laysTable_4 (wpX12_laysTable k) k t li lj Q := hQ
      have hR : wbX12_laysTable_4 (wpX12_laysTable k) k t li lj R := hR
      show wbX12_laysTable_4 (wpX12_laysTable k) k t li lj (fun t => Q t ∧ R t)
      unfold wbX12_laysTable_4 at hQ hR ⊢
      exact fun x1 e1 => ih.2.2.1 _ _ _ (hQ x1 e1) (hR x1 e1)
    · intro t li lj hQ hR
      have hQ : wbX12_laysTable_5 (wpX12_laysTable k) k t li lj Q := hQ
      have hR : wbX12_laysTable_5 (wpX12_laysTable k) k t li lj R := hR
      show wbX12_laysTable_5 (wpX12_laysTable k) k t li lj (fun t => Q t ∧ R t)
      unfold wbX12_laysTable_5 at hQ hR ⊢
      exact fun x1 e1 => ih.2.1 _ _ _ (hQ x1 e1) (hR x1 e1)
theorem wjX12_laysTable {k : Nat} {t : XT} {a1 : Int32} {a2 : Int32} {Q R : XT → Prop} (hQ : wqX12_laysTable k t a1 a2 Q) (hR : wqX12_laysTable k t a1 a2 R) : wqX12_laysTable k t a1 a2 (fun t => Q t ∧ R t) := (wkX12_laysTablej Q R k).1 t _ _ hQ hR
theorem wiX12_laysTable {k : Nat} {t : XT} {a1 : Int32} {a2 : Int32} {Q R S : XT → Prop} (hQ : wqX12_laysTable k t a1 a2 Q) (hR : wqX12_laysTable k t a1 a2 R) (f : ∀ t, Q t → R t → S t) : wqX12_laysTable k t a1 a2 S := wmX12_laysTable (Nat.le_refl k) (fun t h => f t h.1 h.2) (wjX12_laysTable hQ hR)
set_option maxHeartbeats 4000000 in
set_option maxRecDepth 100000 in
theorem wkX12_cellj (Q R : Int64 → XT → Prop) : ∀ k : Nat, (∀ (t : XT) (li : Nat → Int32) (lj : Nat → Int64), wpX12_cell k 0 t li lj Q → wpX12_cell k 0 t li lj R → wpX12_cell k 0 t li lj (fun r t => Q r t ∧ R r t)) := by
  intro k
  induction k with
  | zero => exact fun _ _ _ hR _ => False.elim hR
  | succ k ih =>
    intro t li lj hQ hR
    have hQ : wbX12_cell_0 (wpX12_cell k) k t li lj Q := hQ
    have hR : wbX12_cell_0 (wpX12_cell k) k t li lj R := hR
    show wbX12_cell_0 (wpX12_cell k) k t li lj (fun r t => Q r t ∧ R r t)
    unfold wbX12_cell_0 at hQ hR ⊢
    exact fun x1 e1 => fun x2 e2 => ⟨((hQ x1 e1) x2 e2).1, fun x3 e3 => ⟨(((hQ x1 e1) x2 e2).2 x3 e3), (((hR x1 e1) x2 e2).2 x3 e3)⟩⟩
theorem wjX12_cell {k : Nat} {t : XT} {a1 : Int32} {a2 : Int32} {Q R : Int64 → XT → Prop} (hQ : wqX12_cell k t a1 a2 Q) (hR : wqX12_cell k t a1 a2 R) : wqX12_cell k t a1 a2 (fun r t => Q r t ∧ R r t) := (wkX12_cellj Q R k) t _ _ hQ hR
theorem wiX12_cell {k : Nat} {t : XT} {a1 : Int32} {a2 : Int32} {Q R S : Int64 → XT → Prop} (hQ : wqX12_cell k t a1 a2 Q) (hR : wqX12_cell k t a1 a2 R) (f : ∀ r t, Q r t → R r t → S r t) : wqX12_cell k t a1 a2 S := wmX12_cell (Nat.le_refl k) (fun r t h => f r t h.1 h.2) (wjX12_cell hQ hR)
set_option maxHeartbeats 4000000 in
set_option maxRecDepth 100000 in
theorem wkX12_swapsRowsj (Q R : XT → Prop) : ∀ k : Nat, (∀ (t : XT) (li : Nat → Int32) (lj : Nat → Int64), wpX12_swapsRows k 0 t li lj Q → wpX12_swapsRows k 0 t li lj R → wpX12_swapsRows k 0 t li lj (fun t => Q t ∧ R t)) ∧ (∀ (t : XT) (li : Nat → Int32) (lj : Nat → Int64), wpX12_swapsRows k 1 t li lj Q → wpX12_swapsRows k 1 t li lj R → wpX12_swapsRows k 1 t li lj (fun t => Q t ∧ R t)) := by
  intro k
  induction k with
  | zero => exact ⟨fun _ _ _ hR _ => False.elim hR, fun _ _ _ hR _ => False.elim hR⟩
  | succ k ih =>
    refine ⟨?_, ?_⟩
    · intro t li lj hQ hR
      have hQ : wbX12_swapsRows_0 (wpX12_swapsRows k) k t li lj Q := hQ
      have hR : wbX12_swapsRows_0 (wpX12_swapsRows k) k t li lj R := hR
      show wbX12_swapsRows_0 (wpX12_swapsRows k) k t li lj (fun t => Q t ∧ R t)
      unfold wbX12_swapsRows_0 at hQ hR ⊢
      exact ih.2 _ _ _ hQ hR
    · intro t li lj hQ hR
      have hQ : wbX12_swapsRows_1 (wpX12_swapsRows k) k t li lj Q := hQ
      have hR : wbX12_swapsRows_1 (wpX12_swapsRows k) k t li lj R := hR
      show wbX12_swapsRows_1 (wpX12_swapsRows k) k t li lj (fun t => Q t ∧ R t)
      unfold wbX12_swapsRows_1 at hQ hR ⊢
      exact ⟨fun c1 => ⟨(hQ.1 c1), (hR.1 c1)⟩, fun c2 => wiX12_cell (hQ.2 c2) (hR.2 c2) (fun y3_0 y3_1 h3 i3 => fun x4 e4 => fun x5 e5 => wiX12_cell ((h3 x4 e4) x5 e5) ((i3 x4 e4) x5 e5) (fun y6_0 y6_1 h6 i6 => ⟨h6.1, fun x7 e7 => fun x8 e8 => fun x9 e9 => ⟨(((h6.2 x7 e7) x8 e8) x9 e9).1, fun x10 e10 => fun x11 e11 => ih.2 _ _ _ (((((h6.2 x7 e7) x8 e8) x9 e9).2 x10 e10) x11 e11) (((((i6.2 x7 e7) x8 e8) x9 e9).2 x10 e10) x11 e11)⟩⟩))⟩
theorem wjX12_swapsRows {k : Nat} {t : XT} {a1 : Int32} {a2 : Int32} {Q R : XT → Prop} (hQ : wqX12_swapsRows k t a1 a2 Q) (hR : wqX12_swapsRows k t a1 a2 R) : wqX12_swapsRows k t a1 a2 (fun t => Q t ∧ R t) := (wkX12_swapsRowsj Q R k).1 t _ _ hQ hR
theorem wiX12_swapsRows {k : Nat} {t : XT} {a1 : Int32} {a2 : Int32} {Q R S : XT → Prop} (hQ : wqX12_swapsRows k t a1 a2 Q) (hR : wqX12_swapsRows k t a1 a2 R) (f : ∀ t, Q t → R t → S t) : wqX12_swapsRows k t a1 a2 S := wmX12_swapsRows (Nat.le_refl k) (fun t h => f t h.1 h.2) (wjX12_swapsRows hQ hR)
set_option maxHeartbeats 4000000 in
set_option maxRecDepth 100000 in
theorem wkX12_swapsColumnsj (Q R : XT → Prop) : ∀ k : Nat, (∀ (t : XT) (li : Nat → Int32) (lj : Nat → Int64), wpX12_swapsColumns k 0 t li lj Q → wpX12_swapsColumns k 0 t li lj R → wpX12_swapsColumns k 0 t li lj (fun t => Q t ∧ R t)) ∧ (∀ (t : XT) (li : Nat → Int32) (lj : Nat → Int64), wpX12_swapsColumns k 1 t li lj Q → wpX12_swapsColumns k 1 t li lj R → wpX12_swapsColumns k 1 t li lj (fun t => Q t ∧ R t)) := by
  intro k
  induction k with
  | zero => exact ⟨fun _ _ _ hR _ => False.elim hR, fun _ _ _ hR _ => False.elim hR⟩
  | succ k ih =>
    refine ⟨?_, ?_⟩
    · intro t li lj hQ hR
      have hQ : wbX12_swapsColumns_0 (wpX12_swapsColumns k) k t li lj Q := hQ
      have hR : wbX12_swapsColumns_0 (wpX12_swapsColumns k) k t li lj R := hR
      show wbX12_swapsColumns_0 (wpX12_swapsColumns k) k t li lj (fun t => Q t ∧ R t)
      unfold wbX12_swapsColumns_0 at hQ hR ⊢
      exact ih.2 _ _ _ hQ hR
    · intro t li lj hQ hR
      have hQ : wbX12_swapsColumns_1 (wpX12_swapsColumns k) k t li lj Q := hQ
      have hR : wbX12_swapsColumns_1 (wpX12_swapsColumns k) k t li lj R := hR
      show wbX12_swapsColumns_1 (wpX12_swapsColumns k) k t li lj (fun t => Q t ∧ R t)
      unfold wbX12_swapsColumns_1 at hQ hR ⊢
      exact ⟨fun c1 => ⟨(hQ.1 c1), (hR.1 c1)⟩, fun c2 => wiX12_cell (hQ.2 c2) (hR.2 c2) (fun y3_0 y3_1 h3 i3 => fun x4 e4 => fun x5 e5 => wiX12_cell ((h3 x4 e4) x5 e5) ((i3 x4 e4) x5 e5) (fun y6_0 y6_1 h6 i6 => ⟨h6.1, fun x7 e7 => fun x8 e8 => fun x9 e9 => ⟨(((h6.2 x7 e7) x8 e8) x9 e9).1, fun x10 e10 => fun x11 e11 => ih.2 _ _ _ (((((h6.2 x7 e7) x8 e8) x9 e9).2 x10 e10) x11 e11) (((((i6.2 x7 e7) x8 e8) x9 e9).2 x10 e10) x11 e11)⟩⟩))⟩
theorem wjX12_swapsColumns {k : Nat} {t : XT} {a1 : Int32} {a2 : Int32} {Q R : XT → Prop} (hQ : wqX12_swapsColumns k t a1 a2 Q) (hR : wqX12_swapsColumns k t a1 a2 R) : wqX12_swapsColumns k t a1 a2 (fun t => Q t ∧ R t) := (wkX12_swapsColumnsj Q R k).1 t _ _ hQ hR
theorem wiX12_swapsColumns {k : Nat} {t : XT} {a1 : Int32} {a2 : Int32} {Q R S : XT → Prop} (hQ : wqX12_swapsColumns k t a1 a2 Q) (hR : wqX12_swapsColumns k t a1 a2 R) (f : ∀ t, Q t → R t → S t) : wqX12_swapsColumns k t a1 a2 S := wmX12_swapsColumns (Nat.le_refl k) (fun t h => f t h.1 h.2) (wjX12_swapsColumns hQ hR)
set_option maxHeartbeats 4000000 in
set_option maxRecDepth 100000 in
theorem wkX12_bringsLeastj (Q R : Int32 → XT → Prop) : ∀ k : Nat, (∀ (t : XT) (li : Nat → Int32) (lj : Nat → Int64), wpX12_bringsLeast k 0 t li lj Q → wpX12_bringsLeast k 0 t li lj R → wpX12_bringsLeast k 0 t li lj (fun r t => Q r t ∧ R r t)) ∧ (∀ (t : XT) (li : Nat → Int32) (lj : Nat → Int64), wpX12_bringsLeast k 1 t li lj Q → wpX12_bringsLeast k 1 t li lj R → wpX12_bringsLeast k 1 t li lj (fun r t => Q r t ∧ R r t)) ∧ (∀ (t : XT) (li : Nat → Int32) (lj : Nat → Int64), wpX12_bringsLeast k 2 t li lj Q → wpX12_bringsLeast k 2 t li lj R → wpX12_bringsLeast k 2 t li lj (fun r t => Q r t ∧ R r t)) ∧ (∀ (t : XT) (li : Nat → Int32) (lj : Nat → Int64), wpX12_bringsLeast k 3 t li lj Q → wpX12_bringsLeast k 3 t li lj R → wpX12_bringsLeast k 3 t li lj (fun r t => Q r t ∧ R r t)) ∧ (∀ (t : XT) (li : Nat → Int32) (lj : Nat → Int64), wpX12_bringsLeast k 4 t li lj Q → wpX12_bringsLeast k 4 t li lj R → wpX12_bringsLeast k 4 t li lj (fun r t => Q r t ∧ R r t)) ∧ (∀ (t : XT) (li : Nat → Int32) (lj : Nat → Int64), wpX12_bringsLeast k 5 t li lj Q → wpX12_bringsLeast k 5 t li lj R → wpX12_bringsLeast k 5 t li lj (fun r t => Q r t ∧ R r t)) ∧ (∀ (t : XT) (li : Nat → Int32) (lj : Nat → Int64), wpX12_bringsLeast k 6 t li lj Q → wpX12_bringsLeast k 6 t li lj R → wpX12_bringsLeast k 6 t li lj (fun r t => Q r t ∧ R r t)) ∧ (∀ (t : XT) (li : Nat → Int32) (lj : Nat → Int64), wpX12_bringsLeast k 7 t li lj Q → wpX12_bringsLeast k 7 t li lj R → wpX12_bringsLeast k 7 t li lj (fun r t => Q r t ∧ R r t)) := by
  intro k
  induction k with
  | zero => exact ⟨fun _ _ _ hR _ => False.elim hR, fun _ _ _ hR _ => False.elim hR, fun _ _ _ hR _ => False.elim hR, fun _ _ _ hR _ => False.elim hR, fun _ _ _ hR _ => False.elim hR, fun _ _ _ hR _ => False.elim hR, fun _ _ _ hR _ => False.elim hR, fun _ _ _ hR _ => False.elim hR⟩
  | succ k ih =>
    refine ⟨?_, ?_, ?_, ?_, ?_, ?_, ?_, ?_⟩
    · intro t li lj hQ hR
      have hQ : wbX12_bringsLeast_0 (wpX12_bringsLeast k) k t li lj Q := hQ
      have hR : wbX12_bringsLeast_0 (wpX12_bringsLeast k) k t li lj R := hR
      show wbX12_bringsLeast_0 (wpX12_bringsLeast k) k t li lj (fun r t => Q r t ∧ R r t)
      unfold wbX12_bringsLeast_0 at hQ hR ⊢
      exact ih.2.1 _ _ _ hQ hR
    · intro t li lj hQ hR
      have hQ : wbX12_bringsLeast_1 (wpX12_bringsLeast k) k t li lj Q := hQ
      have hR : wbX12_bringsLeast_1 (wpX12_bringsLeast k) k t li lj R := hR
      show wbX12_bringsLeast_1 (wpX12_bringsLeast k) k t li lj (fun r t => Q r t ∧ R r t)
      unfold wbX12_bringsLeast_1 at hQ hR ⊢
      exact ⟨fun c1 => ⟨fun c2 => wiX12_swapsRows ((hQ.1 c1).1 c2) ((hR.1 c1).1 c2) (fun y3_0 h3 i3 => wiX12_swapsColumns h3 i3 (fun y4_0 h4 i4 => ⟨h4, i4⟩)), fun c5 => ⟨((hQ.1 c1).2 c5), ((hR.1 c1).2 c5)⟩⟩, fun c6 => ih.2.2.1 _ _ _ (hQ.2 c6) (hR.2 c6)⟩
    · intro t li lj hQ hR
      have hQ : wbX12_bringsLeast_2 (wpX12_bringsLeast k) k t li lj Q := hQ
      have hR : wbX12_bringsLeast_2 (wpX12_bringsLeast k) k t li lj R := hR
      show wbX12_bringsLeast_2 (wpX12_bringsLeast k) k t li lj (fun r t => Q r t ∧ R r t)
      unfold wbX12_bringsLeast_2 at hQ hR ⊢
      exact ⟨fun c1 => fun x2 e2 => ih.2.1 _ _ _ ((hQ.1 c1) x2 e2) ((hR.1 c1) x2 e2), fun c3 => wiX12_cell (hQ.2 c3) (hR.2 c3) (fun y4_0 y4_1 h4 i4 => fun x5 e5 => ⟨fun c6 => ih.2.2.2.2.1 _ _ _ ((h4 x5 e5).1 c6) ((i4 x5 e5).1 c6), fun c7 => ⟨fun c8 => ih.2.2.2.1 _ _ _ (((h4 x5 e5).2 c7).1 c8) (((i4 x5 e5).2 c7).1 c8), fun c9 => wiX12_cell (((h4 x5 e5).2 c7).2 c9) (((i4 x5 e5).2 c7).2 c9) (fun y10_0 y10_1 h10 i10 => fun x11 e11 => wiX12_cell (h10 x11 e11) (i10 x11 e11) (fun y12_0 y12_1 h12 i12 => fun x13 e13 => fun x14 e14 => ⟨fun c15 => ih.2.2.2.2.1 _ _ _ (((h12 x13 e13) x14 e14).1 c15) (((i12 x13 e13) x14 e14).1 c15), fun c16 => ih.2.2.2.1 _ _ _ (((h12 x13 e13) x14 e14).2 c16) (((i12 x13 e13) x14 e14).2 c16)⟩))⟩⟩)⟩
    · intro t li lj hQ hR
      have hQ : wbX12_bringsLeast_3 (wpX12_bringsLeast k) k t li lj Q := hQ
      have hR : wbX12_bringsLeast_3 (wpX12_bringsLeast k) k t li lj R := hR
      show wbX12_bringsLeast_3 (wpX12_bringsLeast k) k t li lj (fun r t => Q r t ∧ R r t)
      unfold wbX12_bringsLeast_3 at hQ hR ⊢
      exact ih.2.2.2.2.2.1 _ _ _ hQ hR
    · intro t li lj hQ hR
      have hQ : wbX12_bringsLeast_4 (wpX12_bringsLeast k) k t li lj Q := hQ
      have hR : wbX12_bringsLeast_4 (wpX12_bringsLeast k) k t li lj R := hR
      show wbX12_bringsLeast_4 (wpX12_bringsLeast k) k t li lj (fun r t => Q r t ∧ R r t)
      unfold wbX12_bringsLeast_4 at hQ hR ⊢
      exact ih.2.2.2.2.2.1 _ _ _ hQ hR
    · intro t li lj hQ hR
      have hQ : wbX12_bringsLeast_5 (wpX12_bringsLeast k) k t li lj Q := hQ
      have hR : wbX12_bringsLeast_5 (wpX12_bringsLeast k) k t li lj R := hR
      show wbX12_bringsLeast_5 (wpX12_bringsLeast k) k t li lj (fun r t => Q r t ∧ R r t)
      unfold wbX12_bringsLeast_5 at hQ hR ⊢
      exact ⟨fun c1 => ih.2.2.2.2.2.2.1 _ _ _ (hQ.1 c1) (hR.1 c1), fun c2 => ih.2.2.2.2.2.2.1 _ _ _ (hQ.2 c2) (hR.2 c2)⟩
    · intro t li lj hQ hR
      have hQ : wbX12_bringsLeast_6 (wpX12_bringsLeast k) k t li lj Q := hQ
      have hR : wbX12_bringsLeast_6 (wpX12_bringsLeast k) k t li lj R := hR
      show wbX12_bringsLeast_6 (wpX12_bringsLeast k) k t li lj (fun r t => Q r t ∧ R r t)
      unfold wbX12_bringsLeast_6 at hQ hR ⊢
      exact ⟨fun c1 => ih.2.2.2.2.2.2.2 _ _ _ (hQ.1 c1) (hR.1 c1), fun c2 => ih.2.2.2.2.2.2.2 _ _ _ (hQ.2 c2) (hR.2 c2)⟩
    · intro t li lj hQ hR
      have hQ : wbX12_bringsLeast_7 (wpX12_bringsLeast k) k t li lj Q := hQ
      have hR : wbX12_bringsLeast_7 (wpX12_bringsLeast k) k t li lj R := hR
      show wbX12_bringsLeast_7 (wpX12_bringsLeast k) k t li lj (fun r t => Q r t ∧ R r t)
      unfold wbX12_bringsLeast_7 at hQ hR ⊢
      exact fun x1 e1 => ih.2.2.1 _ _ _ (hQ x1 e1) (hR x1 e1)
theorem wjX12_bringsLeast {k : Nat} {t : XT} {a1 : Int32} {Q R : Int32 → XT → Prop} (hQ : wqX12_bringsLeast k t a1 Q) (hR : wqX12_bringsLeast k t a1 R) : wqX12_bringsLeast k t a1 (fun r t => Q r t ∧ R r t) := (wkX12_bringsLeastj Q R k).1 t _ _ hQ hR
theorem wiX12_bringsLeast {k : Nat} {t : XT} {a1 : Int32} {Q R S : Int32 → XT → Prop} (hQ : wqX12_bringsLeast k t a1 Q) (hR : wqX12_bringsLeast k t a1 R) (f : ∀ r t, Q r t → R r t → S r t) : wqX12_bringsLeast k t a1 S := wmX12_bringsLeast (Nat.le_refl k) (fun r t h => f r t h.1 h.2) (wjX12_bringsLeast hQ hR)
set_option maxHeartbeats 4000000 in
set_option maxRecDepth 100000 in
theorem wkX12_addsRowj (Q R : XT → Prop) : ∀ k : Nat, (∀ (t : XT) (li : Nat → Int32) (lj : Nat → Int64), wpX12_addsRow k 0 t li lj Q → wpX12_addsRow k 0 t li lj R → wpX12_addsRow k 0 t li lj (fun t => Q t ∧ R t)) ∧ (∀ (t : XT) (li : Nat → Int32) (lj : Nat → Int64), wpX12_addsRow k 1 t li lj Q → wpX12_addsRow k 1 t li lj R → wpX12_addsRow k 1 t li lj (fun t => Q t ∧ R t)) := by
  intro k
  induction k with
  | zero => exact ⟨fun _ _ _ hR _ => False.elim hR, fun _ _ _ hR _ => False.elim hR⟩
  | succ k ih =>
    refine ⟨?_, ?_⟩
    · intro t li lj hQ hR
      have hQ : wbX12_addsRow_0 (wpX12_addsRow k) k t li lj Q := hQ
      have hR : wbX12_addsRow_0 (wpX12_addsRow k) k t li lj R := hR
      show wbX12_addsRow_0 (wpX12_addsRow k) k t li lj (fun t => Q t ∧ R t)
      unfold wbX12_addsRow_0 at hQ hR ⊢
      exact ih.2 _ _ _ hQ hR
    · intro t li lj hQ hR
      have hQ : wbX12_addsRow_1 (wpX12_addsRow k) k t li lj Q := hQ
      have hR : wbX12_addsRow_1 (wpX12_addsRow k) k t li lj R := hR
      show wbX12_addsRow_1 (wpX12_addsRow k) k t li lj (fun t => Q t ∧ R t)
      unfold wbX12_addsRow_1 at hQ hR ⊢
      exact ⟨fun c1 => ⟨(hQ.1 c1), (hR.1 c1)⟩, fun c2 => fun x3 e3 => fun x4 e4 => ⟨(((hQ.2 c2) x3 e3) x4 e4).1, fun x5 e5 => wiX12_cell ((((hQ.2 c2) x3 e3) x4 e4).2 x5 e5) ((((hR.2 c2) x3 e3) x4 e4).2 x5 e5) (fun y6_0 y6_1 h6 i6 => fun x7 e7 => fun x8 e8 => ⟨((h6 x7 e7) x8 e8).1, fun x9 e9 => fun x10 e10 => ih.2 _ _ _ ((((h6 x7 e7) x8 e8).2 x9 e9) x10 e10) ((((i6 x7 e7) x8 e8).2 x9 e9) x10 e10)⟩)⟩⟩
theorem wjX12_addsRow {k : Nat} {t : XT} {a1 : Int32} {a2 : Int32} {a3 : Int64} {Q R : XT → Prop} (hQ : wqX12_addsRow k t a1 a2 a3 Q) (hR : wqX12_addsRow k t a1 a2 a3 R) : wqX12_addsRow k t a1 a2 a3 (fun t => Q t ∧ R t) := (wkX12_addsRowj Q R k).1 t _ _ hQ hR
theorem wiX12_addsRow {k : Nat} {t : XT} {a1 : Int32} {a2 : Int32} {a3 : Int64} {Q R S : XT → Prop} (hQ : wqX12_addsRow k t a1 a2 a3 Q) (hR : wqX12_addsRow k t a1 a2 a3 R) (f : ∀ t, Q t → R t → S t) : wqX12_addsRow k t a1 a2 a3 S := wmX12_addsRow (Nat.le_refl k) (fun t h => f t h.1 h.2) (wjX12_addsRow hQ hR)
set_option maxHeartbeats 4000000 in
set_option maxRecDepth 100000 in
theorem wkX12_addsColumnj (Q R : XT → Prop) : ∀ k : Nat, (∀ (t : XT) (li : Nat → Int32) (lj : Nat → Int64), wpX12_addsColumn k 0 t li lj Q → wpX12_addsColumn k 0 t li lj R → wpX12_addsColumn k 0 t li lj (fun t => Q t ∧ R t)) ∧ (∀ (t : XT) (li : Nat → Int32) (lj : Nat → Int64), wpX12_addsColumn k 1 t li lj Q → wpX12_addsColumn k 1 t li lj R → wpX12_addsColumn k 1 t li lj (fun t => Q t ∧ R t)) := by
  intro k
  induction k with
  | zero => exact ⟨fun _ _ _ hR _ => False.elim hR, fun _ _ _ hR _ => False.elim hR⟩
  | succ k ih =>
    refine ⟨?_, ?_⟩
    · intro t li lj hQ hR
      have hQ : wbX12_addsColumn_0 (wpX12_addsColumn k) k t li lj Q := hQ
      have hR : wbX12_addsColumn_0 (wpX12_addsColumn k) k t li lj R := hR
      show wbX12_addsColumn_0 (wpX12_addsColumn k) k t li lj (fun t => Q t ∧ R t)
      unfold wbX12_addsColumn_0 at hQ hR ⊢
      exact ih.2 _ _ _ hQ hR
    · intro t li lj hQ hR
      have hQ : wbX12_addsColumn_1 (wpX12_addsColumn k) k t li lj Q := hQ
      have hR : wbX12_addsColumn_1 (wpX12_addsColumn k) k t li lj R := hR
      show wbX12_addsColumn_1 (wpX12_addsColumn k) k t li lj (fun t => Q t ∧ R t)
      unfold wbX12_addsColumn_1 at hQ hR ⊢
      exact ⟨fun c1 => ⟨(hQ.1 c1), (hR.1 c1)⟩, fun c2 => fun x3 e3 => fun x4 e4 => ⟨(((hQ.2 c2) x3 e3) x4 e4).1, fun x5 e5 => wiX12_cell ((((hQ.2 c2) x3 e3) x4 e4).2 x5 e5) ((((hR.2 c2) x3 e3) x4 e4).2 x5 e5) (fun y6_0 y6_1 h6 i6 => fun x7 e7 => fun x8 e8 => ⟨((h6 x7 e7) x8 e8).1, fun x9 e9 => fun x10 e10 => ih.2 _ _ _ ((((h6 x7 e7) x8 e8).2 x9 e9) x10 e10) ((((i6 x7 e7) x8 e8).2 x9 e9) x10 e10)⟩)⟩⟩
theorem wjX12_addsColumn {k : Nat} {t : XT} {a1 : Int32} {a2 : Int32} {a3 : Int64} {Q R : XT → Prop} (hQ : wqX12_addsColumn k t a1 a2 a3 Q) (hR : wqX12_addsColumn k t a1 a2 a3 R) : wqX12_addsColumn k t a1 a2 a3 (fun t => Q t ∧ R t) := (wkX12_addsColumnj Q R k).1 t _ _ hQ hR
theorem wiX12_addsColumn {k : Nat} {t : XT} {a1 : Int32} {a2 : Int32} {a3 : Int64} {Q R S : XT → Prop} (hQ : wqX12_addsColumn k t a1 a2 a3 Q) (hR : wqX12_addsColumn k t a1 a2 a3 R) (f : ∀ t, Q t → R t → S t) : wqX12_addsColumn k t a1 a2 a3 S := wmX12_addsColumn (Nat.le_refl k) (fun t h => f t h.1 h.2) (wjX12_addsColumn hQ hR)
set_option maxHeartbeats 4000000 in
set_option maxRecDepth 100000 in
theorem wkX12_clearsj (Q R : Int32 → XT → Prop) : ∀ k : Nat, (∀ (t : XT) (li : Nat → Int32) (lj : Nat → Int64), wpX12_clears k 0 t li lj Q → wpX12_clears k 0 t li lj R → wpX12_clears k 0 t li lj (fun r t => Q r t ∧ R r t)) ∧ (∀ (t : XT) (li : Nat → Int32) (lj : Nat → Int64), wpX12_clears k 1 t li lj Q → wpX12_clears k 1 t li lj R → wpX12_clears k 1 t li lj (fun r t => Q r t ∧ R r t)) ∧ (∀ (t : XT) (li : Nat → Int32) (lj : Nat → Int64), wpX12_clears k 2 t li lj Q → wpX12_clears k 2 t li lj R → wpX12_clears k 2 t li lj (fun r t => Q r t ∧ R r t)) ∧ (∀ (t : XT) (li : Nat → Int32) (lj : Nat → Int64), wpX12_clears k 3 t li lj Q → wpX12_clears k 3 t li lj R → wpX12_clears k 3 t li lj (fun r t => Q r t ∧ R r t)) ∧ (∀ (t : XT) (li : Nat → Int32) (lj : Nat → Int64), wpX12_clears k 4 t li lj Q → wpX12_clears k 4 t li lj R → wpX12_clears k 4 t li lj (fun r t => Q r t ∧ R r t)) ∧ (∀ (t : XT) (li : Nat → Int32) (lj : Nat → Int64), wpX12_clears k 5 t li lj Q → wpX12_clears k 5 t li lj R → wpX12_clears k 5 t li lj (fun r t => Q r t ∧ R r t)) ∧ (∀ (t : XT) (li : Nat → Int32) (lj : Nat → Int64), wpX12_clears k 6 t li lj Q → wpX12_clears k 6 t li lj R → wpX12_clears k 6 t li lj (fun r t => Q r t ∧ R r t)) := by
  intro k
  induction k with
  | zero => exact ⟨fun _ _ _ hR _ => False.elim hR, fun _ _ _ hR _ => False.elim hR, fun _ _ _ hR _ => False.elim hR, fun _ _ _ hR _ => False.elim hR, fun _ _ _ hR _ => False.elim hR, fun _ _ _ hR _ => False.elim hR, fun _ _ _ hR _ => False.elim hR⟩
  | succ k ih =>
    refine ⟨?_, ?_, ?_, ?_, ?_, ?_, ?_⟩
    · intro t li lj hQ hR
      have hQ : wbX12_clears_0 (wpX12_clears k) k t li lj Q := hQ
      have hR : wbX12_clears_0 (wpX12_clears k) k t li lj R := hR
      show wbX12_clears_0 (wpX12_clears k) k t li lj (fun r t => Q r t ∧ R r t)
      unfold wbX12_clears_0 at hQ hR ⊢
      exact fun x1 e1 => ih.2.1 _ _ _ (hQ x1 e1) (hR x1 e1)
    · intro t li lj hQ hR
      have hQ : wbX12_clears_1 (wpX12_clears k) k t li lj Q := hQ
      have hR : wbX12_clears_1 (wpX12_clears k) k t li lj R := hR
      show wbX12_clears_1 (wpX12_clears k) k t li lj (fun r t => Q r t ∧ R r t)
      unfold wbX12_clears_1 at hQ hR ⊢
      exact ⟨fun c1 => fun x2 e2 => ih.2.2.2.2.1 _ _ _ ((hQ.1 c1) x2 e2) ((hR.1 c1) x2 e2), fun c3 => wiX12_cell (hQ.2 c3) (hR.2 c3) (fun y4_0 y4_1 h4 i4 => wiX12_cell h4 i4 (fun y5_0 y5_1 h5 i5 => ⟨h5.1, fun x6 e6 => fun x7 e7 => wiX12_addsRow ((h5.2 x6 e6) x7 e7) ((i5.2 x6 e6) x7 e7) (fun y8_0 h8 i8 => ⟨fun c9 => ih.2.2.1 _ _ _ (h8.1 c9) (i8.1 c9), fun c10 => wiX12_cell (h8.2 c10) (i8.2 c10) (fun y11_0 y11_1 h11 i11 => fun x12 e12 => ⟨fun c13 => ih.2.2.1 _ _ _ ((h11 x12 e12).1 c13) ((i11 x12 e12).1 c13), fun c14 => ih.2.2.2.1 _ _ _ ((h11 x12 e12).2 c14) ((i11 x12 e12).2 c14)⟩)⟩)⟩))⟩
    · intro t li lj hQ hR
      have hQ : wbX12_clears_2 (wpX12_clears k) k t li lj Q := hQ
      have hR : wbX12_clears_2 (wpX12_clears k) k t li lj R := hR
      show wbX12_clears_2 (wpX12_clears k) k t li lj (fun r t => Q r t ∧ R r t)
      unfold wbX12_clears_2 at hQ hR ⊢
      exact ih.2.2.2.1 _ _ _ hQ hR
    · intro t li lj hQ hR
      have hQ : wbX12_clears_3 (wpX12_clears k) k t li lj Q := hQ
      have hR : wbX12_clears_3 (wpX12_clears k) k t li lj R := hR
      show wbX12_clears_3 (wpX12_clears k) k t li lj (fun r t => Q r t ∧ R r t)
      unfold wbX12_clears_3 at hQ hR ⊢
      exact fun x1 e1 => ih.2.1 _ _ _ (hQ x1 e1) (hR x1 e1)
    · intro t li lj hQ hR
      have hQ : wbX12_clears_4 (wpX12_clears k) k t li lj Q := hQ
      have hR : wbX12_clears_4 (wpX12_clears k) k t li lj R := hR
      show wbX12_clears_4 (wpX12_clears k) k t li lj (fun r t => Q r t ∧ R r t)
      unfold wbX12_clears_4 at hQ hR ⊢
      exact ⟨fun c1 => ⟨(hQ.1 c1).1, ⟨(hQ.1 c1).2, (hR.1 c1).2⟩⟩, fun c2 => wiX12_cell (hQ.2 c2) (hR.2 c2) (fun y3_0 y3_1 h3 i3 => wiX12_cell h3 i3 (fun y4_0 y4_1 h4 i4 => ⟨h4.1, fun x5 e5 => fun x6 e6 => wiX12_addsColumn ((h4.2 x5 e5) x6 e6) ((i4.2 x5 e5) x6 e6) (fun y7_0 h7 i7 => ⟨fun c8 => ih.2.2.2.2.2.1 _ _ _ (h7.1 c8) (i7.1 c8), fun c9 => wiX12_cell (h7.2 c9) (i7.2 c9) (fun y10_0 y10_1 h10 i10 => fun x11 e11 => ⟨fun c12 => ih.2.2.2.2.2.1 _ _ _ ((h10 x11 e11).1 c12) ((i10 x11 e11).1 c12), fun c13 => ih.2.2.2.2.2.2 _ _ _ ((h10 x11 e11).2 c13) ((i10 x11 e11).2 c13)⟩)⟩)⟩))⟩
    · intro t li lj hQ hR
      have hQ : wbX12_clears_5 (wpX12_clears k) k t li lj Q := hQ
      have hR : wbX12_clears_5 (wpX12_clears k) k t li lj R := hR
      show wbX12_clears_5 (wpX12_clears k) k t li lj (fun r t => Q r t ∧ R r t)
      unfold wbX12_clears_5 at hQ hR ⊢
      exact ih.2.2.2.2.2.2 _ _ _ hQ hR
    · intro t li lj hQ hR
      have hQ : wbX12_clears_6 (wpX12_clears k) k t li lj Q := hQ
      have hR : wbX12_clears_6 (wpX12_clears k) k t li lj R := hR
      show wbX12_clears_6 (wpX12_clears k) k t li lj (fun r t => Q r t ∧ R r t)
      unfold wbX12_clears_6 at hQ hR ⊢
      exact fun x1 e1 => ih.2.2.2.2.1 _ _ _ (hQ x1 e1) (hR x1 e1)
theorem wjX12_clears {k : Nat} {t : XT} {a1 : Int32} {Q R : Int32 → XT → Prop} (hQ : wqX12_clears k t a1 Q) (hR : wqX12_clears k t a1 R) : wqX12_clears k t a1 (fun r t => Q r t ∧ R r t) := (wkX12_clearsj Q R k).1 t _ _ hQ hR
theorem wiX12_clears {k : Nat} {t : XT} {a1 : Int32} {Q R S : Int32 → XT → Prop} (hQ : wqX12_clears k t a1 Q) (hR : wqX12_clears k t a1 R) (f : ∀ r t, Q r t → R r t → S r t) : wqX12_clears k t a1 S := wmX12_clears (Nat.le_refl k) (fun r t h => f r t h.1 h.2) (wjX12_clears hQ hR)
set_option maxHeartbeats 4000000 in
set_option maxRecDepth 100000 in
theorem wkX12_undividedj (Q R : Int32 → XT → Prop) : ∀ k : Nat, (∀ (t : XT) (li : Nat → Int32) (lj : Nat → Int64), wpX12_undivided k 0 t li lj Q → wpX12_undivided k 0 t li lj R → wpX12_undivided k 0 t li lj (fun r t => Q r t ∧ R r t)) ∧ (∀ (t : XT) (li : Nat → Int32) (lj : Nat → Int64), wpX12_undivided k 1 t li lj Q → wpX12_undivided k 1 t li lj R → wpX12_undivided k 1 t li lj (fun r t => Q r t ∧ R r t)) ∧ (∀ (t : XT) (li : Nat → Int32) (lj : Nat → Int64), wpX12_undivided k 2 t li lj Q → wpX12_undivided k 2 t li lj R → wpX12_undivided k 2 t li lj (fun r t => Q r t ∧ R r t)) := by
  intro k
  induction k with
  | zero => exact ⟨fun _ _ _ hR _ => False.elim hR, fun _ _ _ hR _ => False.elim hR, fun _ _ _ hR _ => False.elim hR⟩
  | succ k ih =>
    refine ⟨?_, ?_, ?_⟩
    · intro t li lj hQ hR
      have hQ : wbX12_undivided_0 (wpX12_undivided k) k t li lj Q := hQ
      have hR : wbX12_undivided_0 (wpX12_undivided k) k t li lj R := hR
      show wbX12_undivided_0 (wpX12_undivided k) k t li lj (fun r t => Q r t ∧ R r t)
      unfold wbX12_undivided_0 at hQ hR ⊢
      exact fun x1 e1 => ih.2.1 _ _ _ (hQ x1 e1) (hR x1 e1)
    · intro t li lj hQ hR
      have hQ : wbX12_undivided_1 (wpX12_undivided k) k t li lj Q := hQ
      have hR : wbX12_undivided_1 (wpX12_undivided k) k t li lj R := hR
      show wbX12_undivided_1 (wpX12_undivided k) k t li lj (fun r t => Q r t ∧ R r t)
      unfold wbX12_undivided_1 at hQ hR ⊢
      exact ⟨fun c1 => ⟨(hQ.1 c1), (hR.1 c1)⟩, fun c2 => fun x3 e3 => ih.2.2 _ _ _ ((hQ.2 c2) x3 e3) ((hR.2 c2) x3 e3)⟩
    · intro t li lj hQ hR
      have hQ : wbX12_undivided_2 (wpX12_undivided k) k t li lj Q := hQ
      have hR : wbX12_undivided_2 (wpX12_undivided k) k t li lj R := hR
      show wbX12_undivided_2 (wpX12_undivided k) k t li lj (fun r t => Q r t ∧ R r t)
      unfold wbX12_undivided_2 at hQ hR ⊢
      exact ⟨fun c1 => fun x2 e2 => ih.2.1 _ _ _ ((hQ.1 c1) x2 e2) ((hR.1 c1) x2 e2), fun c3 => wiX12_cell (hQ.2 c3) (hR.2 c3) (fun y4_0 y4_1 h4 i4 => wiX12_cell h4 i4 (fun y5_0 y5_1 h5 i5 => ⟨h5.1, fun x6 e6 => fun x7 e7 => ⟨fun c8 => fun x9 e9 => ih.2.2 _ _ _ ((((h5.2 x6 e6) x7 e7).1 c8) x9 e9) ((((i5.2 x6 e6) x7 e7).1 c8) x9 e9), fun c10 => ⟨(((h5.2 x6 e6) x7 e7).2 c10), (((i5.2 x6 e6) x7 e7).2 c10)⟩⟩⟩))⟩
theorem wjX12_undivided {k : Nat} {t : XT} {a1 : Int32} {Q R : Int32 → XT → Prop} (hQ : wqX12_undivided k t a1 Q) (hR : wqX12_undivided k t a1 R) : wqX12_undivided k t a1 (fun r t => Q r t ∧ R r t) := (wkX12_undividedj Q R k).1 t _ _ hQ hR
theorem wiX12_undivided {k : Nat} {t : XT} {a1 : Int32} {Q R S : Int32 → XT → Prop} (hQ : wqX12_undivided k t a1 Q) (hR : wqX12_undivided k t a1 R) (f : ∀ r t, Q r t → R r t → S r t) : wqX12_undivided k t a1 S := wmX12_undivided (Nat.le_refl k) (fun r t h => f r t h.1 h.2) (wjX12_undivided hQ hR)
set_option maxHeartbeats 4000000 in
set_option maxRecDepth 100000 in
theorem wkX12_laysStepsj (Q R : Int32 → XT → Prop) : ∀ k : Nat, (∀ (t : XT) (li : Nat → Int32) (lj : Nat → Int64), wpX12_laysSteps k 0 t li lj Q → wpX12_laysSteps k 0 t li lj R → wpX12_laysSteps k 0 t li lj (fun r t => Q r t ∧ R r t)) ∧ (∀ (t : XT) (li : Nat → Int32) (lj : Nat → Int64), wpX12_laysSteps k 1 t li lj Q → wpX12_laysSteps k 1 t li lj R → wpX12_laysSteps k 1 t li lj (fun r t => Q r t ∧ R r t)) ∧ (∀ (t : XT) (li : Nat → Int32) (lj : Nat → Int64), wpX12_laysSteps k 2 t li lj Q → wpX12_laysSteps k 2 t li lj R → wpX12_laysSteps k 2 t li lj (fun r t => Q r t ∧ R r t)) := by
  intro k
  induction k with
  | zero => exact ⟨fun _ _ _ hR _ => False.elim hR, fun _ _ _ hR _ => False.elim hR, fun _ _ _ hR _ => False.elim hR⟩
  | succ k ih =>
    refine ⟨?_, ?_, ?_⟩
    · intro t li lj hQ hR
      have hQ : wbX12_laysSteps_0 (wpX12_laysSteps k) k t li lj Q := hQ
      have hR : wbX12_laysSteps_0 (wpX12_laysSteps k) k t li lj R := hR
      show wbX12_laysSteps_0 (wpX12_laysSteps k) k t li lj (fun r t => Q r t ∧ R r t)
      unfold wbX12_laysSteps_0 at hQ hR ⊢
      exact ih.2.1 _ _ _ hQ hR
    · intro t li lj hQ hR
      have hQ : wbX12_laysSteps_1 (wpX12_laysSteps k) k t li lj Q := hQ
      have hR : wbX12_laysSteps_1 (wpX12_laysSteps k) k t li lj R := hR
      show wbX12_laysSteps_1 (wpX12_laysSteps k) k t li lj (fun r t => Q r t ∧ R r t)
      unfold wbX12_laysSteps_1 at hQ hR ⊢
      exact ⟨fun c1 => ih.2.2 _ _ _ (hQ.1 c1) (hR.1 c1), fun c2 => ⟨fun c3 => ih.2.2 _ _ _ ((hQ.2 c2).1 c3) ((hR.2 c2).1 c3), fun c4 => wiX12_bringsLeast ((hQ.2 c2).2 c4) ((hR.2 c2).2 c4) (fun y5_0 y5_1 h5 i5 => ⟨fun c6 => ih.2.2 _ _ _ (h5.1 c6) (i5.1 c6), fun c7 => wiX12_clears (h5.2 c7) (i5.2 c7) (fun y8_0 y8_1 h8 i8 => ⟨fun c9 => wiX12_undivided (h8.1 c9) (i8.1 c9) (fun y10_0 y10_1 h10 i10 => ⟨fun c11 => wiX12_cell (h10.1 c11) (i10.1 c11) (fun y12_0 y12_1 h12 i12 => fun x13 e13 => ⟨(h12 x13 e13).1, fun x14 e14 => fun x15 e15 => ih.2.1 _ _ _ (((h12 x13 e13).2 x14 e14) x15 e15) (((i12 x13 e13).2 x14 e14) x15 e15)⟩), fun c16 => wiX12_addsRow (h10.2 c16) (i10.2 c16) (fun y17_0 h17 i17 => ih.2.1 _ _ _ h17 i17)⟩), fun c18 => ih.2.1 _ _ _ (h8.2 c18) (i8.2 c18)⟩)⟩)⟩⟩
    · intro t li lj hQ hR
      have hQ : wbX12_laysSteps_2 (wpX12_laysSteps k) k t li lj Q := hQ
      have hR : wbX12_laysSteps_2 (wpX12_laysSteps k) k t li lj R := hR
      show wbX12_laysSteps_2 (wpX12_laysSteps k) k t li lj (fun r t => Q r t ∧ R r t)
      unfold wbX12_laysSteps_2 at hQ hR ⊢
      exact ⟨hQ, hR⟩
theorem wjX12_laysSteps {k : Nat} {t : XT}  {Q R : Int32 → XT → Prop} (hQ : wqX12_laysSteps k t  Q) (hR : wqX12_laysSteps k t  R) : wqX12_laysSteps k t  (fun r t => Q r t ∧ R r t) := (wkX12_laysStepsj Q R k).1 t _ _ hQ hR
theorem wiX12_laysSteps {k : Nat} {t : XT}  {Q R S : Int32 → XT → Prop} (hQ : wqX12_laysSteps k t  Q) (hR : wqX12_laysSteps k t  R) (f : ∀ r t, Q r t → R r t → S r t) : wqX12_laysSteps k t  S := wmX12_laysSteps (Nat.le_refl k) (fun r t h => f r t h.1 h.2) (wjX12_laysSteps hQ hR)
set_option maxHeartbeats 4000000 in
set_option maxRecDepth 100000 in
theorem wkX12_rankOfj (Q R : Int32 → XT → Prop) : ∀ k : Nat, (∀ (t : XT) (li : Nat → Int32) (lj : Nat → Int64), wpX12_rankOf k 0 t li lj Q → wpX12_rankOf k 0 t li lj R → wpX12_rankOf k 0 t li lj (fun r t => Q r t ∧ R r t)) := by
  intro k
  induction k with
  | zero => exact fun _ _ _ hR _ => False.elim hR
  | succ k ih =>
    intro t li lj hQ hR
    have hQ : wbX12_rankOf_0 (wpX12_rankOf k) k t li lj Q := hQ
    have hR : wbX12_rankOf_0 (wpX12_rankOf k) k t li lj R := hR
    show wbX12_rankOf_0 (wpX12_rankOf k) k t li lj (fun r t => Q r t ∧ R r t)
    unfold wbX12_rankOf_0 at hQ hR ⊢
    exact wiX12_in hQ hR (fun y1_0 h1 i1 => ⟨fun c2 => wiX12_laysTable (h1.1 c2) (i1.1 c2) (fun y3_0 h3 i3 => wiX12_laysSteps h3 i3 (fun y4_0 y4_1 h4 i4 => ⟨h4, i4⟩)), fun c5 => ⟨(h1.2 c5), (i1.2 c5)⟩⟩)
theorem wjX12_rankOf {k : Nat} {t : XT} {a1 : Int32} {a2 : Int32} {Q R : Int32 → XT → Prop} (hQ : wqX12_rankOf k t a1 a2 Q) (hR : wqX12_rankOf k t a1 a2 R) : wqX12_rankOf k t a1 a2 (fun r t => Q r t ∧ R r t) := (wkX12_rankOfj Q R k) t _ _ hQ hR
theorem wiX12_rankOf {k : Nat} {t : XT} {a1 : Int32} {a2 : Int32} {Q R S : Int32 → XT → Prop} (hQ : wqX12_rankOf k t a1 a2 Q) (hR : wqX12_rankOf k t a1 a2 R) (f : ∀ r t, Q r t → R r t → S r t) : wqX12_rankOf k t a1 a2 S := wmX12_rankOf (Nat.le_refl k) (fun r t h => f r t h.1 h.2) (wjX12_rankOf hQ hR)
set_option maxHeartbeats 4000000 in
set_option maxRecDepth 100000 in
theorem wkX12_bettiTakenj (Q R : Int32 → XT → Prop) : ∀ k : Nat, (∀ (t : XT) (li : Nat → Int32) (lj : Nat → Int64), wpX12_bettiTaken k 0 t li lj Q → wpX12_bettiTaken k 0 t li lj R → wpX12_bettiTaken k 0 t li lj (fun r t => Q r t ∧ R r t)) := by
  intro k
  induction k with
  | zero => exact fun _ _ _ hR _ => False.elim hR
  | succ k ih =>
    intro t li lj hQ hR
    have hQ : wbX12_bettiTaken_0 (wpX12_bettiTaken k) k t li lj Q := hQ
    have hR : wbX12_bettiTaken_0 (wpX12_bettiTaken k) k t li lj R := hR
    show wbX12_bettiTaken_0 (wpX12_bettiTaken k) k t li lj (fun r t => Q r t ∧ R r t)
    unfold wbX12_bettiTaken_0 at hQ hR ⊢
    exact wiX12_takenOf hQ hR (fun y1_0 y1_1 h1 i1 => wiX12_rankOf h1 i1 (fun y2_0 y2_1 h2 i2 => fun x3 e3 => fun x4 e4 => wiX12_rankOf ((h2 x3 e3) x4 e4) ((i2 x3 e3) x4 e4) (fun y5_0 y5_1 h5 i5 => fun x6 e6 => ⟨(h5 x6 e6), (i5 x6 e6)⟩)))
theorem wjX12_bettiTaken {k : Nat} {t : XT} {a1 : Int32} {a2 : Int32} {Q R : Int32 → XT → Prop} (hQ : wqX12_bettiTaken k t a1 a2 Q) (hR : wqX12_bettiTaken k t a1 a2 R) : wqX12_bettiTaken k t a1 a2 (fun r t => Q r t ∧ R r t) := (wkX12_bettiTakenj Q R k) t _ _ hQ hR
theorem wiX12_bettiTaken {k : Nat} {t : XT} {a1 : Int32} {a2 : Int32} {Q R S : Int32 → XT → Prop} (hQ : wqX12_bettiTaken k t a1 a2 Q) (hR : wqX12_bettiTaken k t a1 a2 R) (f : ∀ r t, Q r t → R r t → S r t) : wqX12_bettiTaken k t a1 a2 S := wmX12_bettiTaken (Nat.le_refl k) (fun r t h => f r t h.1 h.2) (wjX12_bettiTaken hQ hR)
set_option maxHeartbeats 4000000 in
set_option maxRecDepth 100000 in
theorem wkX12_bettij (Q R : Int32 → XT → Prop) : ∀ k : Nat, (∀ (t : XT) (li : Nat → Int32) (lj : Nat → Int64), wpX12_betti k 0 t li lj Q → wpX12_betti k 0 t li lj R → wpX12_betti k 0 t li lj (fun r t => Q r t ∧ R r t)) ∧ (∀ (t : XT) (li : Nat → Int32) (lj : Nat → Int64), wpX12_betti k 1 t li lj Q → wpX12_betti k 1 t li lj R → wpX12_betti k 1 t li lj (fun r t => Q r t ∧ R r t)) := by
  intro k
  induction k with
  | zero => exact ⟨fun _ _ _ hR _ => False.elim hR, fun _ _ _ hR _ => False.elim hR⟩
  | succ k ih =>
    refine ⟨?_, ?_⟩
    · intro t li lj hQ hR
      have hQ : wbX12_betti_0 (wpX12_betti k) k t li lj Q := hQ
      have hR : wbX12_betti_0 (wpX12_betti k) k t li lj R := hR
      show wbX12_betti_0 (wpX12_betti k) k t li lj (fun r t => Q r t ∧ R r t)
      unfold wbX12_betti_0 at hQ hR ⊢
      exact wiX12_in hQ hR (fun y1_0 h1 i1 => ⟨fun c2 => ih.2 _ _ _ (h1.1 c2) (i1.1 c2), fun c3 => wiX12_in (h1.2 c3) (i1.2 c3) (fun y4_0 h4 i4 => ⟨fun c5 => wiX12_takes (h4.1 c5) (i4.1 c5) (fun y6_0 h6 i6 => wiX12_bettiTaken h6 i6 (fun y7_0 y7_1 h7 i7 => ⟨h7, i7⟩)), fun c8 => ih.2 _ _ _ (h4.2 c8) (i4.2 c8)⟩)⟩)
    · intro t li lj hQ hR
      have hQ : wbX12_betti_1 (wpX12_betti k) k t li lj Q := hQ
      have hR : wbX12_betti_1 (wpX12_betti k) k t li lj R := hR
      show wbX12_betti_1 (wpX12_betti k) k t li lj (fun r t => Q r t ∧ R r t)
      unfold wbX12_betti_1 at hQ hR ⊢
      exact ⟨hQ, hR⟩
theorem wjX12_betti {k : Nat} {t : XT} {a1 : Int32} {a2 : Int32} {Q R : Int32 → XT → Prop} (hQ : wqX12_betti k t a1 a2 Q) (hR : wqX12_betti k t a1 a2 R) : wqX12_betti k t a1 a2 (fun r t => Q r t ∧ R r t) := (wkX12_bettij Q R k).1 t _ _ hQ hR
theorem wiX12_betti {k : Nat} {t : XT} {a1 : Int32} {a2 : Int32} {Q R S : Int32 → XT → Prop} (hQ : wqX12_betti k t a1 a2 Q) (hR : wqX12_betti k t a1 a2 R) (f : ∀ r t, Q r t → R r t → S r t) : wqX12_betti k t a1 a2 S := wmX12_betti (Nat.le_refl k) (fun r t h => f r t h.1 h.2) (wjX12_betti hQ hR)
set_option maxHeartbeats 4000000 in
set_option maxRecDepth 100000 in
theorem wkX12_torsionj (Q R : Int64 → XT → Prop) : ∀ k : Nat, (∀ (t : XT) (li : Nat → Int32) (lj : Nat → Int64), wpX12_torsion k 0 t li lj Q → wpX12_torsion k 0 t li lj R → wpX12_torsion k 0 t li lj (fun r t => Q r t ∧ R r t)) ∧ (∀ (t : XT) (li : Nat → Int32) (lj : Nat → Int64), wpX12_torsion k 1 t li lj Q → wpX12_torsion k 1 t li lj R → wpX12_torsion k 1 t li lj (fun r t => Q r t ∧ R r t)) ∧ (∀ (t : XT) (li : Nat → Int32) (lj : Nat → Int64), wpX12_torsion k 2 t li lj Q → wpX12_torsion k 2 t li lj R → wpX12_torsion k 2 t li lj (fun r t => Q r t ∧ R r t)) ∧ (∀ (t : XT) (li : Nat → Int32) (lj : Nat → Int64), wpX12_torsion k 3 t li lj Q → wpX12_torsion k 3 t li lj R → wpX12_torsion k 3 t li lj (fun r t => Q r t ∧ R r t)) := by
  intro k
  induction k with
  | zero => exact ⟨fun _ _ _ hR _ => False.elim hR, fun _ _ _ hR _ => False.elim hR, fun _ _ _ hR _ => False.elim hR, fun _ _ _ hR _ => False.elim hR⟩
  | succ k ih =>
    refine ⟨?_, ?_, ?_, ?_⟩
    · intro t li lj hQ hR
      have hQ : wbX12_torsion_0 (wpX12_torsion k) k t li lj Q := hQ
      have hR : wbX12_torsion_0 (wpX12_torsion k) k t li lj R := hR
      show wbX12_torsion_0 (wpX12_torsion k) k t li lj (fun r t => Q r t ∧ R r t)
      unfold wbX12_torsion_0 at hQ hR ⊢
      exact wiX12_in hQ hR (fun y1_0 h1 i1 => ⟨fun c2 => ih.2.1 _ _ _ (h1.1 c2) (i1.1 c2), fun c3 => wiX12_in (h1.2 c3) (i1.2 c3) (fun y4_0 h4 i4 => ⟨fun c5 => ih.2.1 _ _ _ (h4.1 c5) (i4.1 c5), fun c6 => ⟨fun c7 => wiX12_takes ((h4.2 c6).1 c7) ((i4.2 c6).1 c7) (fun y8_0 h8 i8 => fun x9 e9 => wiX12_rankOf (h8 x9 e9) (i8 x9 e9) (fun y10_0 y10_1 h10 i10 => ih.2.2.1 _ _ _ h10 i10)), fun c11 => ih.2.1 _ _ _ ((h4.2 c6).2 c11) ((i4.2 c6).2 c11)⟩⟩)⟩)
    · intro t li lj hQ hR
      have hQ : wbX12_torsion_1 (wpX12_torsion k) k t li lj Q := hQ
      have hR : wbX12_torsion_1 (wpX12_torsion k) k t li lj R := hR
      show wbX12_torsion_1 (wpX12_torsion k) k t li lj (fun r t => Q r t ∧ R r t)
      unfold wbX12_torsion_1 at hQ hR ⊢
      exact ⟨hQ, hR⟩
    · intro t li lj hQ hR
      have hQ : wbX12_torsion_2 (wpX12_torsion k) k t li lj Q := hQ
      have hR : wbX12_torsion_2 (wpX12_torsion k) k t li lj R := hR
      show wbX12_torsion_2 (wpX12_torsion k) k t li lj (fun r t => Q r t ∧ R r t)
      unfold wbX12_torsion_2 at hQ hR ⊢
      exact ⟨fun c1 => ⟨fun c2 => ⟨((hQ.1 c1).1 c2), ((hR.1 c1).1 c2)⟩, fun c3 => fun x4 e4 => ⟨(((hQ.1 c1).2 c3) x4 e4), (((hR.1 c1).2 c3) x4 e4)⟩⟩, fun c5 => ⟨(hQ.2 c5).1, fun x6 e6 => fun x7 e7 => ⟨fun c8 => ih.2.2.2 _ _ _ ((((hQ.2 c5).2 x6 e6) x7 e7).1 c8) ((((hR.2 c5).2 x6 e6) x7 e7).1 c8), fun c9 => ⟨fun c10 => fun x11 e11 => ih.2.2.2 _ _ _ ((((((hQ.2 c5).2 x6 e6) x7 e7).2 c9).1 c10) x11 e11) ((((((hR.2 c5).2 x6 e6) x7 e7).2 c9).1 c10) x11 e11), fun c12 => ⟨(((((hQ.2 c5).2 x6 e6) x7 e7).2 c9).2 c12).1, fun x13 e13 => ⟨((((((hQ.2 c5).2 x6 e6) x7 e7).2 c9).2 c12).2 x13 e13), ((((((hR.2 c5).2 x6 e6) x7 e7).2 c9).2 c12).2 x13 e13)⟩⟩⟩⟩⟩⟩
    · intro t li lj hQ hR
      have hQ : wbX12_torsion_3 (wpX12_torsion k) k t li lj Q := hQ
      have hR : wbX12_torsion_3 (wpX12_torsion k) k t li lj R := hR
      show wbX12_torsion_3 (wpX12_torsion k) k t li lj (fun r t => Q r t ∧ R r t)
      unfold wbX12_torsion_3 at hQ hR ⊢
      exact fun x1 e1 => ih.2.2.1 _ _ _ (hQ x1 e1) (hR x1 e1)
theorem wjX12_torsion {k : Nat} {t : XT} {a1 : Int32} {a2 : Int32} {a3 : Int32} {Q R : Int64 → XT → Prop} (hQ : wqX12_torsion k t a1 a2 a3 Q) (hR : wqX12_torsion k t a1 a2 a3 R) : wqX12_torsion k t a1 a2 a3 (fun r t => Q r t ∧ R r t) := (wkX12_torsionj Q R k).1 t _ _ hQ hR
theorem wiX12_torsion {k : Nat} {t : XT} {a1 : Int32} {a2 : Int32} {a3 : Int32} {Q R S : Int64 → XT → Prop} (hQ : wqX12_torsion k t a1 a2 a3 Q) (hR : wqX12_torsion k t a1 a2 a3 R) (f : ∀ r t, Q r t → R r t → S r t) : wqX12_torsion k t a1 a2 a3 S := wmX12_torsion (Nat.le_refl k) (fun r t h => f r t h.1 h.2) (wjX12_torsion hQ hR)
set_option maxHeartbeats 4000000 in
set_option maxRecDepth 100000 in
theorem wkX12_slackj (Q R : Int32 → XT → Prop) : ∀ k : Nat, (∀ (t : XT) (li : Nat → Int32) (lj : Nat → Int64), wpX12_slack k 0 t li lj Q → wpX12_slack k 0 t li lj R → wpX12_slack k 0 t li lj (fun r t => Q r t ∧ R r t)) ∧ (∀ (t : XT) (li : Nat → Int32) (lj : Nat → Int64), wpX12_slack k 1 t li lj Q → wpX12_slack k 1 t li lj R → wpX12_slack k 1 t li lj (fun r t => Q r t ∧ R r t)) := by
  intro k
  induction k with
  | zero => exact ⟨fun _ _ _ hR _ => False.elim hR, fun _ _ _ hR _ => False.elim hR⟩
  | succ k ih =>
    refine ⟨?_, ?_⟩
    · intro t li lj hQ hR
      have hQ : wbX12_slack_0 (wpX12_slack k) k t li lj Q := hQ
      have hR : wbX12_slack_0 (wpX12_slack k) k t li lj R := hR
      show wbX12_slack_0 (wpX12_slack k) k t li lj (fun r t => Q r t ∧ R r t)
      unfold wbX12_slack_0 at hQ hR ⊢
      exact wiX12_in hQ hR (fun y1_0 h1 i1 => ⟨fun c2 => ih.2 _ _ _ (h1.1 c2) (i1.1 c2), fun c3 => ⟨(h1.2 c3), (i1.2 c3)⟩⟩)
    · intro t li lj hQ hR
      have hQ : wbX12_slack_1 (wpX12_slack k) k t li lj Q := hQ
      have hR : wbX12_slack_1 (wpX12_slack k) k t li lj R := hR
      show wbX12_slack_1 (wpX12_slack k) k t li lj (fun r t => Q r t ∧ R r t)
      unfold wbX12_slack_1 at hQ hR ⊢
      exact ⟨fun c1 => ⟨(hQ.1 c1), (hR.1 c1)⟩, fun c2 => wiX12_critical (hQ.2 c2) (hR.2 c2) (fun y3_0 y3_1 h3 i3 => wiX12_betti h3 i3 (fun y4_0 y4_1 h4 i4 => fun x5 e5 => fun x6 e6 => fun x7 e7 => ih.2 _ _ _ (((h4 x5 e5) x6 e6) x7 e7) (((i4 x5 e5) x6 e6) x7 e7)))⟩
theorem wjX12_slack {k : Nat} {t : XT} {a1 : Int32} {Q R : Int32 → XT → Prop} (hQ : wqX12_slack k t a1 Q) (hR : wqX12_slack k t a1 R) : wqX12_slack k t a1 (fun r t => Q r t ∧ R r t) := (wkX12_slackj Q R k).1 t _ _ hQ hR
theorem wiX12_slack {k : Nat} {t : XT} {a1 : Int32} {Q R S : Int32 → XT → Prop} (hQ : wqX12_slack k t a1 Q) (hR : wqX12_slack k t a1 R) (f : ∀ r t, Q r t → R r t → S r t) : wqX12_slack k t a1 S := wmX12_slack (Nat.le_refl k) (fun r t h => f r t h.1 h.2) (wjX12_slack hQ hR)
set_option maxHeartbeats 4000000 in
set_option maxRecDepth 100000 in
theorem wkX12_freej (Q R : Int32 → XT → Prop) : ∀ k : Nat, (∀ (t : XT) (li : Nat → Int32) (lj : Nat → Int64), wpX12_free k 0 t li lj Q → wpX12_free k 0 t li lj R → wpX12_free k 0 t li lj (fun r t => Q r t ∧ R r t)) ∧ (∀ (t : XT) (li : Nat → Int32) (lj : Nat → Int64), wpX12_free k 1 t li lj Q → wpX12_free k 1 t li lj R → wpX12_free k 1 t li lj (fun r t => Q r t ∧ R r t)) ∧ (∀ (t : XT) (li : Nat → Int32) (lj : Nat → Int64), wpX12_free k 2 t li lj Q → wpX12_free k 2 t li lj R → wpX12_free k 2 t li lj (fun r t => Q r t ∧ R r t)) := by
  intro k
  induction k with
  | zero => exact ⟨fun _ _ _ hR _ => False.elim hR, fun _ _ _ hR _ => False.elim hR, fun _ _ _ hR _ => False.elim hR⟩
  | succ k ih =>
    refine ⟨?_, ?_, ?_⟩
    · intro t li lj hQ hR
      have hQ : wbX12_free_0 (wpX12_free k) k t li lj Q := hQ
      have hR : wbX12_free_0 (wpX12_free k) k t li lj R := hR
      show wbX12_free_0 (wpX12_free k) k t li lj (fun r t => Q r t ∧ R r t)
      unfold wbX12_free_0 at hQ hR ⊢
      exact ⟨fun c1 => ih.2.1 _ _ _ (hQ.1 c1) (hR.1 c1), fun c2 => ⟨(hQ.2 c2), (hR.2 c2)⟩⟩
    · intro t li lj hQ hR
      have hQ : wbX12_free_1 (wpX12_free k) k t li lj Q := hQ
      have hR : wbX12_free_1 (wpX12_free k) k t li lj R := hR
      show wbX12_free_1 (wpX12_free k) k t li lj (fun r t => Q r t ∧ R r t)
      unfold wbX12_free_1 at hQ hR ⊢
      exact ⟨fun c1 => ⟨fun c2 => ⟨((hQ.1 c1).1 c2), ((hR.1 c1).1 c2)⟩, fun c3 => ⟨((hQ.1 c1).2 c3), ((hR.1 c1).2 c3)⟩⟩, fun c4 => wiX12_isFreeFace (hQ.2 c4) (hR.2 c4) (fun y5_0 y5_1 h5 i5 => ⟨fun c6 => ih.2.2 _ _ _ (h5.1 c6) (i5.1 c6), fun c7 => ⟨fun c8 => fun x9 e9 => ih.2.2 _ _ _ (((h5.2 c7).1 c8) x9 e9) (((i5.2 c7).1 c8) x9 e9), fun c10 => ⟨((h5.2 c7).2 c10), ((i5.2 c7).2 c10)⟩⟩⟩)⟩
    · intro t li lj hQ hR
      have hQ : wbX12_free_2 (wpX12_free k) k t li lj Q := hQ
      have hR : wbX12_free_2 (wpX12_free k) k t li lj R := hR
      show wbX12_free_2 (wpX12_free k) k t li lj (fun r t => Q r t ∧ R r t)
      unfold wbX12_free_2 at hQ hR ⊢
      exact fun x1 e1 => ih.2.1 _ _ _ (hQ x1 e1) (hR x1 e1)
theorem wjX12_free {k : Nat} {t : XT} {a1 : Int32} {Q R : Int32 → XT → Prop} (hQ : wqX12_free k t a1 Q) (hR : wqX12_free k t a1 R) : wqX12_free k t a1 (fun r t => Q r t ∧ R r t) := (wkX12_freej Q R k).1 t _ _ hQ hR
theorem wiX12_free {k : Nat} {t : XT} {a1 : Int32} {Q R S : Int32 → XT → Prop} (hQ : wqX12_free k t a1 Q) (hR : wqX12_free k t a1 R) (f : ∀ r t, Q r t → R r t → S r t) : wqX12_free k t a1 S := wmX12_free (Nat.le_refl k) (fun r t h => f r t h.1 h.2) (wjX12_free hQ hR)
set_option maxHeartbeats 4000000 in
set_option maxRecDepth 100000 in
theorem wkX12_facetj (Q R : Int32 → XT → Prop) : ∀ k : Nat, (∀ (t : XT) (li : Nat → Int32) (lj : Nat → Int64), wpX12_facet k 0 t li lj Q → wpX12_facet k 0 t li lj R → wpX12_facet k 0 t li lj (fun r t => Q r t ∧ R r t)) ∧ (∀ (t : XT) (li : Nat → Int32) (lj : Nat → Int64), wpX12_facet k 1 t li lj Q → wpX12_facet k 1 t li lj R → wpX12_facet k 1 t li lj (fun r t => Q r t ∧ R r t)) ∧ (∀ (t : XT) (li : Nat → Int32) (lj : Nat → Int64), wpX12_facet k 2 t li lj Q → wpX12_facet k 2 t li lj R → wpX12_facet k 2 t li lj (fun r t => Q r t ∧ R r t)) := by
  intro k
  induction k with
  | zero => exact ⟨fun _ _ _ hR _ => False.elim hR, fun _ _ _ hR _ => False.elim hR, fun _ _ _ hR _ => False.elim hR⟩
  | succ k ih =>
    refine ⟨?_, ?_, ?_⟩
    · intro t li lj hQ hR
      have hQ : wbX12_facet_0 (wpX12_facet k) k t li lj Q := hQ
      have hR : wbX12_facet_0 (wpX12_facet k) k t li lj R := hR
      show wbX12_facet_0 (wpX12_facet k) k t li lj (fun r t => Q r t ∧ R r t)
      unfold wbX12_facet_0 at hQ hR ⊢
      exact ⟨fun c1 => ih.2.1 _ _ _ (hQ.1 c1) (hR.1 c1), fun c2 => ⟨(hQ.2 c2), (hR.2 c2)⟩⟩
    · intro t li lj hQ hR
      have hQ : wbX12_facet_1 (wpX12_facet k) k t li lj Q := hQ
      have hR : wbX12_facet_1 (wpX12_facet k) k t li lj R := hR
      show wbX12_facet_1 (wpX12_facet k) k t li lj (fun r t => Q r t ∧ R r t)
      unfold wbX12_facet_1 at hQ hR ⊢
      exact ⟨fun c1 => ⟨fun c2 => ⟨((hQ.1 c1).1 c2), ((hR.1 c1).1 c2)⟩, fun c3 => ⟨((hQ.1 c1).2 c3), ((hR.1 c1).2 c3)⟩⟩, fun c4 => wiX12_isThere (hQ.2 c4) (hR.2 c4) (fun y5_0 y5_1 h5 i5 => ⟨fun c6 => ih.2.2 _ _ _ (h5.1 c6) (i5.1 c6), fun c7 => wiX12_facesOver (h5.2 c7) (i5.2 c7) (fun y8_0 y8_1 h8 i8 => ⟨fun c9 => ih.2.2 _ _ _ (h8.1 c9) (i8.1 c9), fun c10 => ⟨fun c11 => fun x12 e12 => ih.2.2 _ _ _ (((h8.2 c10).1 c11) x12 e12) (((i8.2 c10).1 c11) x12 e12), fun c13 => ⟨((h8.2 c10).2 c13), ((i8.2 c10).2 c13)⟩⟩⟩)⟩)⟩
    · intro t li lj hQ hR
      have hQ : wbX12_facet_2 (wpX12_facet k) k t li lj Q := hQ
      have hR : wbX12_facet_2 (wpX12_facet k) k t li lj R := hR
      show wbX12_facet_2 (wpX12_facet k) k t li lj (fun r t => Q r t ∧ R r t)
      unfold wbX12_facet_2 at hQ hR ⊢
      exact fun x1 e1 => ih.2.1 _ _ _ (hQ x1 e1) (hR x1 e1)
theorem wjX12_facet {k : Nat} {t : XT} {a1 : Int32} {Q R : Int32 → XT → Prop} (hQ : wqX12_facet k t a1 Q) (hR : wqX12_facet k t a1 R) : wqX12_facet k t a1 (fun r t => Q r t ∧ R r t) := (wkX12_facetj Q R k).1 t _ _ hQ hR
theorem wiX12_facet {k : Nat} {t : XT} {a1 : Int32} {Q R S : Int32 → XT → Prop} (hQ : wqX12_facet k t a1 Q) (hR : wqX12_facet k t a1 R) (f : ∀ r t, Q r t → R r t → S r t) : wqX12_facet k t a1 S := wmX12_facet (Nat.le_refl k) (fun r t h => f r t h.1 h.2) (wjX12_facet hQ hR)
