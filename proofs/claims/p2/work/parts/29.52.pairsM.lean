set_option maxHeartbeats 4000000 in
set_option maxRecDepth 100000 in
theorem qfX12_squareOf {G : XT → Prop} (hk : kpQ G) (Q : Int64 → XT → Prop) : ∀ k : Nat, (∀ (t : XT) (li : Nat → Int32) (lj : Nat → Int64), G t → wpX12_squareOf k 0 t li lj Q → wpX12_squareOf k 0 t li lj (fun r t => Q r t ∧ G t)) ∧ (∀ (t : XT) (li : Nat → Int32) (lj : Nat → Int64), G t → wpX12_squareOf k 1 t li lj Q → wpX12_squareOf k 1 t li lj (fun r t => Q r t ∧ G t)) ∧ (∀ (t : XT) (li : Nat → Int32) (lj : Nat → Int64), G t → wpX12_squareOf k 2 t li lj Q → wpX12_squareOf k 2 t li lj (fun r t => Q r t ∧ G t)) := by
  intro k
  induction k with
  | zero => exact ⟨fun _ _ _ _ hR => False.elim hR, fun _ _ _ _ hR => False.elim hR, fun _ _ _ _ hR => False.elim hR⟩
  | succ k ih =>
    refine ⟨?_, ?_, ?_⟩
    · intro t li lj g hR
      have hR : wbX12_squareOf_0 (wpX12_squareOf k) k t li lj Q := hR
      show wbX12_squareOf_0 (wpX12_squareOf k) k t li lj (fun r t => Q r t ∧ G t)
      unfold wbX12_squareOf_0 at hR ⊢
      exact ih.2.1 _ _ _ g hR
    · intro t li lj g hR
      have hR : wbX12_squareOf_1 (wpX12_squareOf k) k t li lj Q := hR
      show wbX12_squareOf_1 (wpX12_squareOf k) k t li lj (fun r t => Q r t ∧ G t)
      unfold wbX12_squareOf_1 at hR ⊢
      exact ⟨fun c1 => ⟨(hR.1 c1), g⟩, fun c2 => qtX12_areEnds hk g (hR.2 c2) (fun y3_0 y3_1 h3 g3 => ⟨fun c4 => ih.2.2 _ _ _ g3 (h3.1 c4), fun c5 => qtX12_areEnds hk g3 (h3.2 c5) (fun y6_0 y6_1 h6 g6 => ⟨fun c7 => ih.2.2 _ _ _ g6 (h6.1 c7), fun c8 => qtX12_incidenceOf hk g6 (h6.2 c8) (fun y9_0 y9_1 h9 g9 => qtX12_incidenceOf hk g9 h9 (fun y10_0 y10_1 h10 g10 => fun x11 e11 => fun x12 e12 => ih.2.2 _ _ _ g10 ((h10 x11 e11) x12 e12)))⟩)⟩)⟩
    · intro t li lj g hR
      have hR : wbX12_squareOf_2 (wpX12_squareOf k) k t li lj Q := hR
      show wbX12_squareOf_2 (wpX12_squareOf k) k t li lj (fun r t => Q r t ∧ G t)
      unfold wbX12_squareOf_2 at hR ⊢
      exact fun x1 e1 => ih.2.1 _ _ _ g (hR x1 e1)
theorem qgX12_squareOf {G : XT → Prop} {k : Nat} {t : XT} {a1 : Int32} {a2 : Int32} {Q : Int64 → XT → Prop} (hk : kpQ G) (g : G t) (hR : wqX12_squareOf k t a1 a2 Q) : wqX12_squareOf k t a1 a2 (fun r t => Q r t ∧ G t) := (qfX12_squareOf hk Q k).1 t _ _ g hR
theorem qtX12_squareOf {G : XT → Prop} {k : Nat} {t : XT} {a1 : Int32} {a2 : Int32} {Q Q' : Int64 → XT → Prop} (hk : kpQ G) (g : G t) (hR : wqX12_squareOf k t a1 a2 Q) (hQ : (∀ r t, Q r t → G t → Q' r t)) : wqX12_squareOf k t a1 a2 Q' := wmX12_squareOf (Nat.le_refl k) (fun r t h => hQ r t h.1 h.2) (qgX12_squareOf hk g hR)
set_option maxHeartbeats 4000000 in
set_option maxRecDepth 100000 in
theorem qfX12_squares {G : XT → Prop} (hk : kpQ G) (Q : Int32 → XT → Prop) : ∀ k : Nat, (∀ (t : XT) (li : Nat → Int32) (lj : Nat → Int64), G t → wpX12_squares k 0 t li lj Q → wpX12_squares k 0 t li lj (fun r t => Q r t ∧ G t)) ∧ (∀ (t : XT) (li : Nat → Int32) (lj : Nat → Int64), G t → wpX12_squares k 1 t li lj Q → wpX12_squares k 1 t li lj (fun r t => Q r t ∧ G t)) ∧ (∀ (t : XT) (li : Nat → Int32) (lj : Nat → Int64), G t → wpX12_squares k 2 t li lj Q → wpX12_squares k 2 t li lj (fun r t => Q r t ∧ G t)) ∧ (∀ (t : XT) (li : Nat → Int32) (lj : Nat → Int64), G t → wpX12_squares k 3 t li lj Q → wpX12_squares k 3 t li lj (fun r t => Q r t ∧ G t)) ∧ (∀ (t : XT) (li : Nat → Int32) (lj : Nat → Int64), G t → wpX12_squares k 4 t li lj Q → wpX12_squares k 4 t li lj (fun r t => Q r t ∧ G t)) := by
  intro k
  induction k with
  | zero => exact ⟨fun _ _ _ _ hR => False.elim hR, fun _ _ _ _ hR => False.elim hR, fun _ _ _ _ hR => False.elim hR, fun _ _ _ _ hR => False.elim hR, fun _ _ _ _ hR => False.elim hR⟩
  | succ k ih =>
    refine ⟨?_, ?_, ?_, ?_, ?_⟩
    · intro t li lj g hR
      have hR : wbX12_squares_0 (wpX12_squares k) k t li lj Q := hR
      show wbX12_squares_0 (wpX12_squares k) k t li lj (fun r t => Q r t ∧ G t)
      unfold wbX12_squares_0 at hR ⊢
      exact ih.2.1 _ _ _ g hR
    · intro t li lj g hR
      have hR : wbX12_squares_1 (wpX12_squares k) k t li lj Q := hR
      show wbX12_squares_1 (wpX12_squares k) k t li lj (fun r t => Q r t ∧ G t)
      unfold wbX12_squares_1 at hR ⊢
      exact ⟨fun c1 => ⟨(hR.1 c1), g⟩, fun c2 => ih.2.2.1 _ _ _ g (hR.2 c2)⟩
    · intro t li lj g hR
      have hR : wbX12_squares_2 (wpX12_squares k) k t li lj Q := hR
      show wbX12_squares_2 (wpX12_squares k) k t li lj (fun r t => Q r t ∧ G t)
      unfold wbX12_squares_2 at hR ⊢
      exact ⟨fun c1 => fun x2 e2 => ih.2.1 _ _ _ g ((hR.1 c1) x2 e2), fun c3 => qtX12_isCritical hk g (hR.2 c3) (fun y4_0 y4_1 h4 g4 => ⟨fun c5 => ih.2.2.2.2 _ _ _ g4 (h4.1 c5), fun c6 => qtX12_isCritical hk g4 (h4.2 c6) (fun y7_0 y7_1 h7 g7 => ⟨fun c8 => ih.2.2.2.2 _ _ _ g7 (h7.1 c8), fun c9 => qtX12_dimOf hk g7 (h7.2 c9) (fun y10_0 y10_1 h10 g10 => qtX12_dimOf hk g10 h10 (fun y11_0 y11_1 h11 g11 => fun x12 e12 => ⟨fun c13 => ih.2.2.2.2 _ _ _ g11 ((h11 x12 e12).1 c13), fun c14 => qtX12_squareOf hk g11 ((h11 x12 e12).2 c14) (fun y15_0 y15_1 h15 g15 => fun x16 e16 => ⟨fun c17 => ih.2.2.2.1 _ _ _ g15 ((h15 x16 e16).1 c17), fun c18 => ih.2.2.2.1 _ _ _ g15 ((h15 x16 e16).2 c18)⟩)⟩))⟩)⟩)⟩
    · intro t li lj g hR
      have hR : wbX12_squares_3 (wpX12_squares k) k t li lj Q := hR
      show wbX12_squares_3 (wpX12_squares k) k t li lj (fun r t => Q r t ∧ G t)
      unfold wbX12_squares_3 at hR ⊢
      exact wcX12_truth hR (fun y1_0 h1 => fun x2 e2 => ih.2.2.2.2 _ _ _ g (h1 x2 e2))
    · intro t li lj g hR
      have hR : wbX12_squares_4 (wpX12_squares k) k t li lj Q := hR
      show wbX12_squares_4 (wpX12_squares k) k t li lj (fun r t => Q r t ∧ G t)
      unfold wbX12_squares_4 at hR ⊢
      exact fun x1 e1 => ih.2.2.1 _ _ _ g (hR x1 e1)
theorem qgX12_squares {G : XT → Prop} {k : Nat} {t : XT}  {Q : Int32 → XT → Prop} (hk : kpQ G) (g : G t) (hR : wqX12_squares k t  Q) : wqX12_squares k t  (fun r t => Q r t ∧ G t) := (qfX12_squares hk Q k).1 t _ _ g hR
theorem qtX12_squares {G : XT → Prop} {k : Nat} {t : XT}  {Q Q' : Int32 → XT → Prop} (hk : kpQ G) (g : G t) (hR : wqX12_squares k t  Q) (hQ : (∀ r t, Q r t → G t → Q' r t)) : wqX12_squares k t  Q' := wmX12_squares (Nat.le_refl k) (fun r t h => hQ r t h.1 h.2) (qgX12_squares hk g hR)
set_option maxHeartbeats 4000000 in
set_option maxRecDepth 100000 in
theorem qfX12_takes {G : XT → Prop} (hk : kpQ G) (Q : XT → Prop) : ∀ k : Nat, (∀ (t : XT) (li : Nat → Int32) (lj : Nat → Int64), G t → wpX12_takes k 0 t li lj Q → wpX12_takes k 0 t li lj (fun t => Q t ∧ G t)) ∧ (∀ (t : XT) (li : Nat → Int32) (lj : Nat → Int64), G t → wpX12_takes k 1 t li lj Q → wpX12_takes k 1 t li lj (fun t => Q t ∧ G t)) ∧ (∀ (t : XT) (li : Nat → Int32) (lj : Nat → Int64), G t → wpX12_takes k 2 t li lj Q → wpX12_takes k 2 t li lj (fun t => Q t ∧ G t)) := by
  intro k
  induction k with
  | zero => exact ⟨fun _ _ _ _ hR => False.elim hR, fun _ _ _ _ hR => False.elim hR, fun _ _ _ _ hR => False.elim hR⟩
  | succ k ih =>
    refine ⟨?_, ?_, ?_⟩
    · intro t li lj g hR
      have hR : wbX12_takes_0 (wpX12_takes k) k t li lj Q := hR
      show wbX12_takes_0 (wpX12_takes k) k t li lj (fun t => Q t ∧ G t)
      unfold wbX12_takes_0 at hR ⊢
      exact ih.2.1 _ _ _ g hR
    · intro t li lj g hR
      have hR : wbX12_takes_1 (wpX12_takes k) k t li lj Q := hR
      show wbX12_takes_1 (wpX12_takes k) k t li lj (fun t => Q t ∧ G t)
      unfold wbX12_takes_1 at hR ⊢
      exact ⟨fun c1 => ⟨(hR.1 c1), g⟩, fun c2 => ⟨fun c3 => qtX12_isCritical hk g ((hR.2 c2).1 c3) (fun y4_0 y4_1 h4 g4 => ih.2.2 _ _ _ g4 h4), fun c5 => ⟨((hR.2 c2).2 c5).1, fun x6 e6 => ⟨fun c7 => ih.2.2 _ _ _ g ((((hR.2 c2).2 c5).2 x6 e6).1 c7), fun c8 => ih.2.2 _ _ _ g ((((hR.2 c2).2 c5).2 x6 e6).2 c8)⟩⟩⟩⟩
    · intro t li lj g hR
      have hR : wbX12_takes_2 (wpX12_takes k) k t li lj Q := hR
      show wbX12_takes_2 (wpX12_takes k) k t li lj (fun t => Q t ∧ G t)
      unfold wbX12_takes_2 at hR ⊢
      exact ⟨hR.1, fun x1 e1 => have g1 : G x1 := (by rw [e1]; exact hk.2.2.1 _ _ _ (by decide) (by decide) (by decide) (by decide) (by decide) g); fun x2 e2 => ih.2.1 _ _ _ g1 ((hR.2 x1 e1) x2 e2)⟩
theorem qgX12_takes {G : XT → Prop} {k : Nat} {t : XT} {a1 : Int32} {Q : XT → Prop} (hk : kpQ G) (g : G t) (hR : wqX12_takes k t a1 Q) : wqX12_takes k t a1 (fun t => Q t ∧ G t) := (qfX12_takes hk Q k).1 t _ _ g hR
theorem qtX12_takes {G : XT → Prop} {k : Nat} {t : XT} {a1 : Int32} {Q Q' : XT → Prop} (hk : kpQ G) (g : G t) (hR : wqX12_takes k t a1 Q) (hQ : (∀ t, Q t → G t → Q' t)) : wqX12_takes k t a1 Q' := wmX12_takes (Nat.le_refl k) (fun t h => hQ t h.1 h.2) (qgX12_takes hk g hR)
set_option maxHeartbeats 4000000 in
set_option maxRecDepth 100000 in
theorem qfX12_takenOf {G : XT → Prop} (hk : kpQ G) (Q : Int32 → XT → Prop) : ∀ k : Nat, (∀ (t : XT) (li : Nat → Int32) (lj : Nat → Int64), G t → wpX12_takenOf k 0 t li lj Q → wpX12_takenOf k 0 t li lj (fun r t => Q r t ∧ G t)) ∧ (∀ (t : XT) (li : Nat → Int32) (lj : Nat → Int64), G t → wpX12_takenOf k 1 t li lj Q → wpX12_takenOf k 1 t li lj (fun r t => Q r t ∧ G t)) ∧ (∀ (t : XT) (li : Nat → Int32) (lj : Nat → Int64), G t → wpX12_takenOf k 2 t li lj Q → wpX12_takenOf k 2 t li lj (fun r t => Q r t ∧ G t)) ∧ (∀ (t : XT) (li : Nat → Int32) (lj : Nat → Int64), G t → wpX12_takenOf k 3 t li lj Q → wpX12_takenOf k 3 t li lj (fun r t => Q r t ∧ G t)) := by
  intro k
  induction k with
  | zero => exact ⟨fun _ _ _ _ hR => False.elim hR, fun _ _ _ _ hR => False.elim hR, fun _ _ _ _ hR => False.elim hR, fun _ _ _ _ hR => False.elim hR⟩
  | succ k ih =>
    refine ⟨?_, ?_, ?_, ?_⟩
    · intro t li lj g hR
      have hR : wbX12_takenOf_0 (wpX12_takenOf k) k t li lj Q := hR
      show wbX12_takenOf_0 (wpX12_takenOf k) k t li lj (fun r t => Q r t ∧ G t)
      unfold wbX12_takenOf_0 at hR ⊢
      exact ih.2.1 _ _ _ g hR
    · intro t li lj g hR
      have hR : wbX12_takenOf_1 (wpX12_takenOf k) k t li lj Q := hR
      show wbX12_takenOf_1 (wpX12_takenOf k) k t li lj (fun r t => Q r t ∧ G t)
      unfold wbX12_takenOf_1 at hR ⊢
      exact ⟨fun c1 => ⟨(hR.1 c1), g⟩, fun c2 => ⟨(hR.2 c2).1, fun x3 e3 => ⟨fun c4 => ih.2.2.1 _ _ _ g (((hR.2 c2).2 x3 e3).1 c4), fun c5 => qtX12_dimOf hk g (((hR.2 c2).2 x3 e3).2 c5) (fun y6_0 y6_1 h6 g6 => ⟨fun c7 => ih.2.2.1 _ _ _ g6 (h6.1 c7), fun c8 => ih.2.2.2 _ _ _ g6 (h6.2 c8)⟩)⟩⟩⟩
    · intro t li lj g hR
      have hR : wbX12_takenOf_2 (wpX12_takenOf k) k t li lj Q := hR
      show wbX12_takenOf_2 (wpX12_takenOf k) k t li lj (fun r t => Q r t ∧ G t)
      unfold wbX12_takenOf_2 at hR ⊢
      exact ih.2.2.2 _ _ _ g hR
    · intro t li lj g hR
      have hR : wbX12_takenOf_3 (wpX12_takenOf k) k t li lj Q := hR
      show wbX12_takenOf_3 (wpX12_takenOf k) k t li lj (fun r t => Q r t ∧ G t)
      unfold wbX12_takenOf_3 at hR ⊢
      exact wcX12_truth hR (fun y1_0 h1 => fun x2 e2 => fun x3 e3 => ih.2.1 _ _ _ g ((h1 x2 e2) x3 e3))
theorem qgX12_takenOf {G : XT → Prop} {k : Nat} {t : XT} {a1 : Int32} {Q : Int32 → XT → Prop} (hk : kpQ G) (g : G t) (hR : wqX12_takenOf k t a1 Q) : wqX12_takenOf k t a1 (fun r t => Q r t ∧ G t) := (qfX12_takenOf hk Q k).1 t _ _ g hR
theorem qtX12_takenOf {G : XT → Prop} {k : Nat} {t : XT} {a1 : Int32} {Q Q' : Int32 → XT → Prop} (hk : kpQ G) (g : G t) (hR : wqX12_takenOf k t a1 Q) (hQ : (∀ r t, Q r t → G t → Q' r t)) : wqX12_takenOf k t a1 Q' := wmX12_takenOf (Nat.le_refl k) (fun r t h => hQ r t h.1 h.2) (qgX12_takenOf hk g hR)
set_option maxHeartbeats 4000000 in
set_option maxRecDepth 100000 in
theorem qfX12_laysTable {G : XT → Prop} (hk : kpQ G) (Q : XT → Prop) : ∀ k : Nat, (∀ (t : XT) (li : Nat → Int32) (lj : Nat → Int64), G t → wpX12_laysTable k 0 t li lj Q → wpX12_laysTable k 0 t li lj (fun t => Q t ∧ G t)) ∧ (∀ (t : XT) (li : Nat → Int32) (lj : Nat → Int64), G t → wpX12_laysTable k 1 t li lj Q → wpX12_laysTable k 1 t li lj (fun t => Q t ∧ G t)) ∧ (∀ (t : XT) (li : Nat → Int32) (lj : Nat → Int64), G t → wpX12_laysTable k 2 t li lj Q → wpX12_laysTable k 2 t li lj (fun t => Q t ∧ G t)) ∧ (∀ (t : XT) (li : Nat → Int32) (lj : Nat → Int64), G t → wpX12_laysTable k 3 t li lj Q → wpX12_laysTable k 3 t li lj (fun t => Q t ∧ G t)) ∧ (∀ (t : XT) (li : Nat → Int32) (lj : Nat → Int64), G t → wpX12_laysTable k 4 t li lj Q → wpX12_laysTable k 4 t li lj (fun t => Q t ∧ G t)) ∧ (∀ (t : XT) (li : Nat → Int32) (lj : Nat → Int64), G t → wpX12_laysTable k 5 t li lj Q → wpX12_laysTable k 5 t li lj (fun t => Q t ∧ G t)) := by
  intro k
  induction k with
  | zero => exact ⟨fun _ _ _ _ hR => False.elim hR, fun _ _ _ _ hR => False.elim hR, fun _ _ _ _ hR => False.elim hR, fun _ _ _ _ hR => False.elim hR, fun _ _ _ _ hR => False.elim hR, fun _ _ _ _ hR => False.elim hR⟩
  | succ k ih =>
    refine ⟨?_, ?_, ?_, ?_, ?_, ?_⟩
    · intro t li lj g hR
      have hR : wbX12_laysTable_0 (wpX12_laysTable k) k t li lj Q := hR
      show wbX12_laysTable_0 (wpX12_laysTable k) k t li lj (fun t => Q t ∧ G t)
      unfold wbX12_laysTable_0 at hR ⊢
      exact qtX12_takenOf hk g hR (fun y1_0 y1_1 h1 g1 => fun x2 e2 => have g2 : G x2 := (by rw [e2]; exact hk.1 _ _ _ (by decide) g1); fun x3 e3 => qtX12_takenOf hk g2 ((h1 x2 e2) x3 e3) (fun y4_0 y4_1 h4 g4 => fun x5 e5 => have g5 : G x5 := (by rw [e5]; exact hk.1 _ _ _ (by decide) g4); ih.2.1 _ _ _ g5 (h4 x5 e5)))
    · intro t li lj g hR
      have hR : wbX12_laysTable_1 (wpX12_laysTable k) k t li lj Q := hR
      show wbX12_laysTable_1 (wpX12_laysTable k) k t li lj (fun t => Q t ∧ G t)
      unfold wbX12_laysTable_1 at hR ⊢
      exact ⟨fun c1 => ⟨(hR.1 c1), g⟩, fun c2 => ⟨(hR.2 c2).1, fun x3 e3 => ⟨fun c4 => ih.2.2.2.2.2 _ _ _ g (((hR.2 c2).2 x3 e3).1 c4), fun c5 => qtX12_dimOf hk g (((hR.2 c2).2 x3 e3).2 c5) (fun y6_0 y6_1 h6 g6 => ⟨fun c7 => ih.2.2.1 _ _ _ g6 (h6.1 c7), fun c8 => ih.2.2.2.2.2 _ _ _ g6 (h6.2 c8)⟩)⟩⟩⟩
    · intro t li lj g hR
      have hR : wbX12_laysTable_2 (wpX12_laysTable k) k t li lj Q := hR
      show wbX12_laysTable_2 (wpX12_laysTable k) k t li lj (fun t => Q t ∧ G t)
      unfold wbX12_laysTable_2 at hR ⊢
      exact ⟨fun c1 => fun x2 e2 => ih.2.2.2.2.2 _ _ _ g ((hR.1 c1) x2 e2), fun c3 => ⟨(hR.2 c3).1, fun x4 e4 => ⟨fun c5 => ih.2.2.2.2.1 _ _ _ g (((hR.2 c3).2 x4 e4).1 c5), fun c6 => qtX12_dimOf hk g (((hR.2 c3).2 x4 e4).2 c6) (fun y7_0 y7_1 h7 g7 => fun x8 e8 => ⟨fun c9 => ih.2.2.2.2.1 _ _ _ g7 ((h7 x8 e8).1 c9), fun c10 => fun x11 e11 => fun x12 e12 => ⟨fun c13 => qtX12_isFace hk g7 (((((h7 x8 e8).2 c10) x11 e11) x12 e12).1 c13) (fun y14_0 y14_1 h14 g14 => ⟨fun c15 => ih.2.2.2.1 _ _ _ g14 (h14.1 c15), fun c16 => qtX12_signOf hk g14 (h14.2 c16) (fun y17_0 y17_1 h17 g17 => fun x18 e18 => ih.2.2.2.1 _ _ _ g17 (h17 x18 e18))⟩), fun c19 => qtX12_incidenceOf hk g7 (((((h7 x8 e8).2 c10) x11 e11) x12 e12).2 c19) (fun y20_0 y20_1 h20 g20 => ih.2.2.2.1 _ _ _ g20 h20)⟩⟩)⟩⟩⟩
    · intro t li lj g hR
      have hR : wbX12_laysTable_3 (wpX12_laysTable k) k t li lj Q := hR
      show wbX12_laysTable_3 (wpX12_laysTable k) k t li lj (fun t => Q t ∧ G t)
      unfold wbX12_laysTable_3 at hR ⊢
      exact ⟨hR.1, fun x1 e1 => have g1 : G x1 := (by rw [e1]; exact hk.2.2.2 _ _ _ g); fun x2 e2 => ih.2.2.2.2.1 _ _ _ g1 ((hR.2 x1 e1) x2 e2)⟩
    · intro t li lj g hR
      have hR : wbX12_laysTable_4 (wpX12_laysTable k) k t li lj Q := hR
      show wbX12_laysTable_4 (wpX12_laysTable k) k t li lj (fun t => Q t ∧ G t)
      unfold wbX12_laysTable_4 at hR ⊢
      exact fun x1 e1 => ih.2.2.1 _ _ _ g (hR x1 e1)
    · intro t li lj g hR
      have hR : wbX12_laysTable_5 (wpX12_laysTable k) k t li lj Q := hR
      show wbX12_laysTable_5 (wpX12_laysTable k) k t li lj (fun t => Q t ∧ G t)
      unfold wbX12_laysTable_5 at hR ⊢
      exact fun x1 e1 => ih.2.1 _ _ _ g (hR x1 e1)
theorem qgX12_laysTable {G : XT → Prop} {k : Nat} {t : XT} {a1 : Int32} {a2 : Int32} {Q : XT → Prop} (hk : kpQ G) (g : G t) (hR : wqX12_laysTable k t a1 a2 Q) : wqX12_laysTable k t a1 a2 (fun t => Q t ∧ G t) := (qfX12_laysTable hk Q k).1 t _ _ g hR
theorem qtX12_laysTable {G : XT → Prop} {k : Nat} {t : XT} {a1 : Int32} {a2 : Int32} {Q Q' : XT → Prop} (hk : kpQ G) (g : G t) (hR : wqX12_laysTable k t a1 a2 Q) (hQ : (∀ t, Q t → G t → Q' t)) : wqX12_laysTable k t a1 a2 Q' := wmX12_laysTable (Nat.le_refl k) (fun t h => hQ t h.1 h.2) (qgX12_laysTable hk g hR)
set_option maxHeartbeats 4000000 in
set_option maxRecDepth 100000 in
theorem qfX12_cell {G : XT → Prop} (hk : kpQ G) (Q : Int64 → XT → Prop) : ∀ k : Nat, (∀ (t : XT) (li : Nat → Int32) (lj : Nat → Int64), G t → wpX12_cell k 0 t li lj Q → wpX12_cell k 0 t li lj (fun r t => Q r t ∧ G t)) := by
  intro k
  induction k with
  | zero => exact fun _ _ _ _ hR => False.elim hR
  | succ k ih =>
    intro t li lj g hR
    have hR : wbX12_cell_0 (wpX12_cell k) k t li lj Q := hR
    show wbX12_cell_0 (wpX12_cell k) k t li lj (fun r t => Q r t ∧ G t)
    unfold wbX12_cell_0 at hR ⊢
    exact fun x1 e1 => fun x2 e2 => ⟨((hR x1 e1) x2 e2).1, fun x3 e3 => ⟨(((hR x1 e1) x2 e2).2 x3 e3), g⟩⟩
theorem qgX12_cell {G : XT → Prop} {k : Nat} {t : XT} {a1 : Int32} {a2 : Int32} {Q : Int64 → XT → Prop} (hk : kpQ G) (g : G t) (hR : wqX12_cell k t a1 a2 Q) : wqX12_cell k t a1 a2 (fun r t => Q r t ∧ G t) := (qfX12_cell hk Q k) t _ _ g hR
theorem qtX12_cell {G : XT → Prop} {k : Nat} {t : XT} {a1 : Int32} {a2 : Int32} {Q Q' : Int64 → XT → Prop} (hk : kpQ G) (g : G t) (hR : wqX12_cell k t a1 a2 Q) (hQ : (∀ r t, Q r t → G t → Q' r t)) : wqX12_cell k t a1 a2 Q' := wmX12_cell (Nat.le_refl k) (fun r t h => hQ r t h.1 h.2) (qgX12_cell hk g hR)
set_option maxHeartbeats 4000000 in
set_option maxRecDepth 100000 in
theorem qfX12_swapsRows {G : XT → Prop} (hk : kpQ G) (Q : XT → Prop) : ∀ k : Nat, (∀ (t : XT) (li : Nat → Int32) (lj : Nat → Int64), G t → wpX12_swapsRows k 0 t li lj Q → wpX12_swapsRows k 0 t li lj (fun t => Q t ∧ G t)) ∧ (∀ (t : XT) (li : Nat → Int32) (lj : Nat → Int64), G t → wpX12_swapsRows k 1 t li lj Q → wpX12_swapsRows k 1 t li lj (fun t => Q t ∧ G t)) := by
  intro k
  induction k with
  | zero => exact ⟨fun _ _ _ _ hR => False.elim hR, fun _ _ _ _ hR => False.elim hR⟩
  | succ k ih =>
    refine ⟨?_, ?_⟩
    · intro t li lj g hR
      have hR : wbX12_swapsRows_0 (wpX12_swapsRows k) k t li lj Q := hR
      show wbX12_swapsRows_0 (wpX12_swapsRows k) k t li lj (fun t => Q t ∧ G t)
      unfold wbX12_swapsRows_0 at hR ⊢
      exact ih.2 _ _ _ g hR
    · intro t li lj g hR
      have hR : wbX12_swapsRows_1 (wpX12_swapsRows k) k t li lj Q := hR
      show wbX12_swapsRows_1 (wpX12_swapsRows k) k t li lj (fun t => Q t ∧ G t)
      unfold wbX12_swapsRows_1 at hR ⊢
      exact ⟨fun c1 => ⟨(hR.1 c1), g⟩, fun c2 => qtX12_cell hk g (hR.2 c2) (fun y3_0 y3_1 h3 g3 => fun x4 e4 => fun x5 e5 => qtX12_cell hk g3 ((h3 x4 e4) x5 e5) (fun y6_0 y6_1 h6 g6 => ⟨h6.1, fun x7 e7 => have g7 : G x7 := (by rw [e7]; exact hk.2.2.2 _ _ _ g6); fun x8 e8 => fun x9 e9 => ⟨(((h6.2 x7 e7) x8 e8) x9 e9).1, fun x10 e10 => have g10 : G x10 := (by rw [e10]; exact hk.2.2.2 _ _ _ g7); fun x11 e11 => ih.2 _ _ _ g10 (((((h6.2 x7 e7) x8 e8) x9 e9).2 x10 e10) x11 e11)⟩⟩))⟩
theorem qgX12_swapsRows {G : XT → Prop} {k : Nat} {t : XT} {a1 : Int32} {a2 : Int32} {Q : XT → Prop} (hk : kpQ G) (g : G t) (hR : wqX12_swapsRows k t a1 a2 Q) : wqX12_swapsRows k t a1 a2 (fun t => Q t ∧ G t) := (qfX12_swapsRows hk Q k).1 t _ _ g hR
theorem qtX12_swapsRows {G : XT → Prop} {k : Nat} {t : XT} {a1 : Int32} {a2 : Int32} {Q Q' : XT → Prop} (hk : kpQ G) (g : G t) (hR : wqX12_swapsRows k t a1 a2 Q) (hQ : (∀ t, Q t → G t → Q' t)) : wqX12_swapsRows k t a1 a2 Q' := wmX12_swapsRows (Nat.le_refl k) (fun t h => hQ t h.1 h.2) (qgX12_swapsRows hk g hR)
set_option maxHeartbeats 4000000 in
set_option maxRecDepth 100000 in
theorem qfX12_swapsColumns {G : XT → Prop} (hk : kpQ G) (Q : XT → Prop) : ∀ k : Nat, (∀ (t : XT) (li : Nat → Int32) (lj : Nat → Int64), G t → wpX12_swapsColumns k 0 t li lj Q → wpX12_swapsColumns k 0 t li lj (fun t => Q t ∧ G t)) ∧ (∀ (t : XT) (li : Nat → Int32) (lj : Nat → Int64), G t → wpX12_swapsColumns k 1 t li lj Q → wpX12_swapsColumns k 1 t li lj (fun t => Q t ∧ G t)) := by
  intro k
  induction k with
  | zero => exact ⟨fun _ _ _ _ hR => False.elim hR, fun _ _ _ _ hR => False.elim hR⟩
  | succ k ih =>
    refine ⟨?_, ?_⟩
    · intro t li lj g hR
      have hR : wbX12_swapsColumns_0 (wpX12_swapsColumns k) k t li lj Q := hR
      show wbX12_swapsColumns_0 (wpX12_swapsColumns k) k t li lj (fun t => Q t ∧ G t)
      unfold wbX12_swapsColumns_0 at hR ⊢
      exact ih.2 _ _ _ g hR
    · intro t li lj g hR
      have hR : wbX12_swapsColumns_1 (wpX12_swapsColumns k) k t li lj Q := hR
      show wbX12_swapsColumns_1 (wpX12_swapsColumns k) k t li lj (fun t => Q t ∧ G t)
      unfold wbX12_swapsColumns_1 at hR ⊢
      exact ⟨fun c1 => ⟨(hR.1 c1), g⟩, fun c2 => qtX12_cell hk g (hR.2 c2) (fun y3_0 y3_1 h3 g3 => fun x4 e4 => fun x5 e5 => qtX12_cell hk g3 ((h3 x4 e4) x5 e5) (fun y6_0 y6_1 h6 g6 => ⟨h6.1, fun x7 e7 => have g7 : G x7 := (by rw [e7]; exact hk.2.2.2 _ _ _ g6); fun x8 e8 => fun x9 e9 => ⟨(((h6.2 x7 e7) x8 e8) x9 e9).1, fun x10 e10 => have g10 : G x10 := (by rw [e10]; exact hk.2.2.2 _ _ _ g7); fun x11 e11 => ih.2 _ _ _ g10 (((((h6.2 x7 e7) x8 e8) x9 e9).2 x10 e10) x11 e11)⟩⟩))⟩
theorem qgX12_swapsColumns {G : XT → Prop} {k : Nat} {t : XT} {a1 : Int32} {a2 : Int32} {Q : XT → Prop} (hk : kpQ G) (g : G t) (hR : wqX12_swapsColumns k t a1 a2 Q) : wqX12_swapsColumns k t a1 a2 (fun t => Q t ∧ G t) := (qfX12_swapsColumns hk Q k).1 t _ _ g hR
theorem qtX12_swapsColumns {G : XT → Prop} {k : Nat} {t : XT} {a1 : Int32} {a2 : Int32} {Q Q' : XT → Prop} (hk : kpQ G) (g : G t) (hR : wqX12_swapsColumns k t a1 a2 Q) (hQ : (∀ t, Q t → G t → Q' t)) : wqX12_swapsColumns k t a1 a2 Q' := wmX12_swapsColumns (Nat.le_refl k) (fun t h => hQ t h.1 h.2) (qgX12_swapsColumns hk g hR)
set_option maxHeartbeats 4000000 in
set_option maxRecDepth 100000 in
theorem qfX12_bringsLeast {G : XT → Prop} (hk : kpQ G) (Q : Int32 → XT → Prop) : ∀ k : Nat, (∀ (t : XT) (li : Nat → Int32) (lj : Nat → Int64), G t → wpX12_bringsLeast k 0 t li lj Q → wpX12_bringsLeast k 0 t li lj (fun r t => Q r t ∧ G t)) ∧ (∀ (t : XT) (li : Nat → Int32) (lj : Nat → Int64), G t → wpX12_bringsLeast k 1 t li lj Q → wpX12_bringsLeast k 1 t li lj (fun r t => Q r t ∧ G t)) ∧ (∀ (t : XT) (li : Nat → Int32) (lj : Nat → Int64), G t → wpX12_bringsLeast k 2 t li lj Q → wpX12_bringsLeast k 2 t li lj (fun r t => Q r t ∧ G t)) ∧ (∀ (t : XT) (li : Nat → Int32) (lj : Nat → Int64), G t → wpX12_bringsLeast k 3 t li lj Q → wpX12_bringsLeast k 3 t li lj (fun r t => Q r t ∧ G t)) ∧ (∀ (t : XT) (li : Nat → Int32) (lj : Nat → Int64), G t → wpX12_bringsLeast k 4 t li lj Q → wpX12_bringsLeast k 4 t li lj (fun r t => Q r t ∧ G t)) ∧ (∀ (t : XT) (li : Nat → Int32) (lj : Nat → Int64), G t → wpX12_bringsLeast k 5 t li lj Q → wpX12_bringsLeast k 5 t li lj (fun r t => Q r t ∧ G t)) ∧ (∀ (t : XT) (li : Nat → Int32) (lj : Nat → Int64), G t → wpX12_bringsLeast k 6 t li lj Q → wpX12_bringsLeast k 6 t li lj (fun r t => Q r t ∧ G t)) ∧ (∀ (t : XT) (li : Nat → Int32) (lj : Nat → Int64), G t → wpX12_bringsLeast k 7 t li lj Q → wpX12_bringsLeast k 7 t li lj (fun r t => Q r t ∧ G t)) := by
  intro k
  induction k with
  | zero => exact ⟨fun _ _ _ _ hR => False.elim hR, fun _ _ _ _ hR => False.elim hR, fun _ _ _ _ hR => False.elim hR, fun _ _ _ _ hR => False.elim hR, fun _ _ _ _ hR => False.elim hR, fun _ _ _ _ hR => False.elim hR, fun _ _ _ _ hR => False.elim hR, fun _ _ _ _ hR => False.elim hR⟩
  | succ k ih =>
    refine ⟨?_, ?_, ?_, ?_, ?_, ?_, ?_, ?_⟩
    · intro t li lj g hR
      have hR : wbX12_bringsLeast_0 (wpX12_bringsLeast k) k t li lj Q := hR
      show wbX12_bringsLeast_0 (wpX12_bringsLeast k) k t li lj (fun r t => Q r t ∧ G t)
      unfold wbX12_bringsLeast_0 at hR ⊢
      exact ih.2.1 _ _ _ g hR
    · intro t li lj g hR
      have hR : wbX12_bringsLeast_1 (wpX12_bringsLeast k) k t li lj Q := hR
      show wbX12_bringsLeast_1 (wpX12_bringsLeast k) k t li lj (fun r t => Q r t ∧ G t)
      unfold wbX12_bringsLeast_1 at hR ⊢
      exact ⟨fun c1 => ⟨fun c2 => qtX12_swapsRows hk g ((hR.1 c1).1 c2) (fun y3_0 h3 g3 => qtX12_swapsColumns hk g3 h3 (fun y4_0 h4 g4 => ⟨h4, g4⟩)), fun c5 => ⟨((hR.1 c1).2 c5), g⟩⟩, fun c6 => ih.2.2.1 _ _ _ g (hR.2 c6)⟩
    · intro t li lj g hR
      have hR : wbX12_bringsLeast_2 (wpX12_bringsLeast k) k t li lj Q := hR
      show wbX12_bringsLeast_2 (wpX12_bringsLeast k) k t li lj (fun r t => Q r t ∧ G t)
      unfold wbX12_bringsLeast_2 at hR ⊢
      exact ⟨fun c1 => fun x2 e2 => ih.2.1 _ _ _ g ((hR.1 c1) x2 e2), fun c3 => qtX12_cell hk g (hR.2 c3) (fun y4_0 y4_1 h4 g4 => fun x5 e5 => ⟨fun c6 => ih.2.2.2.2.1 _ _ _ g4 ((h4 x5 e5).1 c6), fun c7 => ⟨fun c8 => ih.2.2.2.1 _ _ _ g4 (((h4 x5 e5).2 c7).1 c8), fun c9 => qtX12_cell hk g4 (((h4 x5 e5).2 c7).2 c9) (fun y10_0 y10_1 h10 g10 => fun x11 e11 => qtX12_cell hk g10 (h10 x11 e11) (fun y12_0 y12_1 h12 g12 => fun x13 e13 => fun x14 e14 => ⟨fun c15 => ih.2.2.2.2.1 _ _ _ g12 (((h12 x13 e13) x14 e14).1 c15), fun c16 => ih.2.2.2.1 _ _ _ g12 (((h12 x13 e13) x14 e14).2 c16)⟩))⟩⟩)⟩
    · intro t li lj g hR
      have hR : wbX12_bringsLeast_3 (wpX12_bringsLeast k) k t li lj Q := hR
      show wbX12_bringsLeast_3 (wpX12_bringsLeast k) k t li lj (fun r t => Q r t ∧ G t)
      unfold wbX12_bringsLeast_3 at hR ⊢
      exact ih.2.2.2.2.2.1 _ _ _ g hR
    · intro t li lj g hR
      have hR : wbX12_bringsLeast_4 (wpX12_bringsLeast k) k t li lj Q := hR
      show wbX12_bringsLeast_4 (wpX12_bringsLeast k) k t li lj (fun r t => Q r t ∧ G t)
      unfold wbX12_bringsLeast_4 at hR ⊢
      exact ih.2.2.2.2.2.1 _ _ _ g hR
    · intro t li lj g hR
      have hR : wbX12_bringsLeast_5 (wpX12_bringsLeast k) k t li lj Q := hR
      show wbX12_bringsLeast_5 (wpX12_bringsLeast k) k t li lj (fun r t => Q r t ∧ G t)
      unfold wbX12_bringsLeast_5 at hR ⊢
      exact ⟨fun c1 => ih.2.2.2.2.2.2.1 _ _ _ g (hR.1 c1), fun c2 => ih.2.2.2.2.2.2.1 _ _ _ g (hR.2 c2)⟩
    · intro t li lj g hR
      have hR : wbX12_bringsLeast_6 (wpX12_bringsLeast k) k t li lj Q := hR
      show wbX12_bringsLeast_6 (wpX12_bringsLeast k) k t li lj (fun r t => Q r t ∧ G t)
      unfold wbX12_bringsLeast_6 at hR ⊢
      exact ⟨fun c1 => ih.2.2.2.2.2.2.2 _ _ _ g (hR.1 c1), fun c2 => ih.2.2.2.2.2.2.2 _ _ _ g (hR.2 c2)⟩
    · intro t li lj g hR
      have hR : wbX12_bringsLeast_7 (wpX12_bringsLeast k) k t li lj Q := hR
      show wbX12_bringsLeast_7 (wpX12_bringsLeast k) k t li lj (fun r t => Q r t ∧ G t)
      unfold wbX12_bringsLeast_7 at hR ⊢
      exact fun x1 e1 => ih.2.2.1 _ _ _ g (hR x1 e1)
theorem qgX12_bringsLeast {G : XT → Prop} {k : Nat} {t : XT} {a1 : Int32} {Q : Int32 → XT → Prop} (hk : kpQ G) (g : G t) (hR : wqX12_bringsLeast k t a1 Q) : wqX12_bringsLeast k t a1 (fun r t => Q r t ∧ G t) := (qfX12_bringsLeast hk Q k).1 t _ _ g hR
theorem qtX12_bringsLeast {G : XT → Prop} {k : Nat} {t : XT} {a1 : Int32} {Q Q' : Int32 → XT → Prop} (hk : kpQ G) (g : G t) (hR : wqX12_bringsLeast k t a1 Q) (hQ : (∀ r t, Q r t → G t → Q' r t)) : wqX12_bringsLeast k t a1 Q' := wmX12_bringsLeast (Nat.le_refl k) (fun r t h => hQ r t h.1 h.2) (qgX12_bringsLeast hk g hR)
set_option maxHeartbeats 4000000 in
set_option maxRecDepth 100000 in
theorem qfX12_addsRow {G : XT → Prop} (hk : kpQ G) (Q : XT → Prop) : ∀ k : Nat, (∀ (t : XT) (li : Nat → Int32) (lj : Nat → Int64), G t → wpX12_addsRow k 0 t li lj Q → wpX12_addsRow k 0 t li lj (fun t => Q t ∧ G t)) ∧ (∀ (t : XT) (li : Nat → Int32) (lj : Nat → Int64), G t → wpX12_addsRow k 1 t li lj Q → wpX12_addsRow k 1 t li lj (fun t => Q t ∧ G t)) := by
  intro k
  induction k with
  | zero => exact ⟨fun _ _ _ _ hR => False.elim hR, fun _ _ _ _ hR => False.elim hR⟩
  | succ k ih =>
    refine ⟨?_, ?_⟩
    · intro t li lj g hR
      have hR : wbX12_addsRow_0 (wpX12_addsRow k) k t li lj Q := hR
      show wbX12_addsRow_0 (wpX12_addsRow k) k t li lj (fun t => Q t ∧ G t)
      unfold wbX12_addsRow_0 at hR ⊢
      exact ih.2 _ _ _ g hR
    · intro t li lj g hR
      have hR : wbX12_addsRow_1 (wpX12_addsRow k) k t li lj Q := hR
      show wbX12_addsRow_1 (wpX12_addsRow k) k t li lj (fun t => Q t ∧ G t)
      unfold wbX12_addsRow_1 at hR ⊢
      exact ⟨fun c1 => ⟨(hR.1 c1), g⟩, fun c2 => fun x3 e3 => fun x4 e4 => ⟨(((hR.2 c2) x3 e3) x4 e4).1, fun x5 e5 => qtX12_cell hk g ((((hR.2 c2) x3 e3) x4 e4).2 x5 e5) (fun y6_0 y6_1 h6 g6 => fun x7 e7 => fun x8 e8 => ⟨((h6 x7 e7) x8 e8).1, fun x9 e9 => have g9 : G x9 := (by rw [e9]; exact hk.2.2.2 _ _ _ g6); fun x10 e10 => ih.2 _ _ _ g9 ((((h6 x7 e7) x8 e8).2 x9 e9) x10 e10)⟩)⟩⟩
theorem qgX12_addsRow {G : XT → Prop} {k : Nat} {t : XT} {a1 : Int32} {a2 : Int32} {a3 : Int64} {Q : XT → Prop} (hk : kpQ G) (g : G t) (hR : wqX12_addsRow k t a1 a2 a3 Q) : wqX12_addsRow k t a1 a2 a3 (fun t => Q t ∧ G t) := (qfX12_addsRow hk Q k).1 t _ _ g hR
theorem qtX12_addsRow {G : XT → Prop} {k : Nat} {t : XT} {a1 : Int32} {a2 : Int32} {a3 : Int64} {Q Q' : XT → Prop} (hk : kpQ G) (g : G t) (hR : wqX12_addsRow k t a1 a2 a3 Q) (hQ : (∀ t, Q t → G t → Q' t)) : wqX12_addsRow k t a1 a2 a3 Q' := wmX12_addsRow (Nat.le_refl k) (fun t h => hQ t h.1 h.2) (qgX12_addsRow hk g hR)
set_option maxHeartbeats 4000000 in
set_option maxRecDepth 100000 in
theorem qfX12_addsColumn {G : XT → Prop} (hk : kpQ G) (Q : XT → Prop) : ∀ k : Nat, (∀ (t : XT) (li : Nat → Int32) (lj : Nat → Int64), G t → wpX12_addsColumn k 0 t li lj Q → wpX12_addsColumn k 0 t li lj (fun t => Q t ∧ G t)) ∧ (∀ (t : XT) (li : Nat → Int32) (lj : Nat → Int64), G t → wpX12_addsColumn k 1 t li lj Q → wpX12_addsColumn k 1 t li lj (fun t => Q t ∧ G t)) := by
  intro k
  induction k with
  | zero => exact ⟨fun _ _ _ _ hR => False.elim hR, fun _ _ _ _ hR => False.elim hR⟩
  | succ k ih =>
    refine ⟨?_, ?_⟩
    · intro t li lj g hR
      have hR : wbX12_addsColumn_0 (wpX12_addsColumn k) k t li lj Q := hR
      show wbX12_addsColumn_0 (wpX12_addsColumn k) k t li lj (fun t => Q t ∧ G t)
      unfold wbX12_addsColumn_0 at hR ⊢
      exact ih.2 _ _ _ g hR
    · intro t li lj g hR
      have hR : wbX12_addsColumn_1 (wpX12_addsColumn k) k t li lj Q := hR
      show wbX12_addsColumn_1 (wpX12_addsColumn k) k t li lj (fun t => Q t ∧ G t)
      unfold wbX12_addsColumn_1 at hR ⊢
      exact ⟨fun c1 => ⟨(hR.1 c1), g⟩, fun c2 => fun x3 e3 => fun x4 e4 => ⟨(((hR.2 c2) x3 e3) x4 e4).1, fun x5 e5 => qtX12_cell hk g ((((hR.2 c2) x3 e3) x4 e4).2 x5 e5) (fun y6_0 y6_1 h6 g6 => fun x7 e7 => fun x8 e8 => ⟨((h6 x7 e7) x8 e8).1, fun x9 e9 => have g9 : G x9 := (by rw [e9]; exact hk.2.2.2 _ _ _ g6); fun x10 e10 => ih.2 _ _ _ g9 ((((h6 x7 e7) x8 e8).2 x9 e9) x10 e10)⟩)⟩⟩
theorem qgX12_addsColumn {G : XT → Prop} {k : Nat} {t : XT} {a1 : Int32} {a2 : Int32} {a3 : Int64} {Q : XT → Prop} (hk : kpQ G) (g : G t) (hR : wqX12_addsColumn k t a1 a2 a3 Q) : wqX12_addsColumn k t a1 a2 a3 (fun t => Q t ∧ G t) := (qfX12_addsColumn hk Q k).1 t _ _ g hR
theorem qtX12_addsColumn {G : XT → Prop} {k : Nat} {t : XT} {a1 : Int32} {a2 : Int32} {a3 : Int64} {Q Q' : XT → Prop} (hk : kpQ G) (g : G t) (hR : wqX12_addsColumn k t a1 a2 a3 Q) (hQ : (∀ t, Q t → G t → Q' t)) : wqX12_addsColumn k t a1 a2 a3 Q' := wmX12_addsColumn (Nat.le_refl k) (fun t h => hQ t h.1 h.2) (qgX12_addsColumn hk g hR)
set_option maxHeartbeats 4000000 in
set_option maxRecDepth 100000 in
theorem qfX12_clears {G : XT → Prop} (hk : kpQ G) (Q : Int32 → XT → Prop) : ∀ k : Nat, (∀ (t : XT) (li : Nat → Int32) (lj : Nat → Int64), G t → wpX12_clears k 0 t li lj Q → wpX12_clears k 0 t li lj (fun r t => Q r t ∧ G t)) ∧ (∀ (t : XT) (li : Nat → Int32) (lj : Nat → Int64), G t → wpX12_clears k 1 t li lj Q → wpX12_clears k 1 t li lj (fun r t => Q r t ∧ G t)) ∧ (∀ (t : XT) (li : Nat → Int32) (lj : Nat → Int64), G t → wpX12_clears k 2 t li lj Q → wpX12_clears k 2 t li lj (fun r t => Q r t ∧ G t)) ∧ (∀ (t : XT) (li : Nat → Int32) (lj : Nat → Int64), G t → wpX12_clears k 3 t li lj Q → wpX12_clears k 3 t li lj (fun r t => Q r t ∧ G t)) ∧ (∀ (t : XT) (li : Nat → Int32) (lj : Nat → Int64), G t → wpX12_clears k 4 t li lj Q → wpX12_clears k 4 t li lj (fun r t => Q r t ∧ G t)) ∧ (∀ (t : XT) (li : Nat → Int32) (lj : Nat → Int64), G t → wpX12_clears k 5 t li lj Q → wpX12_clears k 5 t li lj (fun r t => Q r t ∧ G t)) ∧ (∀ (t : XT) (li : Nat → Int32) (lj : Nat → Int64), G t → wpX12_clears k 6 t li lj Q → wpX12_clears k 6 t li lj (fun r t => Q r t ∧ G t)) := by
  intro k
  induction k with
  | zero => exact ⟨fun _ _ _ _ hR => False.elim hR, fun _ _ _ _ hR => False.elim hR, fun _ _ _ _ hR => False.elim hR, fun _ _ _ _ hR => False.elim hR, fun _ _ _ _ hR => False.elim hR, fun _ _ _ _ hR => False.elim hR, fun _ _ _ _ hR => False.elim hR⟩
  | succ k ih =>
    refine ⟨?_, ?_, ?_, ?_, ?_, ?_, ?_⟩
    · intro t li lj g hR
      have hR : wbX12_clears_0 (wpX12_clears k) k t li lj Q := hR
      show wbX12_clears_0 (wpX12_clears k) k t li lj (fun r t => Q r t ∧ G t)
      unfold wbX12_clears_0 at hR ⊢
      exact fun x1 e1 => ih.2.1 _ _ _ g (hR x1 e1)
    · intro t li lj g hR
      have hR : wbX12_clears_1 (wpX12_clears k) k t li lj Q := hR
      show wbX12_clears_1 (wpX12_clears k) k t li lj (fun r t => Q r t ∧ G t)
      unfold wbX12_clears_1 at hR ⊢
      exact ⟨fun c1 => fun x2 e2 => ih.2.2.2.2.1 _ _ _ g ((hR.1 c1) x2 e2), fun c3 => qtX12_cell hk g (hR.2 c3) (fun y4_0 y4_1 h4 g4 => qtX12_cell hk g4 h4 (fun y5_0 y5_1 h5 g5 => ⟨h5.1, fun x6 e6 => fun x7 e7 => qtX12_addsRow hk g5 ((h5.2 x6 e6) x7 e7) (fun y8_0 h8 g8 => ⟨fun c9 => ih.2.2.1 _ _ _ g8 (h8.1 c9), fun c10 => qtX12_cell hk g8 (h8.2 c10) (fun y11_0 y11_1 h11 g11 => fun x12 e12 => ⟨fun c13 => ih.2.2.1 _ _ _ g11 ((h11 x12 e12).1 c13), fun c14 => ih.2.2.2.1 _ _ _ g11 ((h11 x12 e12).2 c14)⟩)⟩)⟩))⟩
    · intro t li lj g hR
      have hR : wbX12_clears_2 (wpX12_clears k) k t li lj Q := hR
      show wbX12_clears_2 (wpX12_clears k) k t li lj (fun r t => Q r t ∧ G t)
      unfold wbX12_clears_2 at hR ⊢
      exact ih.2.2.2.1 _ _ _ g hR
    · intro t li lj g hR
      have hR : wbX12_clears_3 (wpX12_clears k) k t li lj Q := hR
      show wbX12_clears_3 (wpX12_clears k) k t li lj (fun r t => Q r t ∧ G t)
      unfold wbX12_clears_3 at hR ⊢
      exact fun x1 e1 => ih.2.1 _ _ _ g (hR x1 e1)
    · intro t li lj g hR
      have hR : wbX12_clears_4 (wpX12_clears k) k t li lj Q := hR
      show wbX12_clears_4 (wpX12_clears k) k t li lj (fun r t => Q r t ∧ G t)
      unfold wbX12_clears_4 at hR ⊢
      exact ⟨fun c1 => ⟨(hR.1 c1).1, ⟨(hR.1 c1).2, g⟩⟩, fun c2 => qtX12_cell hk g (hR.2 c2) (fun y3_0 y3_1 h3 g3 => qtX12_cell hk g3 h3 (fun y4_0 y4_1 h4 g4 => ⟨h4.1, fun x5 e5 => fun x6 e6 => qtX12_addsColumn hk g4 ((h4.2 x5 e5) x6 e6) (fun y7_0 h7 g7 => ⟨fun c8 => ih.2.2.2.2.2.1 _ _ _ g7 (h7.1 c8), fun c9 => qtX12_cell hk g7 (h7.2 c9) (fun y10_0 y10_1 h10 g10 => fun x11 e11 => ⟨fun c12 => ih.2.2.2.2.2.1 _ _ _ g10 ((h10 x11 e11).1 c12), fun c13 => ih.2.2.2.2.2.2 _ _ _ g10 ((h10 x11 e11).2 c13)⟩)⟩)⟩))⟩
    · intro t li lj g hR
      have hR : wbX12_clears_5 (wpX12_clears k) k t li lj Q := hR
      show wbX12_clears_5 (wpX12_clears k) k t li lj (fun r t => Q r t ∧ G t)
      unfold wbX12_clears_5 at hR ⊢
      exact ih.2.2.2.2.2.2 _ _ _ g hR
    · intro t li lj g hR
      have hR : wbX12_clears_6 (wpX12_clears k) k t li lj Q := hR
      show wbX12_clears_6 (wpX12_clears k) k t li lj (fun r t => Q r t ∧ G t)
      unfold wbX12_clears_6 at hR ⊢
      exact fun x1 e1 => ih.2.2.2.2.1 _ _ _ g (hR x1 e1)
theorem qgX12_clears {G : XT → Prop} {k : Nat} {t : XT} {a1 : Int32} {Q : Int32 → XT → Prop} (hk : kpQ G) (g : G t) (hR : wqX12_clears k t a1 Q) : wqX12_clears k t a1 (fun r t => Q r t ∧ G t) := (qfX12_clears hk Q k).1 t _ _ g hR
theorem qtX12_clears {G : XT → Prop} {k : Nat} {t : XT} {a1 : Int32} {Q Q' : Int32 → XT → Prop} (hk : kpQ G) (g : G t) (hR : wqX12_clears k t a1 Q) (hQ : (∀ r t, Q r t → G t → Q' r t)) : wqX12_clears k t a1 Q' := wmX12_clears (Nat.le_refl k) (fun r t h => hQ r t h.1 h.2) (qgX12_clears hk g hR)
set_option maxHeartbeats 4000000 in
set_option maxRecDepth 100000 in
theorem qfX12_undivided {G : XT → Prop} (hk : kpQ G) (Q : Int32 → XT → Prop) : ∀ k : Nat, (∀ (t : XT) (li : Nat → Int32) (lj : Nat → Int64), G t → wpX12_undivided k 0 t li lj Q → wpX12_undivided k 0 t li lj (fun r t => Q r t ∧ G t)) ∧ (∀ (t : XT) (li : Nat → Int32) (lj : Nat → Int64), G t → wpX12_undivided k 1 t li lj Q → wpX12_undivided k 1 t li lj (fun r t => Q r t ∧ G t)) ∧ (∀ (t : XT) (li : Nat → Int32) (lj : Nat → Int64), G t → wpX12_undivided k 2 t li lj Q → wpX12_undivided k 2 t li lj (fun r t => Q r t ∧ G t)) := by
  intro k
  induction k with
  | zero => exact ⟨fun _ _ _ _ hR => False.elim hR, fun _ _ _ _ hR => False.elim hR, fun _ _ _ _ hR => False.elim hR⟩
  | succ k ih =>
    refine ⟨?_, ?_, ?_⟩
    · intro t li lj g hR
      have hR : wbX12_undivided_0 (wpX12_undivided k) k t li lj Q := hR
      show wbX12_undivided_0 (wpX12_undivided k) k t li lj (fun r t => Q r t ∧ G t)
      unfold wbX12_undivided_0 at hR ⊢
      exact fun x1 e1 => ih.2.1 _ _ _ g (hR x1 e1)
    · intro t li lj g hR
      have hR : wbX12_undivided_1 (wpX12_undivided k) k t li lj Q := hR
      show wbX12_undivided_1 (wpX12_undivided k) k t li lj (fun r t => Q r t ∧ G t)
      unfold wbX12_undivided_1 at hR ⊢
      exact ⟨fun c1 => ⟨(hR.1 c1), g⟩, fun c2 => fun x3 e3 => ih.2.2 _ _ _ g ((hR.2 c2) x3 e3)⟩
    · intro t li lj g hR
      have hR : wbX12_undivided_2 (wpX12_undivided k) k t li lj Q := hR
      show wbX12_undivided_2 (wpX12_undivided k) k t li lj (fun r t => Q r t ∧ G t)
      unfold wbX12_undivided_2 at hR ⊢
      exact ⟨fun c1 => fun x2 e2 => ih.2.1 _ _ _ g ((hR.1 c1) x2 e2), fun c3 => qtX12_cell hk g (hR.2 c3) (fun y4_0 y4_1 h4 g4 => qtX12_cell hk g4 h4 (fun y5_0 y5_1 h5 g5 => ⟨h5.1, fun x6 e6 => fun x7 e7 => ⟨fun c8 => fun x9 e9 => ih.2.2 _ _ _ g5 ((((h5.2 x6 e6) x7 e7).1 c8) x9 e9), fun c10 => ⟨(((h5.2 x6 e6) x7 e7).2 c10), g5⟩⟩⟩))⟩
theorem qgX12_undivided {G : XT → Prop} {k : Nat} {t : XT} {a1 : Int32} {Q : Int32 → XT → Prop} (hk : kpQ G) (g : G t) (hR : wqX12_undivided k t a1 Q) : wqX12_undivided k t a1 (fun r t => Q r t ∧ G t) := (qfX12_undivided hk Q k).1 t _ _ g hR
theorem qtX12_undivided {G : XT → Prop} {k : Nat} {t : XT} {a1 : Int32} {Q Q' : Int32 → XT → Prop} (hk : kpQ G) (g : G t) (hR : wqX12_undivided k t a1 Q) (hQ : (∀ r t, Q r t → G t → Q' r t)) : wqX12_undivided k t a1 Q' := wmX12_undivided (Nat.le_refl k) (fun r t h => hQ r t h.1 h.2) (qgX12_undivided hk g hR)
set_option maxHeartbeats 4000000 in
set_option maxRecDepth 100000 in
theorem qfX12_laysSteps {G : XT → Prop} (hk : kpQ G) (Q : Int32 → XT → Prop) : ∀ k : Nat, (∀ (t : XT) (li : Nat → Int32) (lj : Nat → Int64), G t → wpX12_laysSteps k 0 t li lj Q → wpX12_laysSteps k 0 t li lj (fun r t => Q r t ∧ G t)) ∧ (∀ (t : XT) (li : Nat → Int32) (lj : Nat → Int64), G t → wpX12_laysSteps k 1 t li lj Q → wpX12_laysSteps k 1 t li lj (fun r t => Q r t ∧ G t)) ∧ (∀ (t : XT) (li : Nat → Int32) (lj : Nat → Int64), G t → wpX12_laysSteps k 2 t li lj Q → wpX12_laysSteps k 2 t li lj (fun r t => Q r t ∧ G t)) := by
  intro k
  induction k with
  | zero => exact ⟨fun _ _ _ _ hR => False.elim hR, fun _ _ _ _ hR => False.elim hR, fun _ _ _ _ hR => False.elim hR⟩
  | succ k ih =>
    refine ⟨?_, ?_, ?_⟩
    · intro t li lj g hR
      have hR : wbX12_laysSteps_0 (wpX12_laysSteps k) k t li lj Q := hR
      show wbX12_laysSteps_0 (wpX12_laysSteps k) k t li lj (fun r t => Q r t ∧ G t)
      unfold wbX12_laysSteps_0 at hR ⊢
      exact ih.2.1 _ _ _ g hR
    · intro t li lj g hR
      have hR : wbX12_laysSteps_1 (wpX12_laysSteps k) k t li lj Q := hR
      show wbX12_laysSteps_1 (wpX12_laysSteps k) k t li lj (fun r t => Q r t ∧ G t)
      unfold wbX12_laysSteps_1 at hR ⊢
      exact ⟨fun c1 => ih.2.2 _ _ _ g (hR.1 c1), fun c2 => ⟨fun c3 => ih.2.2 _ _ _ g ((hR.2 c2).1 c3), fun c4 => qtX12_bringsLeast hk g ((hR.2 c2).2 c4) (fun y5_0 y5_1 h5 g5 => ⟨fun c6 => ih.2.2 _ _ _ g5 (h5.1 c6), fun c7 => qtX12_clears hk g5 (h5.2 c7) (fun y8_0 y8_1 h8 g8 => ⟨fun c9 => qtX12_undivided hk g8 (h8.1 c9) (fun y10_0 y10_1 h10 g10 => ⟨fun c11 => qtX12_cell hk g10 (h10.1 c11) (fun y12_0 y12_1 h12 g12 => fun x13 e13 => ⟨(h12 x13 e13).1, fun x14 e14 => have g14 : G x14 := (by rw [e14]; exact hk.2.2.2 _ _ _ g12); fun x15 e15 => ih.2.1 _ _ _ g14 (((h12 x13 e13).2 x14 e14) x15 e15)⟩), fun c16 => qtX12_addsRow hk g10 (h10.2 c16) (fun y17_0 h17 g17 => ih.2.1 _ _ _ g17 h17)⟩), fun c18 => ih.2.1 _ _ _ g8 (h8.2 c18)⟩)⟩)⟩⟩
    · intro t li lj g hR
      have hR : wbX12_laysSteps_2 (wpX12_laysSteps k) k t li lj Q := hR
      show wbX12_laysSteps_2 (wpX12_laysSteps k) k t li lj (fun r t => Q r t ∧ G t)
      unfold wbX12_laysSteps_2 at hR ⊢
      exact ⟨hR, g⟩
theorem qgX12_laysSteps {G : XT → Prop} {k : Nat} {t : XT}  {Q : Int32 → XT → Prop} (hk : kpQ G) (g : G t) (hR : wqX12_laysSteps k t  Q) : wqX12_laysSteps k t  (fun r t => Q r t ∧ G t) := (qfX12_laysSteps hk Q k).1 t _ _ g hR
theorem qtX12_laysSteps {G : XT → Prop} {k : Nat} {t : XT}  {Q Q' : Int32 → XT → Prop} (hk : kpQ G) (g : G t) (hR : wqX12_laysSteps k t  Q) (hQ : (∀ r t, Q r t → G t → Q' r t)) : wqX12_laysSteps k t  Q' := wmX12_laysSteps (Nat.le_refl k) (fun r t h => hQ r t h.1 h.2) (qgX12_laysSteps hk g hR)
set_option maxHeartbeats 4000000 in
set_option maxRecDepth 100000 in
theorem qfX12_rankOf {G : XT → Prop} (hk : kpQ G) (Q : Int32 → XT → Prop) : ∀ k : Nat, (∀ (t : XT) (li : Nat → Int32) (lj : Nat → Int64), G t → wpX12_rankOf k 0 t li lj Q → wpX12_rankOf k 0 t li lj (fun r t => Q r t ∧ G t)) := by
  intro k
  induction k with
  | zero => exact fun _ _ _ _ hR => False.elim hR
  | succ k ih =>
    intro t li lj g hR
    have hR : wbX12_rankOf_0 (wpX12_rankOf k) k t li lj Q := hR
    show wbX12_rankOf_0 (wpX12_rankOf k) k t li lj (fun r t => Q r t ∧ G t)
    unfold wbX12_rankOf_0 at hR ⊢
    exact wcX12_in hR (fun y1_0 h1 => ⟨fun c2 => qtX12_laysTable hk g (h1.1 c2) (fun y3_0 h3 g3 => qtX12_laysSteps hk g3 h3 (fun y4_0 y4_1 h4 g4 => ⟨h4, g4⟩)), fun c5 => ⟨(h1.2 c5), g⟩⟩)
theorem qgX12_rankOf {G : XT → Prop} {k : Nat} {t : XT} {a1 : Int32} {a2 : Int32} {Q : Int32 → XT → Prop} (hk : kpQ G) (g : G t) (hR : wqX12_rankOf k t a1 a2 Q) : wqX12_rankOf k t a1 a2 (fun r t => Q r t ∧ G t) := (qfX12_rankOf hk Q k) t _ _ g hR
theorem qtX12_rankOf {G : XT → Prop} {k : Nat} {t : XT} {a1 : Int32} {a2 : Int32} {Q Q' : Int32 → XT → Prop} (hk : kpQ G) (g : G t) (hR : wqX12_rankOf k t a1 a2 Q) (hQ : (∀ r t, Q r t → G t → Q' r t)) : wqX12_rankOf k t a1 a2 Q' := wmX12_rankOf (Nat.le_refl k) (fun r t h => hQ r t h.1 h.2) (qgX12_rankOf hk g hR)
set_option maxHeartbeats 4000000 in
set_option maxRecDepth 100000 in
theorem qfX12_bettiTaken {G : XT → Prop} (hk : kpQ G) (Q : Int32 → XT → Prop) : ∀ k : Nat, (∀ (t : XT) (li : Nat → Int32) (lj : Nat → Int64), G t → wpX12_bettiTaken k 0 t li lj Q → wpX12_bettiTaken k 0 t li lj (fun r t => Q r t ∧ G t)) := by
  intro k
  induction k with
  | zero => exact fun _ _ _ _ hR => False.elim hR
  | succ k ih =>
    intro t li lj g hR
    have hR : wbX12_bettiTaken_0 (wpX12_bettiTaken k) k t li lj Q := hR
    show wbX12_bettiTaken_0 (wpX12_bettiTaken k) k t li lj (fun r t => Q r t ∧ G t)
    unfold wbX12_bettiTaken_0 at hR ⊢
    exact qtX12_takenOf hk g hR (fun y1_0 y1_1 h1 g1 => qtX12_rankOf hk g1 h1 (fun y2_0 y2_1 h2 g2 => fun x3 e3 => fun x4 e4 => qtX12_rankOf hk g2 ((h2 x3 e3) x4 e4) (fun y5_0 y5_1 h5 g5 => fun x6 e6 => ⟨(h5 x6 e6), g5⟩)))
theorem qgX12_bettiTaken {G : XT → Prop} {k : Nat} {t : XT} {a1 : Int32} {a2 : Int32} {Q : Int32 → XT → Prop} (hk : kpQ G) (g : G t) (hR : wqX12_bettiTaken k t a1 a2 Q) : wqX12_bettiTaken k t a1 a2 (fun r t => Q r t ∧ G t) := (qfX12_bettiTaken hk Q k) t _ _ g hR
theorem qtX12_bettiTaken {G : XT → Prop} {k : Nat} {t : XT} {a1 : Int32} {a2 : Int32} {Q Q' : Int32 → XT → Prop} (hk : kpQ G) (g : G t) (hR : wqX12_bettiTaken k t a1 a2 Q) (hQ : (∀ r t, Q r t → G t → Q' r t)) : wqX12_bettiTaken k t a1 a2 Q' := wmX12_bettiTaken (Nat.le_refl k) (fun r t h => hQ r t h.1 h.2) (qgX12_bettiTaken hk g hR)
set_option maxHeartbeats 4000000 in
set_option maxRecDepth 100000 in
theorem qfX12_betti {G : XT → Prop} (hk : kpQ G) (Q : Int32 → XT → Prop) : ∀ k : Nat, (∀ (t : XT) (li : Nat → Int32) (lj : Nat → Int64), G t → wpX12_betti k 0 t li lj Q → wpX12_betti k 0 t li lj (fun r t => Q r t ∧ G t)) ∧ (∀ (t : XT) (li : Nat → Int32) (lj : Nat → Int64), G t → wpX12_betti k 1 t li lj Q → wpX12_betti k 1 t li lj (fun r t => Q r t ∧ G t)) := by
  intro k
  induction k with
  | zero => exact ⟨fun _ _ _ _ hR => False.elim hR, fun _ _ _ _ hR => False.elim hR⟩
  | succ k ih =>
    refine ⟨?_, ?_⟩
    · intro t li lj g hR
      have hR : wbX12_betti_0 (wpX12_betti k) k t li lj Q := hR
      show wbX12_betti_0 (wpX12_betti k) k t li lj (fun r t => Q r t ∧ G t)
      unfold wbX12_betti_0 at hR ⊢
      exact wcX12_in hR (fun y1_0 h1 => ⟨fun c2 => ih.2 _ _ _ g (h1.1 c2), fun c3 => wcX12_in (h1.2 c3) (fun y4_0 h4 => ⟨fun c5 => qtX12_takes hk g (h4.1 c5) (fun y6_0 h6 g6 => qtX12_bettiTaken hk g6 h6 (fun y7_0 y7_1 h7 g7 => ⟨h7, g7⟩)), fun c8 => ih.2 _ _ _ g (h4.2 c8)⟩)⟩)
    · intro t li lj g hR
      have hR : wbX12_betti_1 (wpX12_betti k) k t li lj Q := hR
      show wbX12_betti_1 (wpX12_betti k) k t li lj (fun r t => Q r t ∧ G t)
      unfold wbX12_betti_1 at hR ⊢
      exact ⟨hR, g⟩
theorem qgX12_betti {G : XT → Prop} {k : Nat} {t : XT} {a1 : Int32} {a2 : Int32} {Q : Int32 → XT → Prop} (hk : kpQ G) (g : G t) (hR : wqX12_betti k t a1 a2 Q) : wqX12_betti k t a1 a2 (fun r t => Q r t ∧ G t) := (qfX12_betti hk Q k).1 t _ _ g hR
theorem qtX12_betti {G : XT → Prop} {k : Nat} {t : XT} {a1 : Int32} {a2 : Int32} {Q Q' : Int32 → XT → Prop} (hk : kpQ G) (g : G t) (hR : wqX12_betti k t a1 a2 Q) (hQ : (∀ r t, Q r t → G t → Q' r t)) : wqX12_betti k t a1 a2 Q' := wmX12_betti (Nat.le_refl k) (fun r t h => hQ r t h.1 h.2) (qgX12_betti hk g hR)
set_option maxHeartbeats 4000000 in
set_option maxRecDepth 100000 in
theorem qfX12_torsion {G : XT → Prop} (hk : kpQ G) (Q : Int64 → XT → Prop) : ∀ k : Nat, (∀ (t : XT) (li : Nat → Int32) (lj : Nat → Int64), G t → wpX12_torsion k 0 t li lj Q → wpX12_torsion k 0 t li lj (fun r t => Q r t ∧ G t)) ∧ (∀ (t : XT) (li : Nat → Int32) (lj : Nat → Int64), G t → wpX12_torsion k 1 t li lj Q → wpX12_torsion k 1 t li lj (fun r t => Q r t ∧ G t)) ∧ (∀ (t : XT) (li : Nat → Int32) (lj : Nat → Int64), G t → wpX12_torsion k 2 t li lj Q → wpX12_torsion k 2 t li lj (fun r t => Q r t ∧ G t)) ∧ (∀ (t : XT) (li : Nat → Int32) (lj : Nat → Int64), G t → wpX12_torsion k 3 t li lj Q → wpX12_torsion k 3 t li lj (fun r t => Q r t ∧ G t)) := by
  intro k
  induction k with
  | zero => exact ⟨fun _ _ _ _ hR => False.elim hR, fun _ _ _ _ hR => False.elim hR, fun _ _ _ _ hR => False.elim hR, fun _ _ _ _ hR => False.elim hR⟩
  | succ k ih =>
    refine ⟨?_, ?_, ?_, ?_⟩
    · intro t li lj g hR
      have hR : wbX12_torsion_0 (wpX12_torsion k) k t li lj Q := hR
      show wbX12_torsion_0 (wpX12_torsion k) k t li lj (fun r t => Q r t ∧ G t)
      unfold wbX12_torsion_0 at hR ⊢
      exact wcX12_in hR (fun y1_0 h1 => ⟨fun c2 => ih.2.1 _ _ _ g (h1.1 c2), fun c3 => wcX12_in (h1.2 c3) (fun y4_0 h4 => ⟨fun c5 => ih.2.1 _ _ _ g (h4.1 c5), fun c6 => ⟨fun c7 => qtX12_takes hk g ((h4.2 c6).1 c7) (fun y8_0 h8 g8 => fun x9 e9 => qtX12_rankOf hk g8 (h8 x9 e9) (fun y10_0 y10_1 h10 g10 => ih.2.2.1 _ _ _ g10 h10)), fun c11 => ih.2.1 _ _ _ g ((h4.2 c6).2 c11)⟩⟩)⟩)
    · intro t li lj g hR
      have hR : wbX12_torsion_1 (wpX12_torsion k) k t li lj Q := hR
      show wbX12_torsion_1 (wpX12_torsion k) k t li lj (fun r t => Q r t ∧ G t)
      unfold wbX12_torsion_1 at hR ⊢
      exact ⟨hR, g⟩
    · intro t li lj g hR
      have hR : wbX12_torsion_2 (wpX12_torsion k) k t li lj Q := hR
      show wbX12_torsion_2 (wpX12_torsion k) k t li lj (fun r t => Q r t ∧ G t)
      unfold wbX12_torsion_2 at hR ⊢
      exact ⟨fun c1 => ⟨fun c2 => ⟨((hR.1 c1).1 c2), g⟩, fun c3 => fun x4 e4 => ⟨(((hR.1 c1).2 c3) x4 e4), g⟩⟩, fun c5 => ⟨(hR.2 c5).1, fun x6 e6 => fun x7 e7 => ⟨fun c8 => ih.2.2.2 _ _ _ g ((((hR.2 c5).2 x6 e6) x7 e7).1 c8), fun c9 => ⟨fun c10 => fun x11 e11 => ih.2.2.2 _ _ _ g ((((((hR.2 c5).2 x6 e6) x7 e7).2 c9).1 c10) x11 e11), fun c12 => ⟨(((((hR.2 c5).2 x6 e6) x7 e7).2 c9).2 c12).1, fun x13 e13 => ⟨((((((hR.2 c5).2 x6 e6) x7 e7).2 c9).2 c12).2 x13 e13), g⟩⟩⟩⟩⟩⟩
    · intro t li lj g hR
      have hR : wbX12_torsion_3 (wpX12_torsion k) k t li lj Q := hR
      show wbX12_torsion_3 (wpX12_torsion k) k t li lj (fun r t => Q r t ∧ G t)
      unfold wbX12_torsion_3 at hR ⊢
      exact fun x1 e1 => ih.2.2.1 _ _ _ g (hR x1 e1)
theorem qgX12_torsion {G : XT → Prop} {k : Nat} {t : XT} {a1 : Int32} {a2 : Int32} {a3 : Int32} {Q : Int64 → XT → Prop} (hk : kpQ G) (g : G t) (hR : wqX12_torsion k t a1 a2 a3 Q) : wqX12_torsion k t a1 a2 a3 (fun r t => Q r t ∧ G t) := (qfX12_torsion hk Q k).1 t _ _ g hR
theorem qtX12_torsion {G : XT → Prop} {k : Nat} {t : XT} {a1 : Int32} {a2 : Int32} {a3 : Int32} {Q Q' : Int64 → XT → Prop} (hk : kpQ G) (g : G t) (hR : wqX12_torsion k t a1 a2 a3 Q) (hQ : (∀ r t, Q r t → G t → Q' r t)) : wqX12_torsion k t a1 a2 a3 Q' := wmX12_torsion (Nat.le_refl k) (fun r t h => hQ r t h.1 h.2) (qgX12_torsion hk g hR)
set_option maxHeartbeats 4000000 in
set_option maxRecDepth 100000 in
theorem qfX12_slack {G : XT → Prop} (hk : kpQ G) (Q : Int32 → XT → Prop) : ∀ k : Nat, (∀ (t : XT) (li : Nat → Int32) (lj : Nat → Int64), G t → wpX12_slack k 0 t li lj Q → wpX12_slack k 0 t li lj (fun r t => Q r t ∧ G t)) ∧ (∀ (t : XT) (li : Nat → Int32) (lj : Nat → Int64), G t → wpX12_slack k 1 t li lj Q → wpX12_slack k 1 t li lj (fun r t => Q r t ∧ G t)) := by
  intro k
  induction k with
  | zero => exact ⟨fun _ _ _ _ hR => False.elim hR, fun _ _ _ _ hR => False.elim hR⟩
  | succ k ih =>
    refine ⟨?_, ?_⟩
    · intro t li lj g hR
      have hR : wbX12_slack_0 (wpX12_slack k) k t li lj Q := hR
      show wbX12_slack_0 (wpX12_slack k) k t li lj (fun r t => Q r t ∧ G t)
      unfold wbX12_slack_0 at hR ⊢
      exact wcX12_in hR (fun y1_0 h1 => ⟨fun c2 => ih.2 _ _ _ g (h1.1 c2), fun c3 => ⟨(h1.2 c3), g⟩⟩)
    · intro t li lj g hR
      have hR : wbX12_slack_1 (wpX12_slack k) k t li lj Q := hR
      show wbX12_slack_1 (wpX12_slack k) k t li lj (fun r t => Q r t ∧ G t)
      unfold wbX12_slack_1 at hR ⊢
      exact ⟨fun c1 => ⟨(hR.1 c1), g⟩, fun c2 => qtX12_critical hk g (hR.2 c2) (fun y3_0 y3_1 h3 g3 => qtX12_betti hk g3 h3 (fun y4_0 y4_1 h4 g4 => fun x5 e5 => fun x6 e6 => fun x7 e7 => ih.2 _ _ _ g4 (((h4 x5 e5) x6 e6) x7 e7)))⟩
theorem qgX12_slack {G : XT → Prop} {k : Nat} {t : XT} {a1 : Int32} {Q : Int32 → XT → Prop} (hk : kpQ G) (g : G t) (hR : wqX12_slack k t a1 Q) : wqX12_slack k t a1 (fun r t => Q r t ∧ G t) := (qfX12_slack hk Q k).1 t _ _ g hR
theorem qtX12_slack {G : XT → Prop} {k : Nat} {t : XT} {a1 : Int32} {Q Q' : Int32 → XT → Prop} (hk : kpQ G) (g : G t) (hR : wqX12_slack k t a1 Q) (hQ : (∀ r t, Q r t → G t → Q' r t)) : wqX12_slack k t a1 Q' := wmX12_slack (Nat.le_refl k) (fun r t h => hQ r t h.1 h.2) (qgX12_slack hk g hR)
set_option maxHeartbeats 4000000 in
set_option maxRecDepth 100000 in
theorem qfX12_free {G : XT → Prop} (hk : kpQ G) (Q : Int32 → XT → Prop) : ∀ k : Nat, (∀ (t : XT) (li : Nat → Int32) (lj : Nat → Int64), G t → wpX12_free k 0 t li lj Q → wpX12_free k 0 t li lj (fun r t => Q r t ∧ G t)) ∧ (∀ (t : XT) (li : Nat → Int32) (lj : Nat → Int64), G t → wpX12_free k 1 t li lj Q → wpX12_free k 1 t li lj (fun r t => Q r t ∧ G t)) ∧ (∀ (t : XT) (li : Nat → Int32) (lj : Nat → Int64), G t → wpX12_free k 2 t li lj Q → wpX12_free k 2 t li lj (fun r t => Q r t ∧ G t)) := by
  intro k
  induction k with
  | zero => exact ⟨fun _ _ _ _ hR => False.elim hR, fun _ _ _ _ hR => False.elim hR, fun _ _ _ _ hR => False.elim hR⟩
  | succ k ih =>
    refine ⟨?_, ?_, ?_⟩
    · intro t li lj g hR
      have hR : wbX12_free_0 (wpX12_free k) k t li lj Q := hR
      show wbX12_free_0 (wpX12_free k) k t li lj (fun r t => Q r t ∧ G t)
      unfold wbX12_free_0 at hR ⊢
      exact ⟨fun c1 => ih.2.1 _ _ _ g (hR.1 c1), fun c2 => ⟨(hR.2 c2), g⟩⟩
    · intro t li lj g hR
      have hR : wbX12_free_1 (wpX12_free k) k t li lj Q := hR
      show wbX12_free_1 (wpX12_free k) k t li lj (fun r t => Q r t ∧ G t)
      unfold wbX12_free_1 at hR ⊢
      exact ⟨fun c1 => ⟨fun c2 => ⟨((hR.1 c1).1 c2), g⟩, fun c3 => ⟨((hR.1 c1).2 c3), g⟩⟩, fun c4 => qtX12_isFreeFace hk g (hR.2 c4) (fun y5_0 y5_1 h5 g5 => ⟨fun c6 => ih.2.2 _ _ _ g5 (h5.1 c6), fun c7 => ⟨fun c8 => fun x9 e9 => ih.2.2 _ _ _ g5 (((h5.2 c7).1 c8) x9 e9), fun c10 => ⟨((h5.2 c7).2 c10), g5⟩⟩⟩)⟩
    · intro t li lj g hR
      have hR : wbX12_free_2 (wpX12_free k) k t li lj Q := hR
      show wbX12_free_2 (wpX12_free k) k t li lj (fun r t => Q r t ∧ G t)
      unfold wbX12_free_2 at hR ⊢
      exact fun x1 e1 => ih.2.1 _ _ _ g (hR x1 e1)
theorem qgX12_free {G : XT → Prop} {k : Nat} {t : XT} {a1 : Int32} {Q : Int32 → XT → Prop} (hk : kpQ G) (g : G t) (hR : wqX12_free k t a1 Q) : wqX12_free k t a1 (fun r t => Q r t ∧ G t) := (qfX12_free hk Q k).1 t _ _ g hR
theorem qtX12_free {G : XT → Prop} {k : Nat} {t : XT} {a1 : Int32} {Q Q' : Int32 → XT → Prop} (hk : kpQ G) (g : G t) (hR : wqX12_free k t a1 Q) (hQ : (∀ r t, Q r t → G t → Q' r t)) : wqX12_free k t a1 Q' := wmX12_free (Nat.le_refl k) (fun r t h => hQ r t h.1 h.2) (qgX12_free hk g hR)
set_option maxHeartbeats 4000000 in
set_option maxRecDepth 100000 in
theorem qfX12_facet {G : XT → Prop} (hk : kpQ G) (Q : Int32 → XT → Prop) : ∀ k : Nat, (∀ (t : XT) (li : Nat → Int32) (lj : Nat → Int64), G t → wpX12_facet k 0 t li lj Q → wpX12_facet k 0 t li lj (fun r t => Q r t ∧ G t)) ∧ (∀ (t : XT) (li : Nat → Int32) (lj : Nat → Int64), G t → wpX12_facet k 1 t li lj Q → wpX12_facet k 1 t li lj (fun r t => Q r t ∧ G t)) ∧ (∀ (t : XT) (li : Nat → Int32) (lj : Nat → Int64), G t → wpX12_facet k 2 t li lj Q → wpX12_facet k 2 t li lj (fun r t => Q r t ∧ G t)) := by
  intro k
  induction k with
  | zero => exact ⟨fun _ _ _ _ hR => False.elim hR, fun _ _ _ _ hR => False.elim hR, fun _ _ _ _ hR => False.elim hR⟩
  | succ k ih =>
    refine ⟨?_, ?_, ?_⟩
    · intro t li lj g hR
      have hR : wbX12_facet_0 (wpX12_facet k) k t li lj Q := hR
      show wbX12_facet_0 (wpX12_facet k) k t li lj (fun r t => Q r t ∧ G t)
      unfold wbX12_facet_0 at hR ⊢
      exact ⟨fun c1 => ih.2.1 _ _ _ g (hR.1 c1), fun c2 => ⟨(hR.2 c2), g⟩⟩
    · intro t li lj g hR
      have hR : wbX12_facet_1 (wpX12_facet k) k t li lj Q := hR
      show wbX12_facet_1 (wpX12_facet k) k t li lj (fun r t => Q r t ∧ G t)
      unfold wbX12_facet_1 at hR ⊢
      exact ⟨fun c1 => ⟨fun c2 => ⟨((hR.1 c1).1 c2), g⟩, fun c3 => ⟨((hR.1 c1).2 c3), g⟩⟩, fun c4 => qtX12_isThere hk g (hR.2 c4) (fun y5_0 y5_1 h5 g5 => ⟨fun c6 => ih.2.2 _ _ _ g5 (h5.1 c6), fun c7 => qtX12_facesOver hk g5 (h5.2 c7) (fun y8_0 y8_1 h8 g8 => ⟨fun c9 => ih.2.2 _ _ _ g8 (h8.1 c9), fun c10 => ⟨fun c11 => fun x12 e12 => ih.2.2 _ _ _ g8 (((h8.2 c10).1 c11) x12 e12), fun c13 => ⟨((h8.2 c10).2 c13), g8⟩⟩⟩)⟩)⟩
    · intro t li lj g hR
      have hR : wbX12_facet_2 (wpX12_facet k) k t li lj Q := hR
      show wbX12_facet_2 (wpX12_facet k) k t li lj (fun r t => Q r t ∧ G t)
      unfold wbX12_facet_2 at hR ⊢
      exact fun x1 e1 => ih.2.1 _ _ _ g (hR x1 e1)
theorem qgX12_facet {G : XT → Prop} {k : Nat} {t : XT} {a1 : Int32} {Q : Int32 → XT → Prop} (hk : kpQ G) (g : G t) (hR : wqX12_facet k t a1 Q) : wqX12_facet k t a1 (fun r t => Q r t ∧ G t) := (qfX12_facet hk Q k).1 t _ _ g hR
theorem qtX12_facet {G : XT → Prop} {k : Nat} {t : XT} {a1 : Int32} {Q Q' : Int32 → XT → Prop} (hk : kpQ G) (g : G t) (hR : wqX12_facet k t a1 Q) (hQ : (∀ r t, Q r t → G t → Q' r t)) : wqX12_facet k t a1 Q' := wmX12_facet (Nat.le_refl k) (fun r t h => hQ r t h.1 h.2) (qgX12_facet hk g hR)
set_option maxHeartbeats 4000000 in
set_option maxRecDepth 100000 in
theorem qfX12_alternating {G : XT → Prop} (hk : kpQ G) (Q : Int32 → XT → Prop) : ∀ k : Nat, (∀ (t : XT) (li : Nat → Int32) (lj : Nat → Int64), G t → wpX12_alternating k 0 t li lj Q → wpX12_alternating k 0 t li lj (fun r t => Q r t ∧ G t)) := by
  intro k
  induction k with
  | zero => exact fun _ _ _ _ hR => False.elim hR
  | succ k ih =>
    intro t li lj g hR
    have hR : wbX12_alternating_0 (wpX12_alternating k) k t li lj Q := hR
    show wbX12_alternating_0 (wpX12_alternating k) k t li lj (fun r t => Q r t ∧ G t)
    unfold wbX12_alternating_0 at hR ⊢
    exact qtX12_dimOf hk g hR (fun y1_0 y1_1 h1 g1 => ⟨h1.1, fun x2 e2 => ⟨fun c3 => ⟨((h1.2 x2 e2).1 c3), g1⟩, fun c4 => ⟨((h1.2 x2 e2).2 c4), g1⟩⟩⟩)
theorem qgX12_alternating {G : XT → Prop} {k : Nat} {t : XT} {a1 : Int32} {Q : Int32 → XT → Prop} (hk : kpQ G) (g : G t) (hR : wqX12_alternating k t a1 Q) : wqX12_alternating k t a1 (fun r t => Q r t ∧ G t) := (qfX12_alternating hk Q k) t _ _ g hR
theorem qtX12_alternating {G : XT → Prop} {k : Nat} {t : XT} {a1 : Int32} {Q Q' : Int32 → XT → Prop} (hk : kpQ G) (g : G t) (hR : wqX12_alternating k t a1 Q) (hQ : (∀ r t, Q r t → G t → Q' r t)) : wqX12_alternating k t a1 Q' := wmX12_alternating (Nat.le_refl k) (fun r t h => hQ r t h.1 h.2) (qgX12_alternating hk g hR)
set_option maxHeartbeats 4000000 in
set_option maxRecDepth 100000 in
theorem qfX12_link {G : XT → Prop} (hk : kpQ G) (Q : Int32 → XT → Prop) : ∀ k : Nat, (∀ (t : XT) (li : Nat → Int32) (lj : Nat → Int64), G t → wpX12_link k 0 t li lj Q → wpX12_link k 0 t li lj (fun r t => Q r t ∧ G t)) ∧ (∀ (t : XT) (li : Nat → Int32) (lj : Nat → Int64), G t → wpX12_link k 1 t li lj Q → wpX12_link k 1 t li lj (fun r t => Q r t ∧ G t)) ∧ (∀ (t : XT) (li : Nat → Int32) (lj : Nat → Int64), G t → wpX12_link k 2 t li lj Q → wpX12_link k 2 t li lj (fun r t => Q r t ∧ G t)) ∧ (∀ (t : XT) (li : Nat → Int32) (lj : Nat → Int64), G t → wpX12_link k 3 t li lj Q → wpX12_link k 3 t li lj (fun r t => Q r t ∧ G t)) ∧ (∀ (t : XT) (li : Nat → Int32) (lj : Nat → Int64), G t → wpX12_link k 4 t li lj Q → wpX12_link k 4 t li lj (fun r t => Q r t ∧ G t)) := by
  intro k
  induction k with
  | zero => exact ⟨fun _ _ _ _ hR => False.elim hR, fun _ _ _ _ hR => False.elim hR, fun _ _ _ _ hR => False.elim hR, fun _ _ _ _ hR => False.elim hR, fun _ _ _ _ hR => False.elim hR⟩
  | succ k ih =>
    refine ⟨?_, ?_, ?_, ?_, ?_⟩
    · intro t li lj g hR
      have hR : wbX12_link_0 (wpX12_link k) k t li lj Q := hR
      show wbX12_link_0 (wpX12_link k) k t li lj (fun r t => Q r t ∧ G t)
      unfold wbX12_link_0 at hR ⊢
      exact qtX12_isThere hk g hR (fun y1_0 y1_1 h1 g1 => ⟨fun c2 => ih.2.1 _ _ _ g1 (h1.1 c2), fun c3 => wcX12_in (h1.2 c3) (fun y4_0 h4 => ⟨fun c5 => ih.2.2.1 _ _ _ g1 (h4.1 c5), fun c6 => ih.2.1 _ _ _ g1 (h4.2 c6)⟩)⟩)
    · intro t li lj g hR
      have hR : wbX12_link_1 (wpX12_link k) k t li lj Q := hR
      show wbX12_link_1 (wpX12_link k) k t li lj (fun r t => Q r t ∧ G t)
      unfold wbX12_link_1 at hR ⊢
      exact ⟨hR, g⟩
    · intro t li lj g hR
      have hR : wbX12_link_2 (wpX12_link k) k t li lj Q := hR
      show wbX12_link_2 (wpX12_link k) k t li lj (fun r t => Q r t ∧ G t)
      unfold wbX12_link_2 at hR ⊢
      exact ⟨fun c1 => ⟨(hR.1 c1), g⟩, fun c2 => qtX12_isThere hk g (hR.2 c2) (fun y3_0 y3_1 h3 g3 => ⟨fun c4 => ih.2.2.2.2 _ _ _ g3 (h3.1 c4), fun c5 => ⟨(h3.2 c5).1, fun x6 e6 => ⟨((h3.2 c5).2 x6 e6).1, fun x7 e7 => fun x8 e8 => ⟨fun c9 => ⟨(((((h3.2 c5).2 x6 e6).2 x7 e7) x8 e8).1 c9).1, fun x10 e10 => ⟨((((((h3.2 c5).2 x6 e6).2 x7 e7) x8 e8).1 c9).2 x10 e10).1, fun x11 e11 => fun x12 e12 => ⟨((((((((h3.2 c5).2 x6 e6).2 x7 e7) x8 e8).1 c9).2 x10 e10).2 x11 e11) x12 e12).1, fun x13 e13 => ⟨fun c14 => ih.2.2.2.2 _ _ _ g3 ((((((((((h3.2 c5).2 x6 e6).2 x7 e7) x8 e8).1 c9).2 x10 e10).2 x11 e11) x12 e12).2 x13 e13).1 c14), fun c15 => qtX12_isThere hk g3 ((((((((((h3.2 c5).2 x6 e6).2 x7 e7) x8 e8).1 c9).2 x10 e10).2 x11 e11) x12 e12).2 x13 e13).2 c15) (fun y16_0 y16_1 h16 g16 => ⟨fun c17 => ih.2.2.2.2 _ _ _ g16 (h16.1 c17), fun c18 => ⟨fun c19 => qtX12_alternating hk g16 ((h16.2 c18).1 c19) (fun y20_0 y20_1 h20 g20 => ih.2.2.2.1 _ _ _ g20 h20), fun c21 => ih.2.2.2.1 _ _ _ g16 ((h16.2 c18).2 c21)⟩⟩)⟩⟩⟩⟩, fun c22 => ih.2.2.2.2 _ _ _ g3 (((((h3.2 c5).2 x6 e6).2 x7 e7) x8 e8).2 c22)⟩⟩⟩⟩)⟩
    · intro t li lj g hR
      have hR : wbX12_link_3 (wpX12_link k) k t li lj Q := hR
      show wbX12_link_3 (wpX12_link k) k t li lj (fun r t => Q r t ∧ G t)
      unfold wbX12_link_3 at hR ⊢
      exact fun x1 e1 => ih.2.2.2.2 _ _ _ g (hR x1 e1)
    · intro t li lj g hR
      have hR : wbX12_link_4 (wpX12_link k) k t li lj Q := hR
      show wbX12_link_4 (wpX12_link k) k t li lj (fun r t => Q r t ∧ G t)
      unfold wbX12_link_4 at hR ⊢
      exact fun x1 e1 => ih.2.2.1 _ _ _ g (hR x1 e1)
theorem qgX12_link {G : XT → Prop} {k : Nat} {t : XT} {a1 : Int32} {a2 : Int32} {Q : Int32 → XT → Prop} (hk : kpQ G) (g : G t) (hR : wqX12_link k t a1 a2 Q) : wqX12_link k t a1 a2 (fun r t => Q r t ∧ G t) := (qfX12_link hk Q k).1 t _ _ g hR
theorem qtX12_link {G : XT → Prop} {k : Nat} {t : XT} {a1 : Int32} {a2 : Int32} {Q Q' : Int32 → XT → Prop} (hk : kpQ G) (g : G t) (hR : wqX12_link k t a1 a2 Q) (hQ : (∀ r t, Q r t → G t → Q' r t)) : wqX12_link k t a1 a2 Q' := wmX12_link (Nat.le_refl k) (fun r t h => hQ r t h.1 h.2) (qgX12_link hk g hR)
