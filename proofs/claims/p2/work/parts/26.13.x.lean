set_option maxHeartbeats 4000000 in
set_option maxRecDepth 100000 in
theorem wyX5_swapColumns {G : XT → Prop} (hk : kp0 G) (Q : XT → Prop) : ∀ k : Nat, (∀ (t : XT) (li : Nat → Int32) (lj : Nat → Int64), G t → wpX5_swapColumns k 0 t li lj Q → wpX5_swapColumns k 0 t li lj (fun t => Q t ∧ G t)) ∧ (∀ (t : XT) (li : Nat → Int32) (lj : Nat → Int64), G t → wpX5_swapColumns k 1 t li lj Q → wpX5_swapColumns k 1 t li lj (fun t => Q t ∧ G t)) := by
  intro k
  induction k with
  | zero => exact ⟨fun _ _ _ _ hR => False.elim hR, fun _ _ _ _ hR => False.elim hR⟩
  | succ k ih =>
    refine ⟨?_, ?_⟩
    · intro t li lj g hR
      have hR : wbX5_swapColumns_0 (wpX5_swapColumns k) k t li lj Q := hR
      show wbX5_swapColumns_0 (wpX5_swapColumns k) k t li lj (fun t => Q t ∧ G t)
      unfold wbX5_swapColumns_0 at hR ⊢
      exact ih.2 _ _ _ g hR
    · intro t li lj g hR
      have hR : wbX5_swapColumns_1 (wpX5_swapColumns k) k t li lj Q := hR
      show wbX5_swapColumns_1 (wpX5_swapColumns k) k t li lj (fun t => Q t ∧ G t)
      unfold wbX5_swapColumns_1 at hR ⊢
      exact ⟨fun c1 => ⟨(hR.1 c1), g⟩, fun c2 => ⟨fun c3 => ⟨((hR.2 c2).1 c3), g⟩, fun c4 => fun x5 e5 => fun x6 e6 => ⟨((((hR.2 c2).2 c4) x5 e5) x6 e6).1, fun x7 e7 => fun x8 e8 => fun x9 e9 => fun x10 e10 => fun x11 e11 => ⟨(((((((((hR.2 c2).2 c4) x5 e5) x6 e6).2 x7 e7) x8 e8) x9 e9) x10 e10) x11 e11).1, fun x12 e12 => ⟨((((((((((hR.2 c2).2 c4) x5 e5) x6 e6).2 x7 e7) x8 e8) x9 e9) x10 e10) x11 e11).2 x12 e12).1, fun x13 e13 => have g13 : G x13 := (by rw [e13]; exact hk.2.2.2 _ _ _ g); fun x14 e14 => fun x15 e15 => ⟨(((((((((((((hR.2 c2).2 c4) x5 e5) x6 e6).2 x7 e7) x8 e8) x9 e9) x10 e10) x11 e11).2 x12 e12).2 x13 e13) x14 e14) x15 e15).1, fun x16 e16 => have g16 : G x16 := (by rw [e16]; exact hk.2.2.2 _ _ _ g13); fun x17 e17 => ih.2 _ _ _ g16 (((((((((((((((hR.2 c2).2 c4) x5 e5) x6 e6).2 x7 e7) x8 e8) x9 e9) x10 e10) x11 e11).2 x12 e12).2 x13 e13) x14 e14) x15 e15).2 x16 e16) x17 e17)⟩⟩⟩⟩⟩⟩
theorem wzX5_swapColumns {G : XT → Prop} {k : Nat} {t : XT} {a1 : Int32} {a2 : Int32} {Q : XT → Prop} (hk : kp0 G) (g : G t) (hR : wqX5_swapColumns k t a1 a2 Q) : wqX5_swapColumns k t a1 a2 (fun t => Q t ∧ G t) := (wyX5_swapColumns hk Q k).1 t _ _ g hR
theorem vyX5_swapColumns {G : XT → Prop} {k : Nat} {t : XT} {a1 : Int32} {a2 : Int32} {Q Q' : XT → Prop} (hk : kp0 G) (g : G t) (hR : wqX5_swapColumns k t a1 a2 Q) (hQ : (∀ t, Q t → G t → Q' t)) : wqX5_swapColumns k t a1 a2 Q' := wmX5_swapColumns (Nat.le_refl k) (fun t h => hQ t h.1 h.2) (wzX5_swapColumns hk g hR)
set_option maxHeartbeats 4000000 in
set_option maxRecDepth 100000 in
theorem wyX5_reduceRows {G : XT → Prop} (hk : kp0 G) (Q : Int32 → XT → Prop) : ∀ k : Nat, (∀ (t : XT) (li : Nat → Int32) (lj : Nat → Int64), G t → wpX5_reduceRows k 0 t li lj Q → wpX5_reduceRows k 0 t li lj (fun r t => Q r t ∧ G t)) ∧ (∀ (t : XT) (li : Nat → Int32) (lj : Nat → Int64), G t → wpX5_reduceRows k 1 t li lj Q → wpX5_reduceRows k 1 t li lj (fun r t => Q r t ∧ G t)) ∧ (∀ (t : XT) (li : Nat → Int32) (lj : Nat → Int64), G t → wpX5_reduceRows k 2 t li lj Q → wpX5_reduceRows k 2 t li lj (fun r t => Q r t ∧ G t)) ∧ (∀ (t : XT) (li : Nat → Int32) (lj : Nat → Int64), G t → wpX5_reduceRows k 3 t li lj Q → wpX5_reduceRows k 3 t li lj (fun r t => Q r t ∧ G t)) ∧ (∀ (t : XT) (li : Nat → Int32) (lj : Nat → Int64), G t → wpX5_reduceRows k 4 t li lj Q → wpX5_reduceRows k 4 t li lj (fun r t => Q r t ∧ G t)) ∧ (∀ (t : XT) (li : Nat → Int32) (lj : Nat → Int64), G t → wpX5_reduceRows k 5 t li lj Q → wpX5_reduceRows k 5 t li lj (fun r t => Q r t ∧ G t)) := by
  intro k
  induction k with
  | zero => exact ⟨fun _ _ _ _ hR => False.elim hR, fun _ _ _ _ hR => False.elim hR, fun _ _ _ _ hR => False.elim hR, fun _ _ _ _ hR => False.elim hR, fun _ _ _ _ hR => False.elim hR, fun _ _ _ _ hR => False.elim hR⟩
  | succ k ih =>
    refine ⟨?_, ?_, ?_, ?_, ?_, ?_⟩
    · intro t li lj g hR
      have hR : wbX5_reduceRows_0 (wpX5_reduceRows k) k t li lj Q := hR
      show wbX5_reduceRows_0 (wpX5_reduceRows k) k t li lj (fun r t => Q r t ∧ G t)
      unfold wbX5_reduceRows_0 at hR ⊢
      exact fun x1 e1 => ih.2.1 _ _ _ g (hR x1 e1)
    · intro t li lj g hR
      have hR : wbX5_reduceRows_1 (wpX5_reduceRows k) k t li lj Q := hR
      show wbX5_reduceRows_1 (wpX5_reduceRows k) k t li lj (fun r t => Q r t ∧ G t)
      unfold wbX5_reduceRows_1 at hR ⊢
      exact ⟨fun c1 => ⟨(hR.1 c1).1, ⟨(hR.1 c1).2, g⟩⟩, fun c2 => fun x3 e3 => fun x4 e4 => ⟨(((hR.2 c2) x3 e3) x4 e4).1, fun x5 e5 => fun x6 e6 => fun x7 e7 => ⟨((((((hR.2 c2) x3 e3) x4 e4).2 x5 e5) x6 e6) x7 e7).1, fun x8 e8 => wcX5_nearest (((((((hR.2 c2) x3 e3) x4 e4).2 x5 e5) x6 e6) x7 e7).2 x8 e8) (fun y9_0 h9 => ih.2.2.1 _ _ _ g h9)⟩⟩⟩
    · intro t li lj g hR
      have hR : wbX5_reduceRows_2 (wpX5_reduceRows k) k t li lj Q := hR
      show wbX5_reduceRows_2 (wpX5_reduceRows k) k t li lj (fun r t => Q r t ∧ G t)
      unfold wbX5_reduceRows_2 at hR ⊢
      exact ⟨fun c1 => ih.2.2.2.1 _ _ _ g (hR.1 c1), fun c2 => fun x3 e3 => ⟨fun c4 => ih.2.2.2.1 _ _ _ g (((hR.2 c2) x3 e3).1 c4), fun c5 => fun x6 e6 => fun x7 e7 => ⟨(((((hR.2 c2) x3 e3).2 c5) x6 e6) x7 e7).1, fun x8 e8 => fun x9 e9 => fun x10 e10 => ⟨((((((((hR.2 c2) x3 e3).2 c5) x6 e6) x7 e7).2 x8 e8) x9 e9) x10 e10).1, fun x11 e11 => fun x12 e12 => fun x13 e13 => vyX5_remainder hk g (((((((((((hR.2 c2) x3 e3).2 c5) x6 e6) x7 e7).2 x8 e8) x9 e9) x10 e10).2 x11 e11) x12 e12) x13 e13) (fun y14_0 y14_1 h14 g14 => ⟨h14.1, fun x15 e15 => have g15 : G x15 := (by rw [e15]; exact hk.2.2.2 _ _ _ g14); fun x16 e16 => ih.2.2.1 _ _ _ g15 ((h14.2 x15 e15) x16 e16)⟩)⟩⟩⟩⟩
    · intro t li lj g hR
      have hR : wbX5_reduceRows_3 (wpX5_reduceRows k) k t li lj Q := hR
      show wbX5_reduceRows_3 (wpX5_reduceRows k) k t li lj (fun r t => Q r t ∧ G t)
      unfold wbX5_reduceRows_3 at hR ⊢
      exact ⟨fun c1 => ih.2.2.2.2.1 _ _ _ g (hR.1 c1), fun c2 => fun x3 e3 => fun x4 e4 => ⟨(((hR.2 c2) x3 e3) x4 e4).1, fun x5 e5 => fun x6 e6 => ⟨fun c7 => ih.2.2.2.2.1 _ _ _ g ((((((hR.2 c2) x3 e3) x4 e4).2 x5 e5) x6 e6).1 c7), fun c8 => ih.2.2.2.2.2 _ _ _ g ((((((hR.2 c2) x3 e3) x4 e4).2 x5 e5) x6 e6).2 c8)⟩⟩⟩
    · intro t li lj g hR
      have hR : wbX5_reduceRows_4 (wpX5_reduceRows k) k t li lj Q := hR
      show wbX5_reduceRows_4 (wpX5_reduceRows k) k t li lj (fun r t => Q r t ∧ G t)
      unfold wbX5_reduceRows_4 at hR ⊢
      exact ih.2.2.2.2.2 _ _ _ g hR
    · intro t li lj g hR
      have hR : wbX5_reduceRows_5 (wpX5_reduceRows k) k t li lj Q := hR
      show wbX5_reduceRows_5 (wpX5_reduceRows k) k t li lj (fun r t => Q r t ∧ G t)
      unfold wbX5_reduceRows_5 at hR ⊢
      exact fun x1 e1 => ih.2.1 _ _ _ g (hR x1 e1)
theorem wzX5_reduceRows {G : XT → Prop} {k : Nat} {t : XT} {a1 : Int32} {Q : Int32 → XT → Prop} (hk : kp0 G) (g : G t) (hR : wqX5_reduceRows k t a1 Q) : wqX5_reduceRows k t a1 (fun r t => Q r t ∧ G t) := (wyX5_reduceRows hk Q k).1 t _ _ g hR
theorem vyX5_reduceRows {G : XT → Prop} {k : Nat} {t : XT} {a1 : Int32} {Q Q' : Int32 → XT → Prop} (hk : kp0 G) (g : G t) (hR : wqX5_reduceRows k t a1 Q) (hQ : (∀ r t, Q r t → G t → Q' r t)) : wqX5_reduceRows k t a1 Q' := wmX5_reduceRows (Nat.le_refl k) (fun r t h => hQ r t h.1 h.2) (wzX5_reduceRows hk g hR)
set_option maxHeartbeats 4000000 in
set_option maxRecDepth 100000 in
theorem wyX5_reduceColumns {G : XT → Prop} (hk : kp0 G) (Q : Int32 → XT → Prop) : ∀ k : Nat, (∀ (t : XT) (li : Nat → Int32) (lj : Nat → Int64), G t → wpX5_reduceColumns k 0 t li lj Q → wpX5_reduceColumns k 0 t li lj (fun r t => Q r t ∧ G t)) ∧ (∀ (t : XT) (li : Nat → Int32) (lj : Nat → Int64), G t → wpX5_reduceColumns k 1 t li lj Q → wpX5_reduceColumns k 1 t li lj (fun r t => Q r t ∧ G t)) ∧ (∀ (t : XT) (li : Nat → Int32) (lj : Nat → Int64), G t → wpX5_reduceColumns k 2 t li lj Q → wpX5_reduceColumns k 2 t li lj (fun r t => Q r t ∧ G t)) ∧ (∀ (t : XT) (li : Nat → Int32) (lj : Nat → Int64), G t → wpX5_reduceColumns k 3 t li lj Q → wpX5_reduceColumns k 3 t li lj (fun r t => Q r t ∧ G t)) ∧ (∀ (t : XT) (li : Nat → Int32) (lj : Nat → Int64), G t → wpX5_reduceColumns k 4 t li lj Q → wpX5_reduceColumns k 4 t li lj (fun r t => Q r t ∧ G t)) ∧ (∀ (t : XT) (li : Nat → Int32) (lj : Nat → Int64), G t → wpX5_reduceColumns k 5 t li lj Q → wpX5_reduceColumns k 5 t li lj (fun r t => Q r t ∧ G t)) := by
  intro k
  induction k with
  | zero => exact ⟨fun _ _ _ _ hR => False.elim hR, fun _ _ _ _ hR => False.elim hR, fun _ _ _ _ hR => False.elim hR, fun _ _ _ _ hR => False.elim hR, fun _ _ _ _ hR => False.elim hR, fun _ _ _ _ hR => False.elim hR⟩
  | succ k ih =>
    refine ⟨?_, ?_, ?_, ?_, ?_, ?_⟩
    · intro t li lj g hR
      have hR : wbX5_reduceColumns_0 (wpX5_reduceColumns k) k t li lj Q := hR
      show wbX5_reduceColumns_0 (wpX5_reduceColumns k) k t li lj (fun r t => Q r t ∧ G t)
      unfold wbX5_reduceColumns_0 at hR ⊢
      exact fun x1 e1 => ih.2.1 _ _ _ g (hR x1 e1)
    · intro t li lj g hR
      have hR : wbX5_reduceColumns_1 (wpX5_reduceColumns k) k t li lj Q := hR
      show wbX5_reduceColumns_1 (wpX5_reduceColumns k) k t li lj (fun r t => Q r t ∧ G t)
      unfold wbX5_reduceColumns_1 at hR ⊢
      exact ⟨fun c1 => ⟨(hR.1 c1).1, ⟨(hR.1 c1).2, g⟩⟩, fun c2 => fun x3 e3 => fun x4 e4 => ⟨(((hR.2 c2) x3 e3) x4 e4).1, fun x5 e5 => fun x6 e6 => fun x7 e7 => ⟨((((((hR.2 c2) x3 e3) x4 e4).2 x5 e5) x6 e6) x7 e7).1, fun x8 e8 => wcX5_nearest (((((((hR.2 c2) x3 e3) x4 e4).2 x5 e5) x6 e6) x7 e7).2 x8 e8) (fun y9_0 h9 => ih.2.2.1 _ _ _ g h9)⟩⟩⟩
    · intro t li lj g hR
      have hR : wbX5_reduceColumns_2 (wpX5_reduceColumns k) k t li lj Q := hR
      show wbX5_reduceColumns_2 (wpX5_reduceColumns k) k t li lj (fun r t => Q r t ∧ G t)
      unfold wbX5_reduceColumns_2 at hR ⊢
      exact ⟨fun c1 => ih.2.2.2.1 _ _ _ g (hR.1 c1), fun c2 => fun x3 e3 => ⟨fun c4 => ih.2.2.2.1 _ _ _ g (((hR.2 c2) x3 e3).1 c4), fun c5 => fun x6 e6 => fun x7 e7 => ⟨(((((hR.2 c2) x3 e3).2 c5) x6 e6) x7 e7).1, fun x8 e8 => fun x9 e9 => fun x10 e10 => ⟨((((((((hR.2 c2) x3 e3).2 c5) x6 e6) x7 e7).2 x8 e8) x9 e9) x10 e10).1, fun x11 e11 => fun x12 e12 => fun x13 e13 => vyX5_remainder hk g (((((((((((hR.2 c2) x3 e3).2 c5) x6 e6) x7 e7).2 x8 e8) x9 e9) x10 e10).2 x11 e11) x12 e12) x13 e13) (fun y14_0 y14_1 h14 g14 => ⟨h14.1, fun x15 e15 => have g15 : G x15 := (by rw [e15]; exact hk.2.2.2 _ _ _ g14); fun x16 e16 => ih.2.2.1 _ _ _ g15 ((h14.2 x15 e15) x16 e16)⟩)⟩⟩⟩⟩
    · intro t li lj g hR
      have hR : wbX5_reduceColumns_3 (wpX5_reduceColumns k) k t li lj Q := hR
      show wbX5_reduceColumns_3 (wpX5_reduceColumns k) k t li lj (fun r t => Q r t ∧ G t)
      unfold wbX5_reduceColumns_3 at hR ⊢
      exact ⟨fun c1 => ih.2.2.2.2.1 _ _ _ g (hR.1 c1), fun c2 => fun x3 e3 => fun x4 e4 => ⟨(((hR.2 c2) x3 e3) x4 e4).1, fun x5 e5 => fun x6 e6 => ⟨fun c7 => ih.2.2.2.2.1 _ _ _ g ((((((hR.2 c2) x3 e3) x4 e4).2 x5 e5) x6 e6).1 c7), fun c8 => ih.2.2.2.2.2 _ _ _ g ((((((hR.2 c2) x3 e3) x4 e4).2 x5 e5) x6 e6).2 c8)⟩⟩⟩
    · intro t li lj g hR
      have hR : wbX5_reduceColumns_4 (wpX5_reduceColumns k) k t li lj Q := hR
      show wbX5_reduceColumns_4 (wpX5_reduceColumns k) k t li lj (fun r t => Q r t ∧ G t)
      unfold wbX5_reduceColumns_4 at hR ⊢
      exact ih.2.2.2.2.2 _ _ _ g hR
    · intro t li lj g hR
      have hR : wbX5_reduceColumns_5 (wpX5_reduceColumns k) k t li lj Q := hR
      show wbX5_reduceColumns_5 (wpX5_reduceColumns k) k t li lj (fun r t => Q r t ∧ G t)
      unfold wbX5_reduceColumns_5 at hR ⊢
      exact fun x1 e1 => ih.2.1 _ _ _ g (hR x1 e1)
theorem wzX5_reduceColumns {G : XT → Prop} {k : Nat} {t : XT} {a1 : Int32} {Q : Int32 → XT → Prop} (hk : kp0 G) (g : G t) (hR : wqX5_reduceColumns k t a1 Q) : wqX5_reduceColumns k t a1 (fun r t => Q r t ∧ G t) := (wyX5_reduceColumns hk Q k).1 t _ _ g hR
theorem vyX5_reduceColumns {G : XT → Prop} {k : Nat} {t : XT} {a1 : Int32} {Q Q' : Int32 → XT → Prop} (hk : kp0 G) (g : G t) (hR : wqX5_reduceColumns k t a1 Q) (hQ : (∀ r t, Q r t → G t → Q' r t)) : wqX5_reduceColumns k t a1 Q' := wmX5_reduceColumns (Nat.le_refl k) (fun r t h => hQ r t h.1 h.2) (wzX5_reduceColumns hk g hR)
set_option maxHeartbeats 4000000 in
set_option maxRecDepth 100000 in
theorem wyX5_clearCorner {G : XT → Prop} (hk : kp0 G) (Q : Int64 → XT → Prop) : ∀ k : Nat, (∀ (t : XT) (li : Nat → Int32) (lj : Nat → Int64), G t → wpX5_clearCorner k 0 t li lj Q → wpX5_clearCorner k 0 t li lj (fun r t => Q r t ∧ G t)) ∧ (∀ (t : XT) (li : Nat → Int32) (lj : Nat → Int64), G t → wpX5_clearCorner k 1 t li lj Q → wpX5_clearCorner k 1 t li lj (fun r t => Q r t ∧ G t)) ∧ (∀ (t : XT) (li : Nat → Int32) (lj : Nat → Int64), G t → wpX5_clearCorner k 2 t li lj Q → wpX5_clearCorner k 2 t li lj (fun r t => Q r t ∧ G t)) ∧ (∀ (t : XT) (li : Nat → Int32) (lj : Nat → Int64), G t → wpX5_clearCorner k 3 t li lj Q → wpX5_clearCorner k 3 t li lj (fun r t => Q r t ∧ G t)) := by
  intro k
  induction k with
  | zero => exact ⟨fun _ _ _ _ hR => False.elim hR, fun _ _ _ _ hR => False.elim hR, fun _ _ _ _ hR => False.elim hR, fun _ _ _ _ hR => False.elim hR⟩
  | succ k ih =>
    refine ⟨?_, ?_, ?_, ?_⟩
    · intro t li lj g hR
      have hR : wbX5_clearCorner_0 (wpX5_clearCorner k) k t li lj Q := hR
      show wbX5_clearCorner_0 (wpX5_clearCorner k) k t li lj (fun r t => Q r t ∧ G t)
      unfold wbX5_clearCorner_0 at hR ⊢
      exact ih.2.1 _ _ _ g hR
    · intro t li lj g hR
      have hR : wbX5_clearCorner_1 (wpX5_clearCorner k) k t li lj Q := hR
      show wbX5_clearCorner_1 (wpX5_clearCorner k) k t li lj (fun r t => Q r t ∧ G t)
      unfold wbX5_clearCorner_1 at hR ⊢
      exact ⟨fun c1 => ⟨(hR.1 c1), g⟩, fun c2 => vyX5_leastCell hk g (hR.2 c2) (fun y3_0 y3_1 h3 g3 => ⟨fun c4 => ih.2.2.1 _ _ _ g3 (h3.1 c4), fun c5 => ⟨fun c6 => ⟨((h3.2 c5).1 c6).1, fun x7 e7 => vyX5_swapRows_c30 hk g3 (((h3.2 c5).1 c6).2 x7 e7) (fun y8_0 h8 g8 => ⟨h8.1, fun x9 e9 => vyX5_swapColumns hk g8 (h8.2 x9 e9) (fun y10_0 h10 g10 => vyX5_reduceRows hk g10 h10 (fun y11_0 y11_1 h11 g11 => vyX5_reduceColumns hk g11 h11 (fun y12_0 y12_1 h12 g12 => ⟨fun c13 => ih.2.2.2 _ _ _ g12 (h12.1 c13), fun c14 => ⟨fun c15 => ih.2.2.2 _ _ _ g12 ((h12.2 c14).1 c15), fun c16 => fun x17 e17 => fun x18 e18 => ⟨((((h12.2 c14).2 c16) x17 e17) x18 e18).1, fun x19 e19 => wcX5_gcd (((((h12.2 c14).2 c16) x17 e17) x18 e18).2 x19 e19) (fun y20_0 h20 => ⟨h20, g12⟩)⟩⟩⟩)))⟩)⟩, fun c21 => ih.2.2.1 _ _ _ g3 ((h3.2 c5).2 c21)⟩⟩)⟩
    · intro t li lj g hR
      have hR : wbX5_clearCorner_2 (wpX5_clearCorner k) k t li lj Q := hR
      show wbX5_clearCorner_2 (wpX5_clearCorner k) k t li lj (fun r t => Q r t ∧ G t)
      unfold wbX5_clearCorner_2 at hR ⊢
      exact ⟨hR, g⟩
    · intro t li lj g hR
      have hR : wbX5_clearCorner_3 (wpX5_clearCorner k) k t li lj Q := hR
      show wbX5_clearCorner_3 (wpX5_clearCorner k) k t li lj (fun r t => Q r t ∧ G t)
      unfold wbX5_clearCorner_3 at hR ⊢
      exact fun x1 e1 => ih.2.1 _ _ _ g (hR x1 e1)
theorem wzX5_clearCorner {G : XT → Prop} {k : Nat} {t : XT} {a1 : Int32} {Q : Int64 → XT → Prop} (hk : kp0 G) (g : G t) (hR : wqX5_clearCorner k t a1 Q) : wqX5_clearCorner k t a1 (fun r t => Q r t ∧ G t) := (wyX5_clearCorner hk Q k).1 t _ _ g hR
theorem vyX5_clearCorner {G : XT → Prop} {k : Nat} {t : XT} {a1 : Int32} {Q Q' : Int64 → XT → Prop} (hk : kp0 G) (g : G t) (hR : wqX5_clearCorner k t a1 Q) (hQ : (∀ r t, Q r t → G t → Q' r t)) : wqX5_clearCorner k t a1 Q' := wmX5_clearCorner (Nat.le_refl k) (fun r t h => hQ r t h.1 h.2) (wzX5_clearCorner hk g hR)
set_option maxHeartbeats 4000000 in
set_option maxRecDepth 100000 in
theorem wyX5_makeDivide {G : XT → Prop} (hk : kp0 G) (Q : XT → Prop) : ∀ k : Nat, (∀ (t : XT) (li : Nat → Int32) (lj : Nat → Int64), G t → wpX5_makeDivide k 0 t li lj Q → wpX5_makeDivide k 0 t li lj (fun t => Q t ∧ G t)) := by
  intro k
  induction k with
  | zero => exact fun _ _ _ _ hR => False.elim hR
  | succ k ih =>
    intro t li lj g hR
    have hR : wbX5_makeDivide_0 (wpX5_makeDivide k) k t li lj Q := hR
    show wbX5_makeDivide_0 (wpX5_makeDivide k) k t li lj (fun t => Q t ∧ G t)
    unfold wbX5_makeDivide_0 at hR ⊢
    exact ⟨hR.1, fun x1 e1 => ⟨(hR.2 x1 e1).1, fun x2 e2 => wcX5_gcd ((hR.2 x1 e1).2 x2 e2) (fun y3_0 h3 => fun x4 e4 => ⟨fun c5 => ⟨((h3 x4 e4).1 c5), g⟩, fun c6 => ⟨((h3 x4 e4).2 c6).1, fun x7 e7 => ⟨(((h3 x4 e4).2 c6).2 x7 e7).1, fun x8 e8 => ⟨((((h3 x4 e4).2 c6).2 x7 e7).2 x8 e8).1, fun x9 e9 => fun x10 e10 => ⟨((((((h3 x4 e4).2 c6).2 x7 e7).2 x8 e8).2 x9 e9) x10 e10).1, fun x11 e11 => have g11 : G x11 := (by rw [e11]; exact hk.2.2.2 _ _ _ g); ⟨(((((((h3 x4 e4).2 c6).2 x7 e7).2 x8 e8).2 x9 e9) x10 e10).2 x11 e11).1, fun x12 e12 => have g12 : G x12 := (by rw [e12]; exact hk.2.2.2 _ _ _ g11); ⟨((((((((h3 x4 e4).2 c6).2 x7 e7).2 x8 e8).2 x9 e9) x10 e10).2 x11 e11).2 x12 e12), g12⟩⟩⟩⟩⟩⟩⟩)⟩⟩
theorem wzX5_makeDivide {G : XT → Prop} {k : Nat} {t : XT} {a1 : Int32} {a2 : Int32} {Q : XT → Prop} (hk : kp0 G) (g : G t) (hR : wqX5_makeDivide k t a1 a2 Q) : wqX5_makeDivide k t a1 a2 (fun t => Q t ∧ G t) := (wyX5_makeDivide hk Q k) t _ _ g hR
theorem vyX5_makeDivide {G : XT → Prop} {k : Nat} {t : XT} {a1 : Int32} {a2 : Int32} {Q Q' : XT → Prop} (hk : kp0 G) (g : G t) (hR : wqX5_makeDivide k t a1 a2 Q) (hQ : (∀ t, Q t → G t → Q' t)) : wqX5_makeDivide k t a1 a2 Q' := wmX5_makeDivide (Nat.le_refl k) (fun t h => hQ t h.1 h.2) (wzX5_makeDivide hk g hR)
set_option maxHeartbeats 4000000 in
set_option maxRecDepth 100000 in
theorem wyX5_diagonalise {G : XT → Prop} (hk : kp0 G) (Q : XT → Prop) : ∀ k : Nat, (∀ (t : XT) (li : Nat → Int32) (lj : Nat → Int64), G t → wpX5_diagonalise k 0 t li lj Q → wpX5_diagonalise k 0 t li lj (fun t => Q t ∧ G t)) ∧ (∀ (t : XT) (li : Nat → Int32) (lj : Nat → Int64), G t → wpX5_diagonalise k 1 t li lj Q → wpX5_diagonalise k 1 t li lj (fun t => Q t ∧ G t)) ∧ (∀ (t : XT) (li : Nat → Int32) (lj : Nat → Int64), G t → wpX5_diagonalise k 2 t li lj Q → wpX5_diagonalise k 2 t li lj (fun t => Q t ∧ G t)) ∧ (∀ (t : XT) (li : Nat → Int32) (lj : Nat → Int64), G t → wpX5_diagonalise k 3 t li lj Q → wpX5_diagonalise k 3 t li lj (fun t => Q t ∧ G t)) ∧ (∀ (t : XT) (li : Nat → Int32) (lj : Nat → Int64), G t → wpX5_diagonalise k 4 t li lj Q → wpX5_diagonalise k 4 t li lj (fun t => Q t ∧ G t)) := by
  intro k
  induction k with
  | zero => exact ⟨fun _ _ _ _ hR => False.elim hR, fun _ _ _ _ hR => False.elim hR, fun _ _ _ _ hR => False.elim hR, fun _ _ _ _ hR => False.elim hR, fun _ _ _ _ hR => False.elim hR⟩
  | succ k ih =>
    refine ⟨?_, ?_, ?_, ?_, ?_⟩
    · intro t li lj g hR
      have hR : wbX5_diagonalise_0 (wpX5_diagonalise k) k t li lj Q := hR
      show wbX5_diagonalise_0 (wpX5_diagonalise k) k t li lj (fun t => Q t ∧ G t)
      unfold wbX5_diagonalise_0 at hR ⊢
      exact fun x1 e1 => ih.2.1 _ _ _ g (hR x1 e1)
    · intro t li lj g hR
      have hR : wbX5_diagonalise_1 (wpX5_diagonalise k) k t li lj Q := hR
      show wbX5_diagonalise_1 (wpX5_diagonalise k) k t li lj (fun t => Q t ∧ G t)
      unfold wbX5_diagonalise_1 at hR ⊢
      exact fun x1 e1 => ⟨fun c2 => ih.2.2.1 _ _ _ g ((hR x1 e1).1 c2), fun c3 => ⟨((hR x1 e1).2 c3).1, fun x4 e4 => vyX5_remainder hk g (((hR x1 e1).2 c3).2 x4 e4) (fun y5_0 y5_1 h5 g5 => ⟨h5.1, fun x6 e6 => have g6 : G x6 := (by rw [e6]; exact hk.2.2.2 _ _ _ g5); fun x7 e7 => ih.2.1 _ _ _ g6 ((h5.2 x6 e6) x7 e7)⟩)⟩⟩
    · intro t li lj g hR
      have hR : wbX5_diagonalise_2 (wpX5_diagonalise k) k t li lj Q := hR
      show wbX5_diagonalise_2 (wpX5_diagonalise k) k t li lj (fun t => Q t ∧ G t)
      unfold wbX5_diagonalise_2 at hR ⊢
      exact ⟨fun c1 => ih.2.2.2.1 _ _ _ g (hR.1 c1), fun c2 => vyX5_clearCorner hk g (hR.2 c2) (fun y3_0 y3_1 h3 g3 => ⟨h3.1, fun x4 e4 => have g4 : G x4 := (by rw [e4]; exact hk.2.2.2 _ _ _ g3); fun x5 e5 => ih.2.2.1 _ _ _ g4 ((h3.2 x4 e4) x5 e5)⟩)⟩
    · intro t li lj g hR
      have hR : wbX5_diagonalise_3 (wpX5_diagonalise k) k t li lj Q := hR
      show wbX5_diagonalise_3 (wpX5_diagonalise k) k t li lj (fun t => Q t ∧ G t)
      unfold wbX5_diagonalise_3 at hR ⊢
      exact ⟨fun c1 => ⟨(hR.1 c1), g⟩, fun c2 => fun x3 e3 => ih.2.2.2.2 _ _ _ g ((hR.2 c2) x3 e3)⟩
    · intro t li lj g hR
      have hR : wbX5_diagonalise_4 (wpX5_diagonalise k) k t li lj Q := hR
      show wbX5_diagonalise_4 (wpX5_diagonalise k) k t li lj (fun t => Q t ∧ G t)
      unfold wbX5_diagonalise_4 at hR ⊢
      exact ⟨fun c1 => fun x2 e2 => ih.2.2.2.1 _ _ _ g ((hR.1 c1) x2 e2), fun c3 => vyX5_makeDivide hk g (hR.2 c3) (fun y4_0 h4 g4 => fun x5 e5 => ih.2.2.2.2 _ _ _ g4 (h4 x5 e5))⟩
theorem wzX5_diagonalise {G : XT → Prop} {k : Nat} {t : XT}  {Q : XT → Prop} (hk : kp0 G) (g : G t) (hR : wqX5_diagonalise k t  Q) : wqX5_diagonalise k t  (fun t => Q t ∧ G t) := (wyX5_diagonalise hk Q k).1 t _ _ g hR
theorem vyX5_diagonalise {G : XT → Prop} {k : Nat} {t : XT}  {Q Q' : XT → Prop} (hk : kp0 G) (g : G t) (hR : wqX5_diagonalise k t  Q) (hQ : (∀ t, Q t → G t → Q' t)) : wqX5_diagonalise k t  Q' := wmX5_diagonalise (Nat.le_refl k) (fun t h => hQ t h.1 h.2) (wzX5_diagonalise hk g hR)
set_option maxHeartbeats 4000000 in
set_option maxRecDepth 100000 in
theorem wyX0_torsionsOf {G : XT → Prop} (hk : kp0 G) (Q : Int32 → XT → Prop) : ∀ k : Nat, (∀ (t : XT) (li : Nat → Int32) (lj : Nat → Int64), G t → wpX0_torsionsOf k 0 t li lj Q → wpX0_torsionsOf k 0 t li lj (fun r t => Q r t ∧ G t)) ∧ (∀ (t : XT) (li : Nat → Int32) (lj : Nat → Int64), G t → wpX0_torsionsOf k 1 t li lj Q → wpX0_torsionsOf k 1 t li lj (fun r t => Q r t ∧ G t)) ∧ (∀ (t : XT) (li : Nat → Int32) (lj : Nat → Int64), G t → wpX0_torsionsOf k 2 t li lj Q → wpX0_torsionsOf k 2 t li lj (fun r t => Q r t ∧ G t)) ∧ (∀ (t : XT) (li : Nat → Int32) (lj : Nat → Int64), G t → wpX0_torsionsOf k 3 t li lj Q → wpX0_torsionsOf k 3 t li lj (fun r t => Q r t ∧ G t)) ∧ (∀ (t : XT) (li : Nat → Int32) (lj : Nat → Int64), G t → wpX0_torsionsOf k 4 t li lj Q → wpX0_torsionsOf k 4 t li lj (fun r t => Q r t ∧ G t)) := by
  intro k
  induction k with
  | zero => exact ⟨fun _ _ _ _ hR => False.elim hR, fun _ _ _ _ hR => False.elim hR, fun _ _ _ _ hR => False.elim hR, fun _ _ _ _ hR => False.elim hR, fun _ _ _ _ hR => False.elim hR⟩
  | succ k ih =>
    refine ⟨?_, ?_, ?_, ?_, ?_⟩
    · intro t li lj g hR
      have hR : wbX0_torsionsOf_0 (wpX0_torsionsOf k) k t li lj Q := hR
      show wbX0_torsionsOf_0 (wpX0_torsionsOf k) k t li lj (fun r t => Q r t ∧ G t)
      unfold wbX0_torsionsOf_0 at hR ⊢
      exact fun x1 e1 => vyX0_rankOf hk g (hR x1 e1) (fun y2_0 y2_1 h2 g2 => ⟨fun c3 => ih.2.1 _ _ _ g2 (h2.1 c3), fun c4 => fun x5 e5 => ⟨fun c6 => vyX5_diagonalise hk g2 (((h2.2 c4) x5 e5).1 c6) (fun y7_0 h7 g7 => ih.2.2.1 _ _ _ g7 h7), fun c8 => ih.2.1 _ _ _ g2 (((h2.2 c4) x5 e5).2 c8)⟩⟩)
    · intro t li lj g hR
      have hR : wbX0_torsionsOf_1 (wpX0_torsionsOf k) k t li lj Q := hR
      show wbX0_torsionsOf_1 (wpX0_torsionsOf k) k t li lj (fun r t => Q r t ∧ G t)
      unfold wbX0_torsionsOf_1 at hR ⊢
      exact ⟨hR, g⟩
    · intro t li lj g hR
      have hR : wbX0_torsionsOf_2 (wpX0_torsionsOf k) k t li lj Q := hR
      show wbX0_torsionsOf_2 (wpX0_torsionsOf k) k t li lj (fun r t => Q r t ∧ G t)
      unfold wbX0_torsionsOf_2 at hR ⊢
      exact ⟨fun c1 => ih.2.2.2.2 _ _ _ g (hR.1 c1), fun c2 => ⟨fun c3 => ih.2.2.2.2 _ _ _ g ((hR.2 c2).1 c3), fun c4 => ⟨((hR.2 c2).2 c4).1, fun x5 e5 => fun x6 e6 => ⟨fun c7 => ih.2.2.2.1 _ _ _ g (((((hR.2 c2).2 c4).2 x5 e5) x6 e6).1 c7), fun c8 => ⟨(((((hR.2 c2).2 c4).2 x5 e5) x6 e6).2 c8).1, fun x9 e9 => ⟨((((((hR.2 c2).2 c4).2 x5 e5) x6 e6).2 c8).2 x9 e9).1, fun x10 e10 => have g10 : G x10 := (by rw [e10]; exact hk.2.2.2 _ _ _ g); fun x11 e11 => ih.2.2.2.1 _ _ _ g10 ((((((((hR.2 c2).2 c4).2 x5 e5) x6 e6).2 c8).2 x9 e9).2 x10 e10) x11 e11)⟩⟩⟩⟩⟩⟩
    · intro t li lj g hR
      have hR : wbX0_torsionsOf_3 (wpX0_torsionsOf k) k t li lj Q := hR
      show wbX0_torsionsOf_3 (wpX0_torsionsOf k) k t li lj (fun r t => Q r t ∧ G t)
      unfold wbX0_torsionsOf_3 at hR ⊢
      exact fun x1 e1 => ih.2.2.1 _ _ _ g (hR x1 e1)
    · intro t li lj g hR
      have hR : wbX0_torsionsOf_4 (wpX0_torsionsOf k) k t li lj Q := hR
      show wbX0_torsionsOf_4 (wpX0_torsionsOf k) k t li lj (fun r t => Q r t ∧ G t)
      unfold wbX0_torsionsOf_4 at hR ⊢
      exact ⟨hR, g⟩
theorem wzX0_torsionsOf {G : XT → Prop} {k : Nat} {t : XT} {a1 : Int64} {a2 : Int32} {a3 : Int32} {Q : Int32 → XT → Prop} (hk : kp0 G) (g : G t) (hR : wqX0_torsionsOf k t a1 a2 a3 Q) : wqX0_torsionsOf k t a1 a2 a3 (fun r t => Q r t ∧ G t) := (wyX0_torsionsOf hk Q k).1 t _ _ g hR
theorem vyX0_torsionsOf {G : XT → Prop} {k : Nat} {t : XT} {a1 : Int64} {a2 : Int32} {a3 : Int32} {Q Q' : Int32 → XT → Prop} (hk : kp0 G) (g : G t) (hR : wqX0_torsionsOf k t a1 a2 a3 Q) (hQ : (∀ r t, Q r t → G t → Q' r t)) : wqX0_torsionsOf k t a1 a2 a3 Q' := wmX0_torsionsOf (Nat.le_refl k) (fun r t h => hQ r t h.1 h.2) (wzX0_torsionsOf hk g hR)
set_option maxHeartbeats 4000000 in
set_option maxRecDepth 100000 in
theorem wyX11_torsion {G : XT → Prop} (hk : kp0 G) (Q : Int64 → XT → Prop) : ∀ k : Nat, (∀ (t : XT) (li : Nat → Int32) (lj : Nat → Int64), G t → wpX11_torsion k 0 t li lj Q → wpX11_torsion k 0 t li lj (fun r t => Q r t ∧ G t)) ∧ (∀ (t : XT) (li : Nat → Int32) (lj : Nat → Int64), G t → wpX11_torsion k 1 t li lj Q → wpX11_torsion k 1 t li lj (fun r t => Q r t ∧ G t)) ∧ (∀ (t : XT) (li : Nat → Int32) (lj : Nat → Int64), G t → wpX11_torsion k 2 t li lj Q → wpX11_torsion k 2 t li lj (fun r t => Q r t ∧ G t)) := by
  intro k
  induction k with
  | zero => exact ⟨fun _ _ _ _ hR => False.elim hR, fun _ _ _ _ hR => False.elim hR, fun _ _ _ _ hR => False.elim hR⟩
  | succ k ih =>
    refine ⟨?_, ?_, ?_⟩
    · intro t li lj g hR
      have hR : wbX11_torsion_0 (wpX11_torsion k) k t li lj Q := hR
      show wbX11_torsion_0 (wpX11_torsion k) k t li lj (fun r t => Q r t ∧ G t)
      unfold wbX11_torsion_0 at hR ⊢
      exact wcX11_isDim hR (fun y1_0 h1 => ⟨fun c2 => ih.2.1 _ _ _ g (h1.1 c2), fun c3 => ⟨fun c4 => ih.2.1 _ _ _ g ((h1.2 c3).1 c4), fun c5 => ⟨fun c6 => ih.2.1 _ _ _ g (((h1.2 c3).2 c5).1 c6), fun c7 => ⟨fun c8 => vyX11_basis hk g ((((h1.2 c3).2 c5).2 c7).1 c8) (fun y9_0 y9_1 h9 g9 => ⟨fun c10 => ih.2.2 _ _ _ g9 (h9.1 c10), fun c11 => ih.2.2 _ _ _ g9 (h9.2 c11)⟩), fun c12 => ih.2.1 _ _ _ g ((((h1.2 c3).2 c5).2 c7).2 c12)⟩⟩⟩⟩)
    · intro t li lj g hR
      have hR : wbX11_torsion_1 (wpX11_torsion k) k t li lj Q := hR
      show wbX11_torsion_1 (wpX11_torsion k) k t li lj (fun r t => Q r t ∧ G t)
      unfold wbX11_torsion_1 at hR ⊢
      exact ⟨hR, g⟩
    · intro t li lj g hR
      have hR : wbX11_torsion_2 (wpX11_torsion k) k t li lj Q := hR
      show wbX11_torsion_2 (wpX11_torsion k) k t li lj (fun r t => Q r t ∧ G t)
      unfold wbX11_torsion_2 at hR ⊢
      exact vyX0_torsionsOf hk g hR (fun y1_0 y1_1 h1 g1 => ⟨fun c2 => ⟨fun c3 => ⟨((h1.1 c2).1 c3), g1⟩, fun c4 => ⟨((h1.1 c2).2 c4).1, fun x5 e5 => ⟨(((h1.1 c2).2 c4).2 x5 e5), g1⟩⟩⟩, fun c6 => fun x7 e7 => ⟨((h1.2 c6) x7 e7), g1⟩⟩)
theorem wzX11_torsion {G : XT → Prop} {k : Nat} {t : XT} {a1 : Int32} {a2 : Int32} {a3 : Int32} {Q : Int64 → XT → Prop} (hk : kp0 G) (g : G t) (hR : wqX11_torsion k t a1 a2 a3 Q) : wqX11_torsion k t a1 a2 a3 (fun r t => Q r t ∧ G t) := (wyX11_torsion hk Q k).1 t _ _ g hR
theorem vyX11_torsion {G : XT → Prop} {k : Nat} {t : XT} {a1 : Int32} {a2 : Int32} {a3 : Int32} {Q Q' : Int64 → XT → Prop} (hk : kp0 G) (g : G t) (hR : wqX11_torsion k t a1 a2 a3 Q) (hQ : (∀ r t, Q r t → G t → Q' r t)) : wqX11_torsion k t a1 a2 a3 Q' := wmX11_torsion (Nat.le_refl k) (fun r t h => hQ r t h.1 h.2) (wzX11_torsion hk g hR)
set_option maxHeartbeats 4000000 in
set_option maxRecDepth 100000 in
theorem wyX11_slack {G : XT → Prop} (hk : kp0 G) (Q : Int32 → XT → Prop) : ∀ k : Nat, (∀ (t : XT) (li : Nat → Int32) (lj : Nat → Int64), G t → wpX11_slack k 0 t li lj Q → wpX11_slack k 0 t li lj (fun r t => Q r t ∧ G t)) ∧ (∀ (t : XT) (li : Nat → Int32) (lj : Nat → Int64), G t → wpX11_slack k 1 t li lj Q → wpX11_slack k 1 t li lj (fun r t => Q r t ∧ G t)) := by
  intro k
  induction k with
  | zero => exact ⟨fun _ _ _ _ hR => False.elim hR, fun _ _ _ _ hR => False.elim hR⟩
  | succ k ih =>
    refine ⟨?_, ?_⟩
    · intro t li lj g hR
      have hR : wbX11_slack_0 (wpX11_slack k) k t li lj Q := hR
      show wbX11_slack_0 (wpX11_slack k) k t li lj (fun r t => Q r t ∧ G t)
      unfold wbX11_slack_0 at hR ⊢
      exact wcX11_isDim hR (fun y1_0 h1 => ⟨fun c2 => ih.2 _ _ _ g (h1.1 c2), fun c3 => ⟨(h1.2 c3), g⟩⟩)
    · intro t li lj g hR
      have hR : wbX11_slack_1 (wpX11_slack k) k t li lj Q := hR
      show wbX11_slack_1 (wpX11_slack k) k t li lj (fun r t => Q r t ∧ G t)
      unfold wbX11_slack_1 at hR ⊢
      exact ⟨fun c1 => ⟨(hR.1 c1), g⟩, fun c2 => vyX6_unpaired hk g (hR.2 c2) (fun y3_0 y3_1 h3 g3 => ⟨h3.1, fun x4 e4 => fun x5 e5 => wcJ13_bitCount_95d88 ((h3.2 x4 e4) x5 e5) (fun y6_0 h6 => vyX0_bettiOf hk g3 h6 (fun y7_0 y7_1 h7 g7 => fun x8 e8 => fun x9 e9 => fun x10 e10 => ih.2 _ _ _ g7 (((h7 x8 e8) x9 e9) x10 e10)))⟩)⟩
theorem wzX11_slack {G : XT → Prop} {k : Nat} {t : XT} {a1 : Int32} {Q : Int32 → XT → Prop} (hk : kp0 G) (g : G t) (hR : wqX11_slack k t a1 Q) : wqX11_slack k t a1 (fun r t => Q r t ∧ G t) := (wyX11_slack hk Q k).1 t _ _ g hR
theorem vyX11_slack {G : XT → Prop} {k : Nat} {t : XT} {a1 : Int32} {Q Q' : Int32 → XT → Prop} (hk : kp0 G) (g : G t) (hR : wqX11_slack k t a1 Q) (hQ : (∀ r t, Q r t → G t → Q' r t)) : wqX11_slack k t a1 Q' := wmX11_slack (Nat.le_refl k) (fun r t h => hQ r t h.1 h.2) (wzX11_slack hk g hR)
set_option maxHeartbeats 4000000 in
set_option maxRecDepth 100000 in
theorem wyX11_free {G : XT → Prop} (hk : kp0 G) (Q : Int32 → XT → Prop) : ∀ k : Nat, (∀ (t : XT) (li : Nat → Int32) (lj : Nat → Int64), G t → wpX11_free k 0 t li lj Q → wpX11_free k 0 t li lj (fun r t => Q r t ∧ G t)) ∧ (∀ (t : XT) (li : Nat → Int32) (lj : Nat → Int64), G t → wpX11_free k 1 t li lj Q → wpX11_free k 1 t li lj (fun r t => Q r t ∧ G t)) ∧ (∀ (t : XT) (li : Nat → Int32) (lj : Nat → Int64), G t → wpX11_free k 2 t li lj Q → wpX11_free k 2 t li lj (fun r t => Q r t ∧ G t)) := by
  intro k
  induction k with
  | zero => exact ⟨fun _ _ _ _ hR => False.elim hR, fun _ _ _ _ hR => False.elim hR, fun _ _ _ _ hR => False.elim hR⟩
  | succ k ih =>
    refine ⟨?_, ?_, ?_⟩
    · intro t li lj g hR
      have hR : wbX11_free_0 (wpX11_free k) k t li lj Q := hR
      show wbX11_free_0 (wpX11_free k) k t li lj (fun r t => Q r t ∧ G t)
      unfold wbX11_free_0 at hR ⊢
      exact ⟨fun c1 => ih.2.1 _ _ _ g (hR.1 c1), fun c2 => ⟨(hR.2 c2), g⟩⟩
    · intro t li lj g hR
      have hR : wbX11_free_1 (wpX11_free k) k t li lj Q := hR
      show wbX11_free_1 (wpX11_free k) k t li lj (fun r t => Q r t ∧ G t)
      unfold wbX11_free_1 at hR ⊢
      exact ⟨fun c1 => wcX11_listed (hR.1 c1) (fun y2_0 h2 => ⟨h2, g⟩), fun c3 => vyX11_isThere hk g (hR.2 c3) (fun y4_0 y4_1 h4 g4 => ⟨fun c5 => ih.2.2 _ _ _ g4 (h4.1 c5), fun c6 => vyX11_isFree hk g4 (h4.2 c6) (fun y7_0 y7_1 h7 g7 => ⟨fun c8 => ih.2.2 _ _ _ g7 (h7.1 c8), fun c9 => wcX11_bit (h7.2 c9) (fun y10_0 h10 => fun x11 e11 => ih.2.2 _ _ _ g7 (h10 x11 e11))⟩)⟩)⟩
    · intro t li lj g hR
      have hR : wbX11_free_2 (wpX11_free k) k t li lj Q := hR
      show wbX11_free_2 (wpX11_free k) k t li lj (fun r t => Q r t ∧ G t)
      unfold wbX11_free_2 at hR ⊢
      exact fun x1 e1 => ih.2.1 _ _ _ g (hR x1 e1)
theorem wzX11_free {G : XT → Prop} {k : Nat} {t : XT} {a1 : Int32} {Q : Int32 → XT → Prop} (hk : kp0 G) (g : G t) (hR : wqX11_free k t a1 Q) : wqX11_free k t a1 (fun r t => Q r t ∧ G t) := (wyX11_free hk Q k).1 t _ _ g hR
theorem vyX11_free {G : XT → Prop} {k : Nat} {t : XT} {a1 : Int32} {Q Q' : Int32 → XT → Prop} (hk : kp0 G) (g : G t) (hR : wqX11_free k t a1 Q) (hQ : (∀ r t, Q r t → G t → Q' r t)) : wqX11_free k t a1 Q' := wmX11_free (Nat.le_refl k) (fun r t h => hQ r t h.1 h.2) (wzX11_free hk g hR)
set_option maxHeartbeats 4000000 in
set_option maxRecDepth 100000 in
theorem wyX11_facet {G : XT → Prop} (hk : kp0 G) (Q : Int32 → XT → Prop) : ∀ k : Nat, (∀ (t : XT) (li : Nat → Int32) (lj : Nat → Int64), G t → wpX11_facet k 0 t li lj Q → wpX11_facet k 0 t li lj (fun r t => Q r t ∧ G t)) ∧ (∀ (t : XT) (li : Nat → Int32) (lj : Nat → Int64), G t → wpX11_facet k 1 t li lj Q → wpX11_facet k 1 t li lj (fun r t => Q r t ∧ G t)) ∧ (∀ (t : XT) (li : Nat → Int32) (lj : Nat → Int64), G t → wpX11_facet k 2 t li lj Q → wpX11_facet k 2 t li lj (fun r t => Q r t ∧ G t)) := by
  intro k
  induction k with
  | zero => exact ⟨fun _ _ _ _ hR => False.elim hR, fun _ _ _ _ hR => False.elim hR, fun _ _ _ _ hR => False.elim hR⟩
  | succ k ih =>
    refine ⟨?_, ?_, ?_⟩
    · intro t li lj g hR
      have hR : wbX11_facet_0 (wpX11_facet k) k t li lj Q := hR
      show wbX11_facet_0 (wpX11_facet k) k t li lj (fun r t => Q r t ∧ G t)
      unfold wbX11_facet_0 at hR ⊢
      exact ⟨fun c1 => ih.2.1 _ _ _ g (hR.1 c1), fun c2 => ⟨(hR.2 c2), g⟩⟩
    · intro t li lj g hR
      have hR : wbX11_facet_1 (wpX11_facet k) k t li lj Q := hR
      show wbX11_facet_1 (wpX11_facet k) k t li lj (fun r t => Q r t ∧ G t)
      unfold wbX11_facet_1 at hR ⊢
      exact ⟨fun c1 => wcX11_listed (hR.1 c1) (fun y2_0 h2 => ⟨h2, g⟩), fun c3 => vyX11_isThere hk g (hR.2 c3) (fun y4_0 y4_1 h4 g4 => ⟨fun c5 => ih.2.2 _ _ _ g4 (h4.1 c5), fun c6 => ⟨(h4.2 c6).1, fun x7 e7 => fun x8 e8 => fun x9 e9 => ⟨fun c10 => ih.2.2 _ _ _ g4 (((((h4.2 c6).2 x7 e7) x8 e8) x9 e9).1 c10), fun c11 => wcX11_bit (((((h4.2 c6).2 x7 e7) x8 e8) x9 e9).2 c11) (fun y12_0 h12 => fun x13 e13 => ih.2.2 _ _ _ g4 (h12 x13 e13))⟩⟩⟩)⟩
    · intro t li lj g hR
      have hR : wbX11_facet_2 (wpX11_facet k) k t li lj Q := hR
      show wbX11_facet_2 (wpX11_facet k) k t li lj (fun r t => Q r t ∧ G t)
      unfold wbX11_facet_2 at hR ⊢
      exact fun x1 e1 => ih.2.1 _ _ _ g (hR x1 e1)
theorem wzX11_facet {G : XT → Prop} {k : Nat} {t : XT} {a1 : Int32} {Q : Int32 → XT → Prop} (hk : kp0 G) (g : G t) (hR : wqX11_facet k t a1 Q) : wqX11_facet k t a1 (fun r t => Q r t ∧ G t) := (wyX11_facet hk Q k).1 t _ _ g hR
theorem vyX11_facet {G : XT → Prop} {k : Nat} {t : XT} {a1 : Int32} {Q Q' : Int32 → XT → Prop} (hk : kp0 G) (g : G t) (hR : wqX11_facet k t a1 Q) (hQ : (∀ r t, Q r t → G t → Q' r t)) : wqX11_facet k t a1 Q' := wmX11_facet (Nat.le_refl k) (fun r t h => hQ r t h.1 h.2) (wzX11_facet hk g hR)
set_option maxHeartbeats 4000000 in
set_option maxRecDepth 100000 in
theorem wyX11_linkOf {G : XT → Prop} (hk : kp0 G) (Q : Int64 → XT → Prop) : ∀ k : Nat, (∀ (t : XT) (li : Nat → Int32) (lj : Nat → Int64), G t → wpX11_linkOf k 0 t li lj Q → wpX11_linkOf k 0 t li lj (fun r t => Q r t ∧ G t)) ∧ (∀ (t : XT) (li : Nat → Int32) (lj : Nat → Int64), G t → wpX11_linkOf k 1 t li lj Q → wpX11_linkOf k 1 t li lj (fun r t => Q r t ∧ G t)) ∧ (∀ (t : XT) (li : Nat → Int32) (lj : Nat → Int64), G t → wpX11_linkOf k 2 t li lj Q → wpX11_linkOf k 2 t li lj (fun r t => Q r t ∧ G t)) ∧ (∀ (t : XT) (li : Nat → Int32) (lj : Nat → Int64), G t → wpX11_linkOf k 3 t li lj Q → wpX11_linkOf k 3 t li lj (fun r t => Q r t ∧ G t)) := by
  intro k
  induction k with
  | zero => exact ⟨fun _ _ _ _ hR => False.elim hR, fun _ _ _ _ hR => False.elim hR, fun _ _ _ _ hR => False.elim hR, fun _ _ _ _ hR => False.elim hR⟩
  | succ k ih =>
    refine ⟨?_, ?_, ?_, ?_⟩
    · intro t li lj g hR
      have hR : wbX11_linkOf_0 (wpX11_linkOf k) k t li lj Q := hR
      show wbX11_linkOf_0 (wpX11_linkOf k) k t li lj (fun r t => Q r t ∧ G t)
      unfold wbX11_linkOf_0 at hR ⊢
      exact ih.2.1 _ _ _ g hR
    · intro t li lj g hR
      have hR : wbX11_linkOf_1 (wpX11_linkOf k) k t li lj Q := hR
      show wbX11_linkOf_1 (wpX11_linkOf k) k t li lj (fun r t => Q r t ∧ G t)
      unfold wbX11_linkOf_1 at hR ⊢
      exact ⟨fun c1 => ⟨(hR.1 c1), g⟩, fun c2 => ⟨(hR.2 c2).1, fun x3 e3 => ⟨((hR.2 c2).2 x3 e3).1, fun x4 e4 => fun x5 e5 => ⟨((((hR.2 c2).2 x3 e3).2 x4 e4) x5 e5).1, fun x6 e6 => ⟨(((((hR.2 c2).2 x3 e3).2 x4 e4) x5 e5).2 x6 e6).1, fun x7 e7 => fun x8 e8 => ⟨fun c9 => ih.2.2.1 _ _ _ g ((((((((hR.2 c2).2 x3 e3).2 x4 e4) x5 e5).2 x6 e6).2 x7 e7) x8 e8).1 c9), fun c10 => ih.2.2.1 _ _ _ g ((((((((hR.2 c2).2 x3 e3).2 x4 e4) x5 e5).2 x6 e6).2 x7 e7) x8 e8).2 c10)⟩⟩⟩⟩⟩⟩
    · intro t li lj g hR
      have hR : wbX11_linkOf_2 (wpX11_linkOf k) k t li lj Q := hR
      show wbX11_linkOf_2 (wpX11_linkOf k) k t li lj (fun r t => Q r t ∧ G t)
      unfold wbX11_linkOf_2 at hR ⊢
      exact vyX11_number hk g hR (fun y1_0 y1_1 h1 g1 => ⟨fun c2 => ih.2.2.2 _ _ _ g1 (h1.1 c2), fun c3 => vyX11_isThere hk g1 (h1.2 c3) (fun y4_0 y4_1 h4 g4 => ⟨fun c5 => ih.2.2.2 _ _ _ g4 (h4.1 c5), fun c6 => vyX11_isThere hk g4 (h4.2 c6) (fun y7_0 y7_1 h7 g7 => ⟨fun c8 => ih.2.2.2 _ _ _ g7 (h7.1 c8), fun c9 => wcX11_bit (h7.2 c9) (fun y10_0 h10 => fun x11 e11 => ih.2.2.2 _ _ _ g7 (h10 x11 e11))⟩)⟩)⟩)
    · intro t li lj g hR
      have hR : wbX11_linkOf_3 (wpX11_linkOf k) k t li lj Q := hR
      show wbX11_linkOf_3 (wpX11_linkOf k) k t li lj (fun r t => Q r t ∧ G t)
      unfold wbX11_linkOf_3 at hR ⊢
      exact fun x1 e1 => ih.2.1 _ _ _ g (hR x1 e1)
theorem wzX11_linkOf {G : XT → Prop} {k : Nat} {t : XT} {a1 : Int32} {Q : Int64 → XT → Prop} (hk : kp0 G) (g : G t) (hR : wqX11_linkOf k t a1 Q) : wqX11_linkOf k t a1 (fun r t => Q r t ∧ G t) := (wyX11_linkOf hk Q k).1 t _ _ g hR
theorem vyX11_linkOf {G : XT → Prop} {k : Nat} {t : XT} {a1 : Int32} {Q Q' : Int64 → XT → Prop} (hk : kp0 G) (g : G t) (hR : wqX11_linkOf k t a1 Q) (hQ : (∀ r t, Q r t → G t → Q' r t)) : wqX11_linkOf k t a1 Q' := wmX11_linkOf (Nat.le_refl k) (fun r t h => hQ r t h.1 h.2) (wzX11_linkOf hk g hR)
set_option maxHeartbeats 4000000 in
set_option maxRecDepth 100000 in
theorem wyX9_eulerOf {G : XT → Prop} (hk : kp0 G) (Q : Int32 → XT → Prop) : ∀ k : Nat, (∀ (t : XT) (li : Nat → Int32) (lj : Nat → Int64), G t → wpX9_eulerOf k 0 t li lj Q → wpX9_eulerOf k 0 t li lj (fun r t => Q r t ∧ G t)) ∧ (∀ (t : XT) (li : Nat → Int32) (lj : Nat → Int64), G t → wpX9_eulerOf k 1 t li lj Q → wpX9_eulerOf k 1 t li lj (fun r t => Q r t ∧ G t)) ∧ (∀ (t : XT) (li : Nat → Int32) (lj : Nat → Int64), G t → wpX9_eulerOf k 2 t li lj Q → wpX9_eulerOf k 2 t li lj (fun r t => Q r t ∧ G t)) := by
  intro k
  induction k with
  | zero => exact ⟨fun _ _ _ _ hR => False.elim hR, fun _ _ _ _ hR => False.elim hR, fun _ _ _ _ hR => False.elim hR⟩
  | succ k ih =>
    refine ⟨?_, ?_, ?_⟩
    · intro t li lj g hR
      have hR : wbX9_eulerOf_0 (wpX9_eulerOf k) k t li lj Q := hR
      show wbX9_eulerOf_0 (wpX9_eulerOf k) k t li lj (fun r t => Q r t ∧ G t)
      unfold wbX9_eulerOf_0 at hR ⊢
      exact ih.2.1 _ _ _ g hR
    · intro t li lj g hR
      have hR : wbX9_eulerOf_1 (wpX9_eulerOf k) k t li lj Q := hR
      show wbX9_eulerOf_1 (wpX9_eulerOf k) k t li lj (fun r t => Q r t ∧ G t)
      unfold wbX9_eulerOf_1 at hR ⊢
      exact ⟨fun c1 => ⟨(hR.1 c1), g⟩, fun c2 => ⟨(hR.2 c2).1, fun x3 e3 => fun x4 e4 => wcJ13_bitCount_95d88 (((hR.2 c2).2 x3 e3) x4 e4) (fun y5_0 h5 => fun x6 e6 => ⟨fun c7 => fun x8 e8 => ih.2.2 _ _ _ g (((h5 x6 e6).1 c7) x8 e8), fun c9 => ih.2.2 _ _ _ g ((h5 x6 e6).2 c9)⟩)⟩⟩
    · intro t li lj g hR
      have hR : wbX9_eulerOf_2 (wpX9_eulerOf k) k t li lj Q := hR
      show wbX9_eulerOf_2 (wpX9_eulerOf k) k t li lj (fun r t => Q r t ∧ G t)
      unfold wbX9_eulerOf_2 at hR ⊢
      exact fun x1 e1 => fun x2 e2 => ih.2.1 _ _ _ g ((hR x1 e1) x2 e2)
theorem wzX9_eulerOf {G : XT → Prop} {k : Nat} {t : XT} {a1 : Int64} {Q : Int32 → XT → Prop} (hk : kp0 G) (g : G t) (hR : wqX9_eulerOf k t a1 Q) : wqX9_eulerOf k t a1 (fun r t => Q r t ∧ G t) := (wyX9_eulerOf hk Q k).1 t _ _ g hR
theorem vyX9_eulerOf {G : XT → Prop} {k : Nat} {t : XT} {a1 : Int64} {Q Q' : Int32 → XT → Prop} (hk : kp0 G) (g : G t) (hR : wqX9_eulerOf k t a1 Q) (hQ : (∀ r t, Q r t → G t → Q' r t)) : wqX9_eulerOf k t a1 Q' := wmX9_eulerOf (Nat.le_refl k) (fun r t h => hQ r t h.1 h.2) (wzX9_eulerOf hk g hR)
set_option maxHeartbeats 4000000 in
set_option maxRecDepth 100000 in
theorem wyX11_link {G : XT → Prop} (hk : kp0 G) (Q : Int32 → XT → Prop) : ∀ k : Nat, (∀ (t : XT) (li : Nat → Int32) (lj : Nat → Int64), G t → wpX11_link k 0 t li lj Q → wpX11_link k 0 t li lj (fun r t => Q r t ∧ G t)) ∧ (∀ (t : XT) (li : Nat → Int32) (lj : Nat → Int64), G t → wpX11_link k 1 t li lj Q → wpX11_link k 1 t li lj (fun r t => Q r t ∧ G t)) := by
  intro k
  induction k with
  | zero => exact ⟨fun _ _ _ _ hR => False.elim hR, fun _ _ _ _ hR => False.elim hR⟩
  | succ k ih =>
    refine ⟨?_, ?_⟩
    · intro t li lj g hR
      have hR : wbX11_link_0 (wpX11_link k) k t li lj Q := hR
      show wbX11_link_0 (wpX11_link k) k t li lj (fun r t => Q r t ∧ G t)
      unfold wbX11_link_0 at hR ⊢
      exact vyX11_isThere hk g hR (fun y1_0 y1_1 h1 g1 => ⟨fun c2 => ih.2 _ _ _ g1 (h1.1 c2), fun c3 => ⟨fun c4 => ih.2 _ _ _ g1 ((h1.2 c3).1 c4), fun c5 => ⟨fun c6 => vyX11_linkOf hk g1 (((h1.2 c3).2 c5).1 c6) (fun y7_0 y7_1 h7 g7 => ⟨fun c8 => vyX9_eulerOf hk g7 (h7.1 c8) (fun y9_0 y9_1 h9 g9 => ⟨h9, g9⟩), fun c10 => wcJ13_bitCount_95d88 (h7.2 c10) (fun y11_0 h11 => ⟨h11, g7⟩)⟩), fun c12 => ih.2 _ _ _ g1 (((h1.2 c3).2 c5).2 c12)⟩⟩⟩)
    · intro t li lj g hR
      have hR : wbX11_link_1 (wpX11_link k) k t li lj Q := hR
      show wbX11_link_1 (wpX11_link k) k t li lj (fun r t => Q r t ∧ G t)
      unfold wbX11_link_1 at hR ⊢
      exact ⟨hR, g⟩
theorem wzX11_link {G : XT → Prop} {k : Nat} {t : XT} {a1 : Int32} {a2 : Int32} {Q : Int32 → XT → Prop} (hk : kp0 G) (g : G t) (hR : wqX11_link k t a1 a2 Q) : wqX11_link k t a1 a2 (fun r t => Q r t ∧ G t) := (wyX11_link hk Q k).1 t _ _ g hR
theorem vyX11_link {G : XT → Prop} {k : Nat} {t : XT} {a1 : Int32} {a2 : Int32} {Q Q' : Int32 → XT → Prop} (hk : kp0 G) (g : G t) (hR : wqX11_link k t a1 a2 Q) (hQ : (∀ r t, Q r t → G t → Q' r t)) : wqX11_link k t a1 a2 Q' := wmX11_link (Nat.le_refl k) (fun r t h => hQ r t h.1 h.2) (wzX11_link hk g hR)
set_option maxHeartbeats 4000000 in
set_option maxRecDepth 100000 in
theorem wyX11_roomAbove {G : XT → Prop} (hk : kp0 G) (Q : Int32 → XT → Prop) : ∀ k : Nat, (∀ (t : XT) (li : Nat → Int32) (lj : Nat → Int64), G t → wpX11_roomAbove k 0 t li lj Q → wpX11_roomAbove k 0 t li lj (fun r t => Q r t ∧ G t)) ∧ (∀ (t : XT) (li : Nat → Int32) (lj : Nat → Int64), G t → wpX11_roomAbove k 1 t li lj Q → wpX11_roomAbove k 1 t li lj (fun r t => Q r t ∧ G t)) ∧ (∀ (t : XT) (li : Nat → Int32) (lj : Nat → Int64), G t → wpX11_roomAbove k 2 t li lj Q → wpX11_roomAbove k 2 t li lj (fun r t => Q r t ∧ G t)) := by
  intro k
  induction k with
  | zero => exact ⟨fun _ _ _ _ hR => False.elim hR, fun _ _ _ _ hR => False.elim hR, fun _ _ _ _ hR => False.elim hR⟩
  | succ k ih =>
    refine ⟨?_, ?_, ?_⟩
    · intro t li lj g hR
      have hR : wbX11_roomAbove_0 (wpX11_roomAbove k) k t li lj Q := hR
      show wbX11_roomAbove_0 (wpX11_roomAbove k) k t li lj (fun r t => Q r t ∧ G t)
      unfold wbX11_roomAbove_0 at hR ⊢
      exact fun x1 e1 => ih.2.1 _ _ _ g (hR x1 e1)
    · intro t li lj g hR
      have hR : wbX11_roomAbove_1 (wpX11_roomAbove k) k t li lj Q := hR
      show wbX11_roomAbove_1 (wpX11_roomAbove k) k t li lj (fun r t => Q r t ∧ G t)
      unfold wbX11_roomAbove_1 at hR ⊢
      exact ⟨fun c1 => ⟨(hR.1 c1), g⟩, fun c2 => wcX11_isIn (hR.2 c2) (fun y3_0 h3 => ⟨fun c4 => ih.2.2 _ _ _ g (h3.1 c4), fun c5 => vyX6_staysAcyclic hk g (h3.2 c5) (fun y6_0 y6_1 h6 g6 => ⟨fun c7 => ih.2.2 _ _ _ g6 (h6.1 c7), fun c8 => fun x9 e9 => ih.2.2 _ _ _ g6 ((h6.2 c8) x9 e9)⟩)⟩)⟩
    · intro t li lj g hR
      have hR : wbX11_roomAbove_2 (wpX11_roomAbove k) k t li lj Q := hR
      show wbX11_roomAbove_2 (wpX11_roomAbove k) k t li lj (fun r t => Q r t ∧ G t)
      unfold wbX11_roomAbove_2 at hR ⊢
      exact fun x1 e1 => ih.2.1 _ _ _ g (hR x1 e1)
theorem wzX11_roomAbove {G : XT → Prop} {k : Nat} {t : XT} {a1 : Int32} {a2 : Int64} {Q : Int32 → XT → Prop} (hk : kp0 G) (g : G t) (hR : wqX11_roomAbove k t a1 a2 Q) : wqX11_roomAbove k t a1 a2 (fun r t => Q r t ∧ G t) := (wyX11_roomAbove hk Q k).1 t _ _ g hR
theorem vyX11_roomAbove {G : XT → Prop} {k : Nat} {t : XT} {a1 : Int32} {a2 : Int64} {Q Q' : Int32 → XT → Prop} (hk : kp0 G) (g : G t) (hR : wqX11_roomAbove k t a1 a2 Q) (hQ : (∀ r t, Q r t → G t → Q' r t)) : wqX11_roomAbove k t a1 a2 Q' := wmX11_roomAbove (Nat.le_refl k) (fun r t h => hQ r t h.1 h.2) (wzX11_roomAbove hk g hR)
set_option maxHeartbeats 4000000 in
set_option maxRecDepth 100000 in
theorem wyX11_room {G : XT → Prop} (hk : kp0 G) (Q : Int32 → XT → Prop) : ∀ k : Nat, (∀ (t : XT) (li : Nat → Int32) (lj : Nat → Int64), G t → wpX11_room k 0 t li lj Q → wpX11_room k 0 t li lj (fun r t => Q r t ∧ G t)) ∧ (∀ (t : XT) (li : Nat → Int32) (lj : Nat → Int64), G t → wpX11_room k 1 t li lj Q → wpX11_room k 1 t li lj (fun r t => Q r t ∧ G t)) ∧ (∀ (t : XT) (li : Nat → Int32) (lj : Nat → Int64), G t → wpX11_room k 2 t li lj Q → wpX11_room k 2 t li lj (fun r t => Q r t ∧ G t)) := by
  intro k
  induction k with
  | zero => exact ⟨fun _ _ _ _ hR => False.elim hR, fun _ _ _ _ hR => False.elim hR, fun _ _ _ _ hR => False.elim hR⟩
  | succ k ih =>
    refine ⟨?_, ?_, ?_⟩
    · intro t li lj g hR
      have hR : wbX11_room_0 (wpX11_room k) k t li lj Q := hR
      show wbX11_room_0 (wpX11_room k) k t li lj (fun r t => Q r t ∧ G t)
      unfold wbX11_room_0 at hR ⊢
      exact wcX11_isDim hR (fun y1_0 h1 => ⟨fun c2 => vyX6_unpaired hk g (h1.1 c2) (fun y3_0 y3_1 h3 g3 => ih.2.1 _ _ _ g3 h3), fun c4 => ⟨(h1.2 c4), g⟩⟩)
    · intro t li lj g hR
      have hR : wbX11_room_1 (wpX11_room k) k t li lj Q := hR
      show wbX11_room_1 (wpX11_room k) k t li lj (fun r t => Q r t ∧ G t)
      unfold wbX11_room_1 at hR ⊢
      exact ⟨fun c1 => ⟨(hR.1 c1), g⟩, fun c2 => wcX11_isIn (hR.2 c2) (fun y3_0 h3 => ⟨fun c4 => ih.2.2 _ _ _ g (h3.1 c4), fun c5 => ⟨(h3.2 c5).1, fun x6 e6 => ⟨fun c7 => ih.2.2 _ _ _ g (((h3.2 c5).2 x6 e6).1 c7), fun c8 => ⟨(((h3.2 c5).2 x6 e6).2 c8).1, fun x9 e9 => fun x10 e10 => vyX11_roomAbove hk g (((((h3.2 c5).2 x6 e6).2 c8).2 x9 e9) x10 e10) (fun y11_0 y11_1 h11 g11 => fun x12 e12 => ih.2.2 _ _ _ g11 (h11 x12 e12))⟩⟩⟩⟩)⟩
    · intro t li lj g hR
      have hR : wbX11_room_2 (wpX11_room k) k t li lj Q := hR
      show wbX11_room_2 (wpX11_room k) k t li lj (fun r t => Q r t ∧ G t)
      unfold wbX11_room_2 at hR ⊢
      exact fun x1 e1 => ih.2.1 _ _ _ g (hR x1 e1)
theorem wzX11_room {G : XT → Prop} {k : Nat} {t : XT} {a1 : Int32} {Q : Int32 → XT → Prop} (hk : kp0 G) (g : G t) (hR : wqX11_room k t a1 Q) : wqX11_room k t a1 (fun r t => Q r t ∧ G t) := (wyX11_room hk Q k).1 t _ _ g hR
theorem vyX11_room {G : XT → Prop} {k : Nat} {t : XT} {a1 : Int32} {Q Q' : Int32 → XT → Prop} (hk : kp0 G) (g : G t) (hR : wqX11_room k t a1 Q) (hQ : (∀ r t, Q r t → G t → Q' r t)) : wqX11_room k t a1 Q' := wmX11_room (Nat.le_refl k) (fun r t h => hQ r t h.1 h.2) (wzX11_room hk g hR)
set_option maxHeartbeats 4000000 in
set_option maxRecDepth 100000 in
theorem wyX9_greatestDim {G : XT → Prop} (hk : kp0 G) (Q : Int32 → XT → Prop) : ∀ k : Nat, (∀ (t : XT) (li : Nat → Int32) (lj : Nat → Int64), G t → wpX9_greatestDim k 0 t li lj Q → wpX9_greatestDim k 0 t li lj (fun r t => Q r t ∧ G t)) ∧ (∀ (t : XT) (li : Nat → Int32) (lj : Nat → Int64), G t → wpX9_greatestDim k 1 t li lj Q → wpX9_greatestDim k 1 t li lj (fun r t => Q r t ∧ G t)) ∧ (∀ (t : XT) (li : Nat → Int32) (lj : Nat → Int64), G t → wpX9_greatestDim k 2 t li lj Q → wpX9_greatestDim k 2 t li lj (fun r t => Q r t ∧ G t)) := by
  intro k
  induction k with
  | zero => exact ⟨fun _ _ _ _ hR => False.elim hR, fun _ _ _ _ hR => False.elim hR, fun _ _ _ _ hR => False.elim hR⟩
  | succ k ih =>
    refine ⟨?_, ?_, ?_⟩
    · intro t li lj g hR
      have hR : wbX9_greatestDim_0 (wpX9_greatestDim k) k t li lj Q := hR
      show wbX9_greatestDim_0 (wpX9_greatestDim k) k t li lj (fun r t => Q r t ∧ G t)
      unfold wbX9_greatestDim_0 at hR ⊢
      exact ih.2.1 _ _ _ g hR
    · intro t li lj g hR
      have hR : wbX9_greatestDim_1 (wpX9_greatestDim k) k t li lj Q := hR
      show wbX9_greatestDim_1 (wpX9_greatestDim k) k t li lj (fun r t => Q r t ∧ G t)
      unfold wbX9_greatestDim_1 at hR ⊢
      exact ⟨fun c1 => ⟨(hR.1 c1), g⟩, fun c2 => ⟨(hR.2 c2).1, fun x3 e3 => fun x4 e4 => fun x5 e5 => ⟨fun c6 => ih.2.2 _ _ _ g (((((hR.2 c2).2 x3 e3) x4 e4) x5 e5).1 c6), fun c7 => ih.2.2 _ _ _ g (((((hR.2 c2).2 x3 e3) x4 e4) x5 e5).2 c7)⟩⟩⟩
    · intro t li lj g hR
      have hR : wbX9_greatestDim_2 (wpX9_greatestDim k) k t li lj Q := hR
      show wbX9_greatestDim_2 (wpX9_greatestDim k) k t li lj (fun r t => Q r t ∧ G t)
      unfold wbX9_greatestDim_2 at hR ⊢
      exact fun x1 e1 => ih.2.1 _ _ _ g (hR x1 e1)
theorem wzX9_greatestDim {G : XT → Prop} {k : Nat} {t : XT} {a1 : Int64} {Q : Int32 → XT → Prop} (hk : kp0 G) (g : G t) (hR : wqX9_greatestDim k t a1 Q) : wqX9_greatestDim k t a1 (fun r t => Q r t ∧ G t) := (wyX9_greatestDim hk Q k).1 t _ _ g hR
theorem vyX9_greatestDim {G : XT → Prop} {k : Nat} {t : XT} {a1 : Int64} {Q Q' : Int32 → XT → Prop} (hk : kp0 G) (g : G t) (hR : wqX9_greatestDim k t a1 Q) (hQ : (∀ r t, Q r t → G t → Q' r t)) : wqX9_greatestDim k t a1 Q' := wmX9_greatestDim (Nat.le_refl k) (fun r t h => hQ r t h.1 h.2) (wzX9_greatestDim hk g hR)
set_option maxHeartbeats 4000000 in
set_option maxRecDepth 100000 in
theorem wyX7_greatest {G : XT → Prop} (hk : kp0 G) (Q : Int64 → XT → Prop) : ∀ k : Nat, (∀ (t : XT) (li : Nat → Int32) (lj : Nat → Int64), G t → wpX7_greatest k 0 t li lj Q → wpX7_greatest k 0 t li lj (fun r t => Q r t ∧ G t)) := by
  intro k
  induction k with
  | zero => exact fun _ _ _ _ hR => False.elim hR
  | succ k ih =>
    intro t li lj g hR
    have hR : wbX7_greatest_0 (wpX7_greatest k) k t li lj Q := hR
    show wbX7_greatest_0 (wpX7_greatest k) k t li lj (fun r t => Q r t ∧ G t)
    unfold wbX7_greatest_0 at hR ⊢
    exact vyX9_greatestDim hk g hR (fun y1_0 y1_1 h1 g1 => wcX11_isDim h1 (fun y2_0 h2 => ⟨fun c3 => ⟨(h2.1 c3), g1⟩, fun c4 => ⟨(h2.2 c4).1, fun x5 e5 => fun x6 e6 => ⟨(((h2.2 c4).2 x5 e5) x6 e6), g1⟩⟩⟩))
theorem wzX7_greatest {G : XT → Prop} {k : Nat} {t : XT}  {Q : Int64 → XT → Prop} (hk : kp0 G) (g : G t) (hR : wqX7_greatest k t  Q) : wqX7_greatest k t  (fun r t => Q r t ∧ G t) := (wyX7_greatest hk Q k) t _ _ g hR
theorem vyX7_greatest {G : XT → Prop} {k : Nat} {t : XT}  {Q Q' : Int64 → XT → Prop} (hk : kp0 G) (g : G t) (hR : wqX7_greatest k t  Q) (hQ : (∀ r t, Q r t → G t → Q' r t)) : wqX7_greatest k t  Q' := wmX7_greatest (Nat.le_refl k) (fun r t h => hQ r t h.1 h.2) (wzX7_greatest hk g hR)
set_option maxHeartbeats 4000000 in
set_option maxRecDepth 100000 in
theorem wyX2_upTo {G : XT → Prop} (hk : kp0 G) (Q : Int64 → XT → Prop) : ∀ k : Nat, (∀ (t : XT) (li : Nat → Int32) (lj : Nat → Int64), G t → wpX2_upTo k 0 t li lj Q → wpX2_upTo k 0 t li lj (fun r t => Q r t ∧ G t)) ∧ (∀ (t : XT) (li : Nat → Int32) (lj : Nat → Int64), G t → wpX2_upTo k 1 t li lj Q → wpX2_upTo k 1 t li lj (fun r t => Q r t ∧ G t)) ∧ (∀ (t : XT) (li : Nat → Int32) (lj : Nat → Int64), G t → wpX2_upTo k 2 t li lj Q → wpX2_upTo k 2 t li lj (fun r t => Q r t ∧ G t)) := by
  intro k
  induction k with
  | zero => exact ⟨fun _ _ _ _ hR => False.elim hR, fun _ _ _ _ hR => False.elim hR, fun _ _ _ _ hR => False.elim hR⟩
  | succ k ih =>
    refine ⟨?_, ?_, ?_⟩
    · intro t li lj g hR
      have hR : wbX2_upTo_0 (wpX2_upTo k) k t li lj Q := hR
      show wbX2_upTo_0 (wpX2_upTo k) k t li lj (fun r t => Q r t ∧ G t)
      unfold wbX2_upTo_0 at hR ⊢
      exact vyX2_measure hk g hR (fun y1_0 h1 g1 => ih.2.1 _ _ _ g1 h1)
    · intro t li lj g hR
      have hR : wbX2_upTo_1 (wpX2_upTo k) k t li lj Q := hR
      show wbX2_upTo_1 (wpX2_upTo k) k t li lj (fun r t => Q r t ∧ G t)
      unfold wbX2_upTo_1 at hR ⊢
      exact ⟨fun c1 => ⟨(hR.1 c1), g⟩, fun c2 => ⟨(hR.2 c2).1, fun x3 e3 => ⟨((hR.2 c2).2 x3 e3).1, fun x4 e4 => ⟨fun c5 => ih.2.2 _ _ _ g ((((hR.2 c2).2 x3 e3).2 x4 e4).1 c5), fun c6 => ⟨((((hR.2 c2).2 x3 e3).2 x4 e4).2 c6).1, fun x7 e7 => wcX11_bit (((((hR.2 c2).2 x3 e3).2 x4 e4).2 c6).2 x7 e7) (fun y8_0 h8 => fun x9 e9 => ih.2.2 _ _ _ g (h8 x9 e9))⟩⟩⟩⟩⟩
    · intro t li lj g hR
      have hR : wbX2_upTo_2 (wpX2_upTo k) k t li lj Q := hR
      show wbX2_upTo_2 (wpX2_upTo k) k t li lj (fun r t => Q r t ∧ G t)
      unfold wbX2_upTo_2 at hR ⊢
      exact fun x1 e1 => ih.2.1 _ _ _ g (hR x1 e1)
theorem wzX2_upTo {G : XT → Prop} {k : Nat} {t : XT} {a1 : Int32} {Q : Int64 → XT → Prop} (hk : kp0 G) (g : G t) (hR : wqX2_upTo k t a1 Q) : wqX2_upTo k t a1 (fun r t => Q r t ∧ G t) := (wyX2_upTo hk Q k).1 t _ _ g hR
theorem vyX2_upTo {G : XT → Prop} {k : Nat} {t : XT} {a1 : Int32} {Q Q' : Int64 → XT → Prop} (hk : kp0 G) (g : G t) (hR : wqX2_upTo k t a1 Q) (hQ : (∀ r t, Q r t → G t → Q' r t)) : wqX2_upTo k t a1 Q' := wmX2_upTo (Nat.le_refl k) (fun r t h => hQ r t h.1 h.2) (wzX2_upTo hk g hR)
set_option maxHeartbeats 4000000 in
set_option maxRecDepth 100000 in
theorem wyX11_level {G : XT → Prop} (hk : kp0 G) (Q : Int32 → XT → Prop) : ∀ k : Nat, (∀ (t : XT) (li : Nat → Int32) (lj : Nat → Int64), G t → wpX11_level k 0 t li lj Q → wpX11_level k 0 t li lj (fun r t => Q r t ∧ G t)) ∧ (∀ (t : XT) (li : Nat → Int32) (lj : Nat → Int64), G t → wpX11_level k 1 t li lj Q → wpX11_level k 1 t li lj (fun r t => Q r t ∧ G t)) := by
  intro k
  induction k with
  | zero => exact ⟨fun _ _ _ _ hR => False.elim hR, fun _ _ _ _ hR => False.elim hR⟩
  | succ k ih =>
    refine ⟨?_, ?_⟩
    · intro t li lj g hR
      have hR : wbX11_level_0 (wpX11_level k) k t li lj Q := hR
      show wbX11_level_0 (wpX11_level k) k t li lj (fun r t => Q r t ∧ G t)
      unfold wbX11_level_0 at hR ⊢
      exact ⟨fun c1 => ih.2 _ _ _ g (hR.1 c1), fun c2 => ⟨fun c3 => ih.2 _ _ _ g ((hR.2 c2).1 c3), fun c4 => ⟨fun c5 => vyX2_upTo hk g (((hR.2 c2).2 c4).1 c5) (fun y6_0 y6_1 h6 g6 => ⟨fun c7 => vyX9_eulerOf hk g6 (h6.1 c7) (fun y8_0 y8_1 h8 g8 => ⟨h8, g8⟩), fun c9 => wcJ13_bitCount_95d88 (h6.2 c9) (fun y10_0 h10 => ⟨h10, g6⟩)⟩), fun c11 => ih.2 _ _ _ g (((hR.2 c2).2 c4).2 c11)⟩⟩⟩
    · intro t li lj g hR
      have hR : wbX11_level_1 (wpX11_level k) k t li lj Q := hR
      show wbX11_level_1 (wpX11_level k) k t li lj (fun r t => Q r t ∧ G t)
      unfold wbX11_level_1 at hR ⊢
      exact ⟨hR, g⟩
theorem wzX11_level {G : XT → Prop} {k : Nat} {t : XT} {a1 : Int32} {a2 : Int32} {Q : Int32 → XT → Prop} (hk : kp0 G) (g : G t) (hR : wqX11_level k t a1 a2 Q) : wqX11_level k t a1 a2 (fun r t => Q r t ∧ G t) := (wyX11_level hk Q k).1 t _ _ g hR
theorem vyX11_level {G : XT → Prop} {k : Nat} {t : XT} {a1 : Int32} {a2 : Int32} {Q Q' : Int32 → XT → Prop} (hk : kp0 G) (g : G t) (hR : wqX11_level k t a1 a2 Q) (hQ : (∀ r t, Q r t → G t → Q' r t)) : wqX11_level k t a1 a2 Q' := wmX11_level (Nat.le_refl k) (fun r t h => hQ r t h.1 h.2) (wzX11_level hk g hR)
set_option maxHeartbeats 4000000 in
set_option maxRecDepth 100000 in
theorem wyX9_withFaces {G : XT → Prop} (hk : kp0 G) (Q : Int64 → XT → Prop) : ∀ k : Nat, (∀ (t : XT) (li : Nat → Int32) (lj : Nat → Int64), G t → wpX9_withFaces k 0 t li lj Q → wpX9_withFaces k 0 t li lj (fun r t => Q r t ∧ G t)) ∧ (∀ (t : XT) (li : Nat → Int32) (lj : Nat → Int64), G t → wpX9_withFaces k 1 t li lj Q → wpX9_withFaces k 1 t li lj (fun r t => Q r t ∧ G t)) ∧ (∀ (t : XT) (li : Nat → Int32) (lj : Nat → Int64), G t → wpX9_withFaces k 2 t li lj Q → wpX9_withFaces k 2 t li lj (fun r t => Q r t ∧ G t)) := by
  intro k
  induction k with
  | zero => exact ⟨fun _ _ _ _ hR => False.elim hR, fun _ _ _ _ hR => False.elim hR, fun _ _ _ _ hR => False.elim hR⟩
  | succ k ih =>
    refine ⟨?_, ?_, ?_⟩
    · intro t li lj g hR
      have hR : wbX9_withFaces_0 (wpX9_withFaces k) k t li lj Q := hR
      show wbX9_withFaces_0 (wpX9_withFaces k) k t li lj (fun r t => Q r t ∧ G t)
      unfold wbX9_withFaces_0 at hR ⊢
      exact fun x1 e1 => ih.2.1 _ _ _ g (hR x1 e1)
    · intro t li lj g hR
      have hR : wbX9_withFaces_1 (wpX9_withFaces k) k t li lj Q := hR
      show wbX9_withFaces_1 (wpX9_withFaces k) k t li lj (fun r t => Q r t ∧ G t)
      unfold wbX9_withFaces_1 at hR ⊢
      exact ⟨fun c1 => ⟨(hR.1 c1), g⟩, fun c2 => wcX11_isIn (hR.2 c2) (fun y3_0 h3 => ⟨fun c4 => ih.2.2 _ _ _ g (h3.1 c4), fun c5 => ⟨(h3.2 c5).1, fun x6 e6 => fun x7 e7 => ih.2.2 _ _ _ g (((h3.2 c5).2 x6 e6) x7 e7)⟩⟩)⟩
    · intro t li lj g hR
      have hR : wbX9_withFaces_2 (wpX9_withFaces k) k t li lj Q := hR
      show wbX9_withFaces_2 (wpX9_withFaces k) k t li lj (fun r t => Q r t ∧ G t)
      unfold wbX9_withFaces_2 at hR ⊢
      exact fun x1 e1 => ih.2.1 _ _ _ g (hR x1 e1)
theorem wzX9_withFaces {G : XT → Prop} {k : Nat} {t : XT} {a1 : Int64} {Q : Int64 → XT → Prop} (hk : kp0 G) (g : G t) (hR : wqX9_withFaces k t a1 Q) : wqX9_withFaces k t a1 (fun r t => Q r t ∧ G t) := (wyX9_withFaces hk Q k).1 t _ _ g hR
theorem vyX9_withFaces {G : XT → Prop} {k : Nat} {t : XT} {a1 : Int64} {Q Q' : Int64 → XT → Prop} (hk : kp0 G) (g : G t) (hR : wqX9_withFaces k t a1 Q) (hQ : (∀ r t, Q r t → G t → Q' r t)) : wqX9_withFaces k t a1 Q' := wmX9_withFaces (Nat.le_refl k) (fun r t h => hQ r t h.1 h.2) (wzX9_withFaces hk g hR)
set_option maxHeartbeats 4000000 in
set_option maxRecDepth 100000 in
theorem wyX11_levelBetti {G : XT → Prop} (hk : kp0 G) (Q : Int32 → XT → Prop) : ∀ k : Nat, (∀ (t : XT) (li : Nat → Int32) (lj : Nat → Int64), G t → wpX11_levelBetti k 0 t li lj Q → wpX11_levelBetti k 0 t li lj (fun r t => Q r t ∧ G t)) ∧ (∀ (t : XT) (li : Nat → Int32) (lj : Nat → Int64), G t → wpX11_levelBetti k 1 t li lj Q → wpX11_levelBetti k 1 t li lj (fun r t => Q r t ∧ G t)) := by
  intro k
  induction k with
  | zero => exact ⟨fun _ _ _ _ hR => False.elim hR, fun _ _ _ _ hR => False.elim hR⟩
  | succ k ih =>
    refine ⟨?_, ?_⟩
    · intro t li lj g hR
      have hR : wbX11_levelBetti_0 (wpX11_levelBetti k) k t li lj Q := hR
      show wbX11_levelBetti_0 (wpX11_levelBetti k) k t li lj (fun r t => Q r t ∧ G t)
      unfold wbX11_levelBetti_0 at hR ⊢
      exact ⟨fun c1 => ih.2 _ _ _ g (hR.1 c1), fun c2 => wcX11_isDim (hR.2 c2) (fun y3_0 h3 => ⟨fun c4 => vyX2_upTo hk g (h3.1 c4) (fun y5_0 y5_1 h5 g5 => vyX9_withFaces hk g5 h5 (fun y6_0 y6_1 h6 g6 => vyX0_bettiOf hk g6 h6 (fun y7_0 y7_1 h7 g7 => ⟨h7, g7⟩))), fun c8 => ih.2 _ _ _ g (h3.2 c8)⟩)⟩
    · intro t li lj g hR
      have hR : wbX11_levelBetti_1 (wpX11_levelBetti k) k t li lj Q := hR
      show wbX11_levelBetti_1 (wpX11_levelBetti k) k t li lj (fun r t => Q r t ∧ G t)
      unfold wbX11_levelBetti_1 at hR ⊢
      exact ⟨hR, g⟩
theorem wzX11_levelBetti {G : XT → Prop} {k : Nat} {t : XT} {a1 : Int32} {a2 : Int32} {Q : Int32 → XT → Prop} (hk : kp0 G) (g : G t) (hR : wqX11_levelBetti k t a1 a2 Q) : wqX11_levelBetti k t a1 a2 (fun r t => Q r t ∧ G t) := (wyX11_levelBetti hk Q k).1 t _ _ g hR
theorem vyX11_levelBetti {G : XT → Prop} {k : Nat} {t : XT} {a1 : Int32} {a2 : Int32} {Q Q' : Int32 → XT → Prop} (hk : kp0 G) (g : G t) (hR : wqX11_levelBetti k t a1 a2 Q) (hQ : (∀ r t, Q r t → G t → Q' r t)) : wqX11_levelBetti k t a1 a2 Q' := wmX11_levelBetti (Nat.le_refl k) (fun r t h => hQ r t h.1 h.2) (wzX11_levelBetti hk g hR)
set_option maxHeartbeats 4000000 in
set_option maxRecDepth 100000 in
theorem wyX4_store_c4 {G : XT → Prop} (hk : kp0 G) (Q : XT → Prop) : ∀ k : Nat, (∀ (t : XT) (li : Nat → Int32) (lj : Nat → Int64), G t → wpX4_store_c4 k 0 t li lj Q → wpX4_store_c4 k 0 t li lj (fun t => Q t ∧ G t)) := by
  intro k
  induction k with
  | zero => exact fun _ _ _ _ hR => False.elim hR
  | succ k ih =>
    intro t li lj g hR
    have hR : wbX4_store_c4_0 (wpX4_store_c4 k) k t li lj Q := hR
    show wbX4_store_c4_0 (wpX4_store_c4 k) k t li lj (fun t => Q t ∧ G t)
    unfold wbX4_store_c4_0 at hR ⊢
    exact fun x1 e1 => ⟨(hR x1 e1).1, (hR x1 e1).2.1, (hR x1 e1).2.2.1, (hR x1 e1).2.2.2.1, (hR x1 e1).2.2.2.2.1, fun x2 e2 => have g2 : G x2 := (by rw [e2]; exact hk.2.2.1 _ _ _ g); wcX11_bit ((hR x1 e1).2.2.2.2.2 x2 e2) (fun y3_0 h3 => fun x4 e4 => fun x5 e5 => have g5 : G x5 := (by rw [e5]; exact hk.2.1 _ _ _ g2); ⟨((h3 x4 e4) x5 e5), g5⟩)⟩
theorem wzX4_store_c4 {G : XT → Prop} {k : Nat} {t : XT} {a1 : Int32} {Q : XT → Prop} (hk : kp0 G) (g : G t) (hR : wqX4_store_c4 k t a1 Q) : wqX4_store_c4 k t a1 (fun t => Q t ∧ G t) := (wyX4_store_c4 hk Q k) t _ _ g hR
theorem vyX4_store_c4 {G : XT → Prop} {k : Nat} {t : XT} {a1 : Int32} {Q Q' : XT → Prop} (hk : kp0 G) (g : G t) (hR : wqX4_store_c4 k t a1 Q) (hQ : (∀ t, Q t → G t → Q' t)) : wqX4_store_c4 k t a1 Q' := wmX4_store_c4 (Nat.le_refl k) (fun t h => hQ t h.1 h.2) (wzX4_store_c4 hk g hR)
