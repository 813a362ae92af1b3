set_option maxHeartbeats 4000000 in
set_option maxRecDepth 100000 in
theorem vfX5_swapColumns {G : XT → Prop} (hk : kpA G) (Q : XT → Prop) : ∀ k : Nat, (∀ (t : XT) (li : Nat → Int32) (lj : Nat → Int64), G t → wpX5_swapColumns k 0 t li lj Q → wpX5_swapColumns k 0 t li lj (fun t => Q t ∧ G t)) ∧ (∀ (t : XT) (li : Nat → Int32) (lj : Nat → Int64), G t → wpX5_swapColumns k 1 t li lj Q → wpX5_swapColumns k 1 t li lj (fun t => Q t ∧ G t)) := by
  intro k
  induction k with
  | zero => exact ⟨fun _ _ _ _ hR => False.elim hR, fun _ _ _ _ hR => False.elim hR⟩
  | succ k ih =>
    refine ⟨?_, ?_⟩
    · intro t li lj g hR
      have hR : wbX5_swapColumns_0 (wpX5_swapColumns k) k t li lj Q := hR
      show wbX5_swapColumns_0 (wpX5_swapColumns k) k t li lj (fun t => Q t ∧ G t)
      unfold wbX5_swapColumns_0 at hR ⊢
      exact ih.2 _ _ _ g hR
    · intro t li lj g hR
      have hR : wbX5_swapColumns_1 (wpX5_swapColumns k) k t li lj Q := hR
      show wbX5_swapColumns_1 (wpX5_swapColumns k) k t li lj (fun t => Q t ∧ G t)
      unfold wbX5_swapColumns_1 at hR ⊢
      exact ⟨fun c1 => ⟨(hR.1 c1), g⟩, fun c2 => ⟨fun c3 => ⟨((hR.2 c2).1 c3), g⟩, fun c4 => fun x5 e5 => fun x6 e6 => ⟨((((hR.2 c2).2 c4) x5 e5) x6 e6).1, fun x7 e7 => fun x8 e8 => fun x9 e9 => fun x10 e10 => fun x11 e11 => ⟨(((((((((hR.2 c2).2 c4) x5 e5) x6 e6).2 x7 e7) x8 e8) x9 e9) x10 e10) x11 e11).1, fun x12 e12 => ⟨((((((((((hR.2 c2).2 c4) x5 e5) x6 e6).2 x7 e7) x8 e8) x9 e9) x10 e10) x11 e11).2 x12 e12).1, fun x13 e13 => have g13 : G x13 := (by rw [e13]; exact hk.2.2.2 _ _ _ g); fun x14 e14 => fun x15 e15 => ⟨(((((((((((((hR.2 c2).2 c4) x5 e5) x6 e6).2 x7 e7) x8 e8) x9 e9) x10 e10) x11 e11).2 x12 e12).2 x13 e13) x14 e14) x15 e15).1, fun x16 e16 => have g16 : G x16 := (by rw [e16]; exact hk.2.2.2 _ _ _ g13); fun x17 e17 => ih.2 _ _ _ g16 (((((((((((((((hR.2 c2).2 c4) x5 e5) x6 e6).2 x7 e7) x8 e8) x9 e9) x10 e10) x11 e11).2 x12 e12).2 x13 e13) x14 e14) x15 e15).2 x16 e16) x17 e17)⟩⟩⟩⟩⟩⟩
theorem vgX5_swapColumns {G : XT → Prop} {k : Nat} {t : XT} {a1 : Int32} {a2 : Int32} {Q : XT → Prop} (hk : kpA G) (g : G t) (hR : wqX5_swapColumns k t a1 a2 Q) : wqX5_swapColumns k t a1 a2 (fun t => Q t ∧ G t) := (vfX5_swapColumns hk Q k).1 t _ _ g hR
theorem vtX5_swapColumns {G : XT → Prop} {k : Nat} {t : XT} {a1 : Int32} {a2 : Int32} {Q Q' : XT → Prop} (hk : kpA G) (g : G t) (hR : wqX5_swapColumns k t a1 a2 Q) (hQ : (∀ t, Q t → G t → Q' t)) : wqX5_swapColumns k t a1 a2 Q' := wmX5_swapColumns (Nat.le_refl k) (fun t h => hQ t h.1 h.2) (vgX5_swapColumns hk g hR)
set_option maxHeartbeats 4000000 in
set_option maxRecDepth 100000 in
theorem vfX5_reduceRows {G : XT → Prop} (hk : kpA G) (Q : Int32 → XT → Prop) : ∀ k : Nat, (∀ (t : XT) (li : Nat → Int32) (lj : Nat → Int64), G t → wpX5_reduceRows k 0 t li lj Q → wpX5_reduceRows k 0 t li lj (fun r t => Q r t ∧ G t)) ∧ (∀ (t : XT) (li : Nat → Int32) (lj : Nat → Int64), G t → wpX5_reduceRows k 1 t li lj Q → wpX5_reduceRows k 1 t li lj (fun r t => Q r t ∧ G t)) ∧ (∀ (t : XT) (li : Nat → Int32) (lj : Nat → Int64), G t → wpX5_reduceRows k 2 t li lj Q → wpX5_reduceRows k 2 t li lj (fun r t => Q r t ∧ G t)) ∧ (∀ (t : XT) (li : Nat → Int32) (lj : Nat → Int64), G t → wpX5_reduceRows k 3 t li lj Q → wpX5_reduceRows k 3 t li lj (fun r t => Q r t ∧ G t)) ∧ (∀ (t : XT) (li : Nat → Int32) (lj : Nat → Int64), G t → wpX5_reduceRows k 4 t li lj Q → wpX5_reduceRows k 4 t li lj (fun r t => Q r t ∧ G t)) ∧ (∀ (t : XT) (li : Nat → Int32) (lj : Nat → Int64), G t → wpX5_reduceRows k 5 t li lj Q → wpX5_reduceRows k 5 t li lj (fun r t => Q r t ∧ G t)) := by
  intro k
  induction k with
  | zero => exact ⟨fun _ _ _ _ hR => False.elim hR, fun _ _ _ _ hR => False.elim hR, fun _ _ _ _ hR => False.elim hR, fun _ _ _ _ hR => False.elim hR, fun _ _ _ _ hR => False.elim hR, fun _ _ _ _ hR => False.elim hR⟩
  | succ k ih =>
    refine ⟨?_, ?_, ?_, ?_, ?_, ?_⟩
    · intro t li lj g hR
      have hR : wbX5_reduceRows_0 (wpX5_reduceRows k) k t li lj Q := hR
      show wbX5_reduceRows_0 (wpX5_reduceRows k) k t li lj (fun r t => Q r t ∧ G t)
      unfold wbX5_reduceRows_0 at hR ⊢
      exact fun x1 e1 => ih.2.1 _ _ _ g (hR x1 e1)
    · intro t li lj g hR
      have hR : wbX5_reduceRows_1 (wpX5_reduceRows k) k t li lj Q := hR
      show wbX5_reduceRows_1 (wpX5_reduceRows k) k t li lj (fun r t => Q r t ∧ G t)
      unfold wbX5_reduceRows_1 at hR ⊢
      exact ⟨fun c1 => ⟨(hR.1 c1).1, ⟨(hR.1 c1).2, g⟩⟩, fun c2 => fun x3 e3 => fun x4 e4 => ⟨(((hR.2 c2) x3 e3) x4 e4).1, fun x5 e5 => fun x6 e6 => fun x7 e7 => ⟨((((((hR.2 c2) x3 e3) x4 e4).2 x5 e5) x6 e6) x7 e7).1, fun x8 e8 => wcX5_nearest (((((((hR.2 c2) x3 e3) x4 e4).2 x5 e5) x6 e6) x7 e7).2 x8 e8) (fun y9_0 h9 => ih.2.2.1 _ _ _ g h9)⟩⟩⟩
    · intro t li lj g hR
      have hR : wbX5_reduceRows_2 (wpX5_reduceRows k) k t li lj Q := hR
      show wbX5_reduceRows_2 (wpX5_reduceRows k) k t li lj (fun r t => Q r t ∧ G t)
      unfold wbX5_reduceRows_2 at hR ⊢
      exact ⟨fun c1 => ih.2.2.2.1 _ _ _ g (hR.1 c1), fun c2 => fun x3 e3 => ⟨fun c4 => ih.2.2.2.1 _ _ _ g (((hR.2 c2) x3 e3).1 c4), fun c5 => fun x6 e6 => fun x7 e7 => ⟨(((((hR.2 c2) x3 e3).2 c5) x6 e6) x7 e7).1, fun x8 e8 => fun x9 e9 => fun x10 e10 => ⟨((((((((hR.2 c2) x3 e3).2 c5) x6 e6) x7 e7).2 x8 e8) x9 e9) x10 e10).1, fun x11 e11 => fun x12 e12 => fun x13 e13 => vtX5_remainder hk g (((((((((((hR.2 c2) x3 e3).2 c5) x6 e6) x7 e7).2 x8 e8) x9 e9) x10 e10).2 x11 e11) x12 e12) x13 e13) (fun y14_0 y14_1 h14 g14 => ⟨h14.1, fun x15 e15 => have g15 : G x15 := (by rw [e15]; exact hk.2.2.2 _ _ _ g14); fun x16 e16 => ih.2.2.1 _ _ _ g15 ((h14.2 x15 e15) x16 e16)⟩)⟩⟩⟩⟩
    · intro t li lj g hR
      have hR : wbX5_reduceRows_3 (wpX5_reduceRows k) k t li lj Q := hR
      show wbX5_reduceRows_3 (wpX5_reduceRows k) k t li lj (fun r t => Q r t ∧ G t)
      unfold wbX5_reduceRows_3 at hR ⊢
      exact ⟨fun c1 => ih.2.2.2.2.1 _ _ _ g (hR.1 c1), fun c2 => fun x3 e3 => fun x4 e4 => ⟨(((hR.2 c2) x3 e3) x4 e4).1, fun x5 e5 => fun x6 e6 => ⟨fun c7 => ih.2.2.2.2.1 _ _ _ g ((((((hR.2 c2) x3 e3) x4 e4).2 x5 e5) x6 e6).1 c7), fun c8 => ih.2.2.2.2.2 _ _ _ g ((((((hR.2 c2) x3 e3) x4 e4).2 x5 e5) x6 e6).2 c8)⟩⟩⟩
    · intro t li lj g hR
      have hR : wbX5_reduceRows_4 (wpX5_reduceRows k) k t li lj Q := hR
      show wbX5_reduceRows_4 (wpX5_reduceRows k) k t li lj (fun r t => Q r t ∧ G t)
      unfold wbX5_reduceRows_4 at hR ⊢
      exact ih.2.2.2.2.2 _ _ _ g hR
    · intro t li lj g hR
      have hR : wbX5_reduceRows_5 (wpX5_reduceRows k) k t li lj Q := hR
      show wbX5_reduceRows_5 (wpX5_reduceRows k) k t li lj (fun r t => Q r t ∧ G t)
      unfold wbX5_reduceRows_5 at hR ⊢
      exact fun x1 e1 => ih.2.1 _ _ _ g (hR x1 e1)
theorem vgX5_reduceRows {G : XT → Prop} {k : Nat} {t : XT} {a1 : Int32} {Q : Int32 → XT → Prop} (hk : kpA G) (g : G t) (hR : wqX5_reduceRows k t a1 Q) : wqX5_reduceRows k t a1 (fun r t => Q r t ∧ G t) := (vfX5_reduceRows hk Q k).1 t _ _ g hR
theorem vtX5_reduceRows {G : XT → Prop} {k : Nat} {t : XT} {a1 : Int32} {Q Q' : Int32 → XT → Prop} (hk : kpA G) (g : G t) (hR : wqX5_reduceRows k t a1 Q) (hQ : (∀ r t, Q r t → G t → Q' r t)) : wqX5_reduceRows k t a1 Q' := wmX5_reduceRows (Nat.le_refl k) (fun r t h => hQ r t h.1 h.2) (vgX5_reduceRows hk g hR)
set_option maxHeartbeats 4000000 in
set_option maxRecDepth 100000 in
theorem vfX5_reduceColumns {G : XT → Prop} (hk : kpA G) (Q : Int32 → XT → Prop) : ∀ k : Nat, (∀ (t : XT) (li : Nat → Int32) (lj : Nat → Int64), G t → wpX5_reduceColumns k 0 t li lj Q → wpX5_reduceColumns k 0 t li lj (fun r t => Q r t ∧ G t)) ∧ (∀ (t : XT) (li : Nat → Int32) (lj : Nat → Int64), G t → wpX5_reduceColumns k 1 t li lj Q → wpX5_reduceColumns k 1 t li lj (fun r t => Q r t ∧ G t)) ∧ (∀ (t : XT) (li : Nat → Int32) (lj : Nat → Int64), G t → wpX5_reduceColumns k 2 t li lj Q → wpX5_reduceColumns k 2 t li lj (fun r t => Q r t ∧ G t)) ∧ (∀ (t : XT) (li : Nat → Int32) (lj : Nat → Int64), G t → wpX5_reduceColumns k 3 t li lj Q → wpX5_reduceColumns k 3 t li lj (fun r t => Q r t ∧ G t)) ∧ (∀ (t : XT) (li : Nat → Int32) (lj : Nat → Int64), G t → wpX5_reduceColumns k 4 t li lj Q → wpX5_reduceColumns k 4 t li lj (fun r t => Q r t ∧ G t)) ∧ (∀ (t : XT) (li : Nat → Int32) (lj : Nat → Int64), G t → wpX5_reduceColumns k 5 t li lj Q → wpX5_reduceColumns k 5 t li lj (fun r t => Q r t ∧ G t)) := by
  intro k
  induction k with
  | zero => exact ⟨fun _ _ _ _ hR => False.elim hR, fun _ _ _ _ hR => False.elim hR, fun _ _ _ _ hR => False.elim hR, fun _ _ _ _ hR => False.elim hR, fun _ _ _ _ hR => False.elim hR, fun _ _ _ _ hR => False.elim hR⟩
  | succ k ih =>
    refine ⟨?_, ?_, ?_, ?_, ?_, ?_⟩
    · intro t li lj g hR
      have hR : wbX5_reduceColumns_0 (wpX5_reduceColumns k) k t li lj Q := hR
      show wbX5_reduceColumns_0 (wpX5_reduceColumns k) k t li lj (fun r t => Q r t ∧ G t)
      unfold wbX5_reduceColumns_0 at hR ⊢
      exact fun x1 e1 => ih.2.1 _ _ _ g (hR x1 e1)
    · intro t li lj g hR
      have hR : wbX5_reduceColumns_1 (wpX5_reduceColumns k) k t li lj Q := hR
      show wbX5_reduceColumns_1 (wpX5_reduceColumns k) k t li lj (fun r t => Q r t ∧ G t)
      unfold wbX5_reduceColumns_1 at hR ⊢
      exact ⟨fun c1 => ⟨(hR.1 c1).1, ⟨(hR.1 c1).2, g⟩⟩, fun c2 => fun x3 e3 => fun x4 e4 => ⟨(((hR.2 c2) x3 e3) x4 e4).1, fun x5 e5 => fun x6 e6 => fun x7 e7 => ⟨((((((hR.2 c2) x3 e3) x4 e4).2 x5 e5) x6 e6) x7 e7).1, fun x8 e8 => wcX5_nearest (((((((hR.2 c2) x3 e3) x4 e4).2 x5 e5) x6 e6) x7 e7).2 x8 e8) (fun y9_0 h9 => ih.2.2.1 _ _ _ g h9)⟩⟩⟩
    · intro t li lj g hR
      have hR : wbX5_reduceColumns_2 (wpX5_reduceColumns k) k t li lj Q := hR
      show wbX5_reduceColumns_2 (wpX5_reduceColumns k) k t li lj (fun r t => Q r t ∧ G t)
      unfold wbX5_reduceColumns_2 at hR ⊢
      exact ⟨fun c1 => ih.2.2.2.1 _ _ _ g (hR.1 c1), fun c2 => fun x3 e3 => ⟨fun c4 => ih.2.2.2.1 _ _ _ g (((hR.2 c2) x3 e3).1 c4), fun c5 => fun x6 e6 => fun x7 e7 => ⟨(((((hR.2 c2) x3 e3).2 c5) x6 e6) x7 e7).1, fun x8 e8 => fun x9 e9 => fun x10 e10 => ⟨((((((((hR.2 c2) x3 e3).2 c5) x6 e6) x7 e7).2 x8 e8) x9 e9) x10 e10).1, fun x11 e11 => fun x12 e12 => fun x13 e13 => vtX5_remainder hk g (((((((((((hR.2 c2) x3 e3).2 c5) x6 e6) x7 e7).2 x8 e8) x9 e9) x10 e10).2 x11 e11) x12 e12) x13 e13) (fun y14_0 y14_1 h14 g14 => ⟨h14.1, fun x15 e15 => have g15 : G x15 := (by rw [e15]; exact hk.2.2.2 _ _ _ g14); fun x16 e16 => ih.2.2.1 _ _ _ g15 ((h14.2 x15 e15) x16 e16)⟩)⟩⟩⟩⟩
    · intro t li lj g hR
      have hR : wbX5_reduceColumns_3 (wpX5_reduceColumns k) k t li lj Q := hR
      show wbX5_reduceColumns_3 (wpX5_reduceColumns k) k t li lj (fun r t => Q r t ∧ G t)
      unfold wbX5_reduceColumns_3 at hR ⊢
      exact ⟨fun c1 => ih.2.2.2.2.1 _ _ _ g (hR.1 c1), fun c2 => fun x3 e3 => fun x4 e4 => ⟨(((hR.2 c2) x3 e3) x4 e4).1, fun x5 e5 => fun x6 e6 => ⟨fun c7 => ih.2.2.2.2.1 _ _ _ g ((((((hR.2 c2) x3 e3) x4 e4).2 x5 e5) x6 e6).1 c7), fun c8 => ih.2.2.2.2.2 _ _ _ g ((((((hR.2 c2) x3 e3) x4 e4).2 x5 e5) x6 e6).2 c8)⟩⟩⟩
    · intro t li lj g hR
      have hR : wbX5_reduceColumns_4 (wpX5_reduceColumns k) k t li lj Q := hR
      show wbX5_reduceColumns_4 (wpX5_reduceColumns k) k t li lj (fun r t => Q r t ∧ G t)
      unfold wbX5_reduceColumns_4 at hR ⊢
      exact ih.2.2.2.2.2 _ _ _ g hR
    · intro t li lj g hR
      have hR : wbX5_reduceColumns_5 (wpX5_reduceColumns k) k t li lj Q := hR
      show wbX5_reduceColumns_5 (wpX5_reduceColumns k) k t li lj (fun r t => Q r t ∧ G t)
      unfold wbX5_reduceColumns_5 at hR ⊢
      exact fun x1 e1 => ih.2.1 _ _ _ g (hR x1 e1)
theorem vgX5_reduceColumns {G : XT → Prop} {k : Nat} {t : XT} {a1 : Int32} {Q : Int32 → XT → Prop} (hk : kpA G) (g : G t) (hR : wqX5_reduceColumns k t a1 Q) : wqX5_reduceColumns k t a1 (fun r t => Q r t ∧ G t) := (vfX5_reduceColumns hk Q k).1 t _ _ g hR
theorem vtX5_reduceColumns {G : XT → Prop} {k : Nat} {t : XT} {a1 : Int32} {Q Q' : Int32 → XT → Prop} (hk : kpA G) (g : G t) (hR : wqX5_reduceColumns k t a1 Q) (hQ : (∀ r t, Q r t → G t → Q' r t)) : wqX5_reduceColumns k t a1 Q' := wmX5_reduceColumns (Nat.le_refl k) (fun r t h => hQ r t h.1 h.2) (vgX5_reduceColumns hk g hR)
set_option maxHeartbeats 4000000 in
set_option maxRecDepth 100000 in
theorem vfX5_clearCorner {G : XT → Prop} (hk : kpA G) (Q : Int64 → XT → Prop) : ∀ k : Nat, (∀ (t : XT) (li : Nat → Int32) (lj : Nat → Int64), G t → wpX5_clearCorner k 0 t li lj Q → wpX5_clearCorner k 0 t li lj (fun r t => Q r t ∧ G t)) ∧ (∀ (t : XT) (li : Nat → Int32) (lj : Nat → Int64), G t → wpX5_clearCorner k 1 t li lj Q → wpX5_clearCorner k 1 t li lj (fun r t => Q r t ∧ G t)) ∧ (∀ (t : XT) (li : Nat → Int32) (lj : Nat → Int64), G t → wpX5_clearCorner k 2 t li lj Q → wpX5_clearCorner k 2 t li lj (fun r t => Q r t ∧ G t)) ∧ (∀ (t : XT) (li : Nat → Int32) (lj : Nat → Int64), G t → wpX5_clearCorner k 3 t li lj Q → wpX5_clearCorner k 3 t li lj (fun r t => Q r t ∧ G t)) := by
  intro k
  induction k with
  | zero => exact ⟨fun _ _ _ _ hR => False.elim hR, fun _ _ _ _ hR => False.elim hR, fun _ _ _ _ hR => False.elim hR, fun _ _ _ _ hR => False.elim hR⟩
  | succ k ih =>
    refine ⟨?_, ?_, ?_, ?_⟩
    · intro t li lj g hR
      have hR : wbX5_clearCorner_0 (wpX5_clearCorner k) k t li lj Q := hR
      show wbX5_clearCorner_0 (wpX5_clearCorner k) k t li lj (fun r t => Q r t ∧ G t)
      unfold wbX5_clearCorner_0 at hR ⊢
      exact ih.2.1 _ _ _ g hR
    · intro t li lj g hR
      have hR : wbX5_clearCorner_1 (wpX5_clearCorner k) k t li lj Q := hR
      show wbX5_clearCorner_1 (wpX5_clearCorner k) k t li lj (fun r t => Q r t ∧ G t)
      unfold wbX5_clearCorner_1 at hR ⊢
      exact ⟨fun c1 => ⟨(hR.1 c1), g⟩, fun c2 => vtX5_leastCell hk g (hR.2 c2) (fun y3_0 y3_1 h3 g3 => ⟨fun c4 => ih.2.2.1 _ _ _ g3 (h3.1 c4), fun c5 => ⟨fun c6 => ⟨((h3.2 c5).1 c6).1, fun x7 e7 => vtX5_swapRows_c30 hk g3 (((h3.2 c5).1 c6).2 x7 e7) (fun y8_0 h8 g8 => ⟨h8.1, fun x9 e9 => vtX5_swapColumns hk g8 (h8.2 x9 e9) (fun y10_0 h10 g10 => vtX5_reduceRows hk g10 h10 (fun y11_0 y11_1 h11 g11 => vtX5_reduceColumns hk g11 h11 (fun y12_0 y12_1 h12 g12 => ⟨fun c13 => ih.2.2.2 _ _ _ g12 (h12.1 c13), fun c14 => ⟨fun c15 => ih.2.2.2 _ _ _ g12 ((h12.2 c14).1 c15), fun c16 => fun x17 e17 => fun x18 e18 => ⟨((((h12.2 c14).2 c16) x17 e17) x18 e18).1, fun x19 e19 => wcX5_gcd (((((h12.2 c14).2 c16) x17 e17) x18 e18).2 x19 e19) (fun y20_0 h20 => ⟨h20, g12⟩)⟩⟩⟩)))⟩)⟩, fun c21 => ih.2.2.1 _ _ _ g3 ((h3.2 c5).2 c21)⟩⟩)⟩
    · intro t li lj g hR
      have hR : wbX5_clearCorner_2 (wpX5_clearCorner k) k t li lj Q := hR
      show wbX5_clearCorner_2 (wpX5_clearCorner k) k t li lj (fun r t => Q r t ∧ G t)
      unfold wbX5_clearCorner_2 at hR ⊢
      exact ⟨hR, g⟩
    · intro t li lj g hR
      have hR : wbX5_clearCorner_3 (wpX5_clearCorner k) k t li lj Q := hR
      show wbX5_clearCorner_3 (wpX5_clearCorner k) k t li lj (fun r t => Q r t ∧ G t)
      unfold wbX5_clearCorner_3 at hR ⊢
      exact fun x1 e1 => ih.2.1 _ _ _ g (hR x1 e1)
theorem vgX5_clearCorner {G : XT → Prop} {k : Nat} {t : XT} {a1 : Int32} {Q : Int64 → XT → Prop} (hk : kpA G) (g : G t) (hR : wqX5_clearCorner k t a1 Q) : wqX5_clearCorner k t a1 (fun r t => Q r t ∧ G t) := (vfX5_clearCorner hk Q k).1 t _ _ g hR
theorem vtX5_clearCorner {G : XT → Prop} {k : Nat} {t : XT} {a1 : Int32} {Q Q' : Int64 → XT → Prop} (hk : kpA G) (g : G t) (hR : wqX5_clearCorner k t a1 Q) (hQ : (∀ r t, Q r t → G t → Q' r t)) : wqX5_clearCorner k t a1 Q' := wmX5_clearCorner (Nat.le_refl k) (fun r t h => hQ r t h.1 h.2) (vgX5_clearCorner hk g hR)
set_option maxHeartbeats 4000000 in
set_option maxRecDepth 100000 in
theorem vfX5_makeDivide {G : XT → Prop} (hk : kpA G) (Q : XT → Prop) : ∀ k : Nat, (∀ (t : XT) (li : Nat → Int32) (lj : Nat → Int64), G t → wpX5_makeDivide k 0 t li lj Q → wpX5_makeDivide k 0 t li lj (fun t => Q t ∧ G t)) := by
  intro k
  induction k with
  | zero => exact fun _ _ _ _ hR => False.elim hR
  | succ k ih =>
    intro t li lj g hR
    have hR : wbX5_makeDivide_0 (wpX5_makeDivide k) k t li lj Q := hR
    show wbX5_makeDivide_0 (wpX5_makeDivide k) k t li lj (fun t => Q t ∧ G t)
    unfold wbX5_makeDivide_0 at hR ⊢
    exact ⟨hR.1, fun x1 e1 => ⟨(hR.2 x1 e1).1, fun x2 e2 => wcX5_gcd ((hR.2 x1 e1).2 x2 e2) (fun y3_0 h3 => fun x4 e4 => ⟨fun c5 => ⟨((h3 x4 e4).1 c5), g⟩, fun c6 => ⟨((h3 x4 e4).2 c6).1, fun x7 e7 => ⟨(((h3 x4 e4).2 c6).2 x7 e7).1, fun x8 e8 => ⟨((((h3 x4 e4).2 c6).2 x7 e7).2 x8 e8).1, fun x9 e9 => fun x10 e10 => ⟨((((((h3 x4 e4).2 c6).2 x7 e7).2 x8 e8).2 x9 e9) x10 e10).1, fun x11 e11 => have g11 : G x11 := (by rw [e11]; exact hk.2.2.2 _ _ _ g); ⟨(((((((h3 x4 e4).2 c6).2 x7 e7).2 x8 e8).2 x9 e9) x10 e10).2 x11 e11).1, fun x12 e12 => have g12 : G x12 := (by rw [e12]; exact hk.2.2.2 _ _ _ g11); ⟨((((((((h3 x4 e4).2 c6).2 x7 e7).2 x8 e8).2 x9 e9) x10 e10).2 x11 e11).2 x12 e12), g12⟩⟩⟩⟩⟩⟩⟩)⟩⟩
theorem vgX5_makeDivide {G : XT → Prop} {k : Nat} {t : XT} {a1 : Int32} {a2 : Int32} {Q : XT → Prop} (hk : kpA G) (g : G t) (hR : wqX5_makeDivide k t a1 a2 Q) : wqX5_makeDivide k t a1 a2 (fun t => Q t ∧ G t) := (vfX5_makeDivide hk Q k) t _ _ g hR
theorem vtX5_makeDivide {G : XT → Prop} {k : Nat} {t : XT} {a1 : Int32} {a2 : Int32} {Q Q' : XT → Prop} (hk : kpA G) (g : G t) (hR : wqX5_makeDivide k t a1 a2 Q) (hQ : (∀ t, Q t → G t → Q' t)) : wqX5_makeDivide k t a1 a2 Q' := wmX5_makeDivide (Nat.le_refl k) (fun t h => hQ t h.1 h.2) (vgX5_makeDivide hk g hR)
set_option maxHeartbeats 4000000 in
set_option maxRecDepth 100000 in
theorem vfX5_diagonalise {G : XT → Prop} (hk : kpA G) (Q : XT → Prop) : ∀ k : Nat, (∀ (t : XT) (li : Nat → Int32) (lj : Nat → Int64), G t → wpX5_diagonalise k 0 t li lj Q → wpX5_diagonalise k 0 t li lj (fun t => Q t ∧ G t)) ∧ (∀ (t : XT) (li : Nat → Int32) (lj : Nat → Int64), G t → wpX5_diagonalise k 1 t li lj Q → wpX5_diagonalise k 1 t li lj (fun t => Q t ∧ G t)) ∧ (∀ (t : XT) (li : Nat → Int32) (lj : Nat → Int64), G t → wpX5_diagonalise k 2 t li lj Q → wpX5_diagonalise k 2 t li lj (fun t => Q t ∧ G t)) ∧ (∀ (t : XT) (li : Nat → Int32) (lj : Nat → Int64), G t → wpX5_diagonalise k 3 t li lj Q → wpX5_diagonalise k 3 t li lj (fun t => Q t ∧ G t)) ∧ (∀ (t : XT) (li : Nat → Int32) (lj : Nat → Int64), G t → wpX5_diagonalise k 4 t li lj Q → wpX5_diagonalise k 4 t li lj (fun t => Q t ∧ G t)) := by
  intro k
  induction k with
  | zero => exact ⟨fun _ _ _ _ hR => False.elim hR, fun _ _ _ _ hR => False.elim hR, fun _ _ _ _ hR => False.elim hR, fun _ _ _ _ hR => False.elim hR, fun _ _ _ _ hR => False.elim hR⟩
  | succ k ih =>
    refine ⟨?_, ?_, ?_, ?_, ?_⟩
    · intro t li lj g hR
      have hR : wbX5_diagonalise_0 (wpX5_diagonalise k) k t li lj Q := hR
      show wbX5_diagonalise_0 (wpX5_diagonalise k) k t li lj (fun t => Q t ∧ G t)
      unfold wbX5_diagonalise_0 at hR ⊢
      exact fun x1 e1 => ih.2.1 _ _ _ g (hR x1 e1)
    · intro t li lj g hR
      have hR : wbX5_diagonalise_1 (wpX5_diagonalise k) k t li lj Q := hR
      show wbX5_diagonalise_1 (wpX5_diagonalise k) k t li lj (fun t => Q t ∧ G t)
      unfold wbX5_diagonalise_1 at hR ⊢
      exact fun x1 e1 => ⟨fun c2 => ih.2.2.1 _ _ _ g ((hR x1 e1).1 c2), fun c3 => ⟨((hR x1 e1).2 c3).1, fun x4 e4 => vtX5_remainder hk g (((hR x1 e1).2 c3).2 x4 e4) (fun y5_0 y5_1 h5 g5 => ⟨h5.1, fun x6 e6 => have g6 : G x6 := (by rw [e6]; exact hk.2.2.2 _ _ _ g5); fun x7 e7 => ih.2.1 _ _ _ g6 ((h5.2 x6 e6) x7 e7)⟩)⟩⟩
    · intro t li lj g hR
      have hR : wbX5_diagonalise_2 (wpX5_diagonalise k) k t li lj Q := hR
      show wbX5_diagonalise_2 (wpX5_diagonalise k) k t li lj (fun t => Q t ∧ G t)
      unfold wbX5_diagonalise_2 at hR ⊢
      exact ⟨fun c1 => ih.2.2.2.1 _ _ _ g (hR.1 c1), fun c2 => vtX5_clearCorner hk g (hR.2 c2) (fun y3_0 y3_1 h3 g3 => ⟨h3.1, fun x4 e4 => have g4 : G x4 := (by rw [e4]; exact hk.2.2.2 _ _ _ g3); fun x5 e5 => ih.2.2.1 _ _ _ g4 ((h3.2 x4 e4) x5 e5)⟩)⟩
    · intro t li lj g hR
      have hR : wbX5_diagonalise_3 (wpX5_diagonalise k) k t li lj Q := hR
      show wbX5_diagonalise_3 (wpX5_diagonalise k) k t li lj (fun t => Q t ∧ G t)
      unfold wbX5_diagonalise_3 at hR ⊢
      exact ⟨fun c1 => ⟨(hR.1 c1), g⟩, fun c2 => fun x3 e3 => ih.2.2.2.2 _ _ _ g ((hR.2 c2) x3 e3)⟩
    · intro t li lj g hR
      have hR : wbX5_diagonalise_4 (wpX5_diagonalise k) k t li lj Q := hR
      show wbX5_diagonalise_4 (wpX5_diagonalise k) k t li lj (fun t => Q t ∧ G t)
      unfold wbX5_diagonalise_4 at hR ⊢
      exact ⟨fun c1 => fun x2 e2 => ih.2.2.2.1 _ _ _ g ((hR.1 c1) x2 e2), fun c3 => vtX5_makeDivide hk g (hR.2 c3) (fun y4_0 h4 g4 => fun x5 e5 => ih.2.2.2.2 _ _ _ g4 (h4 x5 e5))⟩
theorem vgX5_diagonalise {G : XT → Prop} {k : Nat} {t : XT}  {Q : XT → Prop} (hk : kpA G) (g : G t) (hR : wqX5_diagonalise k t  Q) : wqX5_diagonalise k t  (fun t => Q t ∧ G t) := (vfX5_diagonalise hk Q k).1 t _ _ g hR
theorem vtX5_diagonalise {G : XT → Prop} {k : Nat} {t : XT}  {Q Q' : XT → Prop} (hk : kpA G) (g : G t) (hR : wqX5_diagonalise k t  Q) (hQ : (∀ t, Q t → G t → Q' t)) : wqX5_diagonalise k t  Q' := wmX5_diagonalise (Nat.le_refl k) (fun t h => hQ t h.1 h.2) (vgX5_diagonalise hk g hR)
set_option maxHeartbeats 4000000 in
set_option maxRecDepth 100000 in
theorem vfX0_torsionsOf {G : XT → Prop} (hk : kpA G) (Q : Int32 → XT → Prop) : ∀ k : Nat, (∀ (t : XT) (li : Nat → Int32) (lj : Nat → Int64), G t → wpX0_torsionsOf k 0 t li lj Q → wpX0_torsionsOf k 0 t li lj (fun r t => Q r t ∧ G t)) ∧ (∀ (t : XT) (li : Nat → Int32) (lj : Nat → Int64), G t → wpX0_torsionsOf k 1 t li lj Q → wpX0_torsionsOf k 1 t li lj (fun r t => Q r t ∧ G t)) ∧ (∀ (t : XT) (li : Nat → Int32) (lj : Nat → Int64), G t → wpX0_torsionsOf k 2 t li lj Q → wpX0_torsionsOf k 2 t li lj (fun r t => Q r t ∧ G t)) ∧ (∀ (t : XT) (li : Nat → Int32) (lj : Nat → Int64), G t → wpX0_torsionsOf k 3 t li lj Q → wpX0_torsionsOf k 3 t li lj (fun r t => Q r t ∧ G t)) ∧ (∀ (t : XT) (li : Nat → Int32) (lj : Nat → Int64), G t → wpX0_torsionsOf k 4 t li lj Q → wpX0_torsionsOf k 4 t li lj (fun r t => Q r t ∧ G t)) := by
  intro k
  induction k with
  | zero => exact ⟨fun _ _ _ _ hR => False.elim hR, fun _ _ _ _ hR => False.elim hR, fun _ _ _ _ hR => False.elim hR, fun _ _ _ _ hR => False.elim hR, fun _ _ _ _ hR => False.elim hR⟩
  | succ k ih =>
    refine ⟨?_, ?_, ?_, ?_, ?_⟩
    · intro t li lj g hR
      have hR : wbX0_torsionsOf_0 (wpX0_torsionsOf k) k t li lj Q := hR
      show wbX0_torsionsOf_0 (wpX0_torsionsOf k) k t li lj (fun r t => Q r t ∧ G t)
      unfold wbX0_torsionsOf_0 at hR ⊢
      exact fun x1 e1 => vtX0_rankOf hk g (hR x1 e1) (fun y2_0 y2_1 h2 g2 => ⟨fun c3 => ih.2.1 _ _ _ g2 (h2.1 c3), fun c4 => fun x5 e5 => ⟨fun c6 => vtX5_diagonalise hk g2 (((h2.2 c4) x5 e5).1 c6) (fun y7_0 h7 g7 => ih.2.2.1 _ _ _ g7 h7), fun c8 => ih.2.1 _ _ _ g2 (((h2.2 c4) x5 e5).2 c8)⟩⟩)
    · intro t li lj g hR
      have hR : wbX0_torsionsOf_1 (wpX0_torsionsOf k) k t li lj Q := hR
      show wbX0_torsionsOf_1 (wpX0_torsionsOf k) k t li lj (fun r t => Q r t ∧ G t)
      unfold wbX0_torsionsOf_1 at hR ⊢
      exact ⟨hR, g⟩
    · intro t li lj g hR
      have hR : wbX0_torsionsOf_2 (wpX0_torsionsOf k) k t li lj Q := hR
      show wbX0_torsionsOf_2 (wpX0_torsionsOf k) k t li lj (fun r t => Q r t ∧ G t)
      unfold wbX0_torsionsOf_2 at hR ⊢
      exact ⟨fun c1 => ih.2.2.2.2 _ _ _ g (hR.1 c1), fun c2 => ⟨fun c3 => ih.2.2.2.2 _ _ _ g ((hR.2 c2).1 c3), fun c4 => ⟨((hR.2 c2).2 c4).1, fun x5 e5 => fun x6 e6 => ⟨fun c7 => ih.2.2.2.1 _ _ _ g (((((hR.2 c2).2 c4).2 x5 e5) x6 e6).1 c7), fun c8 => ⟨(((((hR.2 c2).2 c4).2 x5 e5) x6 e6).2 c8).1, fun x9 e9 => ⟨((((((hR.2 c2).2 c4).2 x5 e5) x6 e6).2 c8).2 x9 e9).1, fun x10 e10 => have g10 : G x10 := (by rw [e10]; exact hk.2.2.2 _ _ _ g); fun x11 e11 => ih.2.2.2.1 _ _ _ g10 ((((((((hR.2 c2).2 c4).2 x5 e5) x6 e6).2 c8).2 x9 e9).2 x10 e10) x11 e11)⟩⟩⟩⟩⟩⟩
    · intro t li lj g hR
      have hR : wbX0_torsionsOf_3 (wpX0_torsionsOf k) k t li lj Q := hR
      show wbX0_torsionsOf_3 (wpX0_torsionsOf k) k t li lj (fun r t => Q r t ∧ G t)
      unfold wbX0_torsionsOf_3 at hR ⊢
      exact fun x1 e1 => ih.2.2.1 _ _ _ g (hR x1 e1)
    · intro t li lj g hR
      have hR : wbX0_torsionsOf_4 (wpX0_torsionsOf k) k t li lj Q := hR
      show wbX0_torsionsOf_4 (wpX0_torsionsOf k) k t li lj (fun r t => Q r t ∧ G t)
      unfold wbX0_torsionsOf_4 at hR ⊢
      exact ⟨hR, g⟩
theorem vgX0_torsionsOf {G : XT → Prop} {k : Nat} {t : XT} {a1 : Int64} {a2 : Int32} {a3 : Int32} {Q : Int32 → XT → Prop} (hk : kpA G) (g : G t) (hR : wqX0_torsionsOf k t a1 a2 a3 Q) : wqX0_torsionsOf k t a1 a2 a3 (fun r t => Q r t ∧ G t) := (vfX0_torsionsOf hk Q k).1 t _ _ g hR
theorem vtX0_torsionsOf {G : XT → Prop} {k : Nat} {t : XT} {a1 : Int64} {a2 : Int32} {a3 : Int32} {Q Q' : Int32 → XT → Prop} (hk : kpA G) (g : G t) (hR : wqX0_torsionsOf k t a1 a2 a3 Q) (hQ : (∀ r t, Q r t → G t → Q' r t)) : wqX0_torsionsOf k t a1 a2 a3 Q' := wmX0_torsionsOf (Nat.le_refl k) (fun r t h => hQ r t h.1 h.2) (vgX0_torsionsOf hk g hR)
set_option maxHeartbeats 4000000 in
set_option maxRecDepth 100000 in
theorem vfX11_torsion {G : XT → Prop} (hk : kpA G) (Q : Int64 → XT → Prop) : ∀ k : Nat, (∀ (t : XT) (li : Nat → Int32) (lj : Nat → Int64), G t → wpX11_torsion k 0 t li lj Q → wpX11_torsion k 0 t li lj (fun r t => Q r t ∧ G t)) ∧ (∀ (t : XT) (li : Nat → Int32) (lj : Nat → Int64), G t → wpX11_torsion k 1 t li lj Q → wpX11_torsion k 1 t li lj (fun r t => Q r t ∧ G t)) ∧ (∀ (t : XT) (li : Nat → Int32) (lj : Nat → Int64), G t → wpX11_torsion k 2 t li lj Q → wpX11_torsion k 2 t li lj (fun r t => Q r t ∧ G t)) := by
  intro k
  induction k with
  | zero => exact ⟨fun _ _ _ _ hR => False.elim hR, fun _ _ _ _ hR => False.elim hR, fun _ _ _ _ hR => False.elim hR⟩
  | succ k ih =>
    refine ⟨?_, ?_, ?_⟩
    · intro t li lj g hR
      have hR : wbX11_torsion_0 (wpX11_torsion k) k t li lj Q := hR
      show wbX11_torsion_0 (wpX11_torsion k) k t li lj (fun r t => Q r t ∧ G t)
      unfold wbX11_torsion_0 at hR ⊢
      exact wcX11_isDim hR (fun y1_0 h1 => ⟨fun c2 => ih.2.1 _ _ _ g (h1.1 c2), fun c3 => ⟨fun c4 => ih.2.1 _ _ _ g ((h1.2 c3).1 c4), fun c5 => ⟨fun c6 => ih.2.1 _ _ _ g (((h1.2 c3).2 c5).1 c6), fun c7 => ⟨fun c8 => vtX11_basis hk g ((((h1.2 c3).2 c5).2 c7).1 c8) (fun y9_0 y9_1 h9 g9 => ⟨fun c10 => ih.2.2 _ _ _ g9 (h9.1 c10), fun c11 => ih.2.2 _ _ _ g9 (h9.2 c11)⟩), fun c12 => ih.2.1 _ _ _ g ((((h1.2 c3).2 c5).2 c7).2 c12)⟩⟩⟩⟩)
    · intro t li lj g hR
      have hR : wbX11_torsion_1 (wpX11_torsion k) k t li lj Q := hR
      show wbX11_torsion_1 (wpX11_torsion k) k t li lj (fun r t => Q r t ∧ G t)
      unfold wbX11_torsion_1 at hR ⊢
      exact ⟨hR, g⟩
    · intro t li lj g hR
      have hR : wbX11_torsion_2 (wpX11_torsion k) k t li lj Q := hR
      show wbX11_torsion_2 (wpX11_torsion k) k t li lj (fun r t => Q r t ∧ G t)
      unfold wbX11_torsion_2 at hR ⊢
      exact vtX0_torsionsOf hk g hR (fun y1_0 y1_1 h1 g1 => ⟨fun c2 => ⟨fun c3 => ⟨((h1.1 c2).1 c3), g1⟩, fun c4 => ⟨((h1.1 c2).2 c4).1, fun x5 e5 => ⟨(((h1.1 c2).2 c4).2 x5 e5), g1⟩⟩⟩, fun c6 => fun x7 e7 => ⟨((h1.2 c6) x7 e7), g1⟩⟩)
theorem vgX11_torsion {G : XT → Prop} {k : Nat} {t : XT} {a1 : Int32} {a2 : Int32} {a3 : Int32} {Q : Int64 → XT → Prop} (hk : kpA G) (g : G t) (hR : wqX11_torsion k t a1 a2 a3 Q) : wqX11_torsion k t a1 a2 a3 (fun r t => Q r t ∧ G t) := (vfX11_torsion hk Q k).1 t _ _ g hR
theorem vtX11_torsion {G : XT → Prop} {k : Nat} {t : XT} {a1 : Int32} {a2 : Int32} {a3 : Int32} {Q Q' : Int64 → XT → Prop} (hk : kpA G) (g : G t) (hR : wqX11_torsion k t a1 a2 a3 Q) (hQ : (∀ r t, Q r t → G t → Q' r t)) : wqX11_torsion k t a1 a2 a3 Q' := wmX11_torsion (Nat.le_refl k) (fun r t h => hQ r t h.1 h.2) (vgX11_torsion hk g hR)
set_option maxHeartbeats 4000000 in
set_option maxRecDepth 100000 in
theorem vfX11_slack {G : XT → Prop} (hk : kpA G) (Q : Int32 → XT → Prop) : ∀ k : Nat, (∀ (t : XT) (li : Nat → Int32) (lj : Nat → Int64), G t → wpX11_slack k 0 t li lj Q → wpX11_slack k 0 t li lj (fun r t => Q r t ∧ G t)) ∧ (∀ (t : XT) (li : Nat → Int32) (lj : Nat → Int64), G t → wpX11_slack k 1 t li lj Q → wpX11_slack k 1 t li lj (fun r t => Q r t ∧ G t)) := by
  intro k
  induction k with
  | zero => exact ⟨fun _ _ _ _ hR => False.elim hR, fun _ _ _ _ hR => False.elim hR⟩
  | succ k ih =>
    refine ⟨?_, ?_⟩
    · intro t li lj g hR
      have hR : wbX11_slack_0 (wpX11_slack k) k t li lj Q := hR
      show wbX11_slack_0 (wpX11_slack k) k t li lj (fun r t => Q r t ∧ G t)
      unfold wbX11_slack_0 at hR ⊢
      exact wcX11_isDim hR (fun y1_0 h1 => ⟨fun c2 => ih.2 _ _ _ g (h1.1 c2), fun c3 => ⟨(h1.2 c3), g⟩⟩)
    · intro t li lj g hR
      have hR : wbX11_slack_1 (wpX11_slack k) k t li lj Q := hR
      show wbX11_slack_1 (wpX11_slack k) k t li lj (fun r t => Q r t ∧ G t)
      unfold wbX11_slack_1 at hR ⊢
      exact ⟨fun c1 => ⟨(hR.1 c1), g⟩, fun c2 => vtX6_unpaired hk g (hR.2 c2) (fun y3_0 y3_1 h3 g3 => ⟨h3.1, fun x4 e4 => fun x5 e5 => wcJ13_bitCount_95d88 ((h3.2 x4 e4) x5 e5) (fun y6_0 h6 => vtX0_bettiOf hk g3 h6 (fun y7_0 y7_1 h7 g7 => fun x8 e8 => fun x9 e9 => fun x10 e10 => ih.2 _ _ _ g7 (((h7 x8 e8) x9 e9) x10 e10)))⟩)⟩
theorem vgX11_slack {G : XT → Prop} {k : Nat} {t : XT} {a1 : Int32} {Q : Int32 → XT → Prop} (hk : kpA G) (g : G t) (hR : wqX11_slack k t a1 Q) : wqX11_slack k t a1 (fun r t => Q r t ∧ G t) := (vfX11_slack hk Q k).1 t _ _ g hR
theorem vtX11_slack {G : XT → Prop} {k : Nat} {t : XT} {a1 : Int32} {Q Q' : Int32 → XT → Prop} (hk : kpA G) (g : G t) (hR : wqX11_slack k t a1 Q) (hQ : (∀ r t, Q r t → G t → Q' r t)) : wqX11_slack k t a1 Q' := wmX11_slack (Nat.le_refl k) (fun r t h => hQ r t h.1 h.2) (vgX11_slack hk g hR)
set_option maxHeartbeats 4000000 in
set_option maxRecDepth 100000 in
theorem vfX11_free {G : XT → Prop} (hk : kpA G) (Q : Int32 → XT → Prop) : ∀ k : Nat, (∀ (t : XT) (li : Nat → Int32) (lj : Nat → Int64), G t → wpX11_free k 0 t li lj Q → wpX11_free k 0 t li lj (fun r t => Q r t ∧ G t)) ∧ (∀ (t : XT) (li : Nat → Int32) (lj : Nat → Int64), G t → wpX11_free k 1 t li lj Q → wpX11_free k 1 t li lj (fun r t => Q r t ∧ G t)) ∧ (∀ (t : XT) (li : Nat → Int32) (lj : Nat → Int64), G t → wpX11_free k 2 t li lj Q → wpX11_free k 2 t li lj (fun r t => Q r t ∧ G t)) := by
  intro k
  induction k with
  | zero => exact ⟨fun _ _ _ _ hR => False.elim hR, fun _ _ _ _ hR => False.elim hR, fun _ _ _ _ hR => False.elim hR⟩
  | succ k ih =>
    refine ⟨?_, ?_, ?_⟩
    · intro t li lj g hR
      have hR : wbX11_free_0 (wpX11_free k) k t li lj Q := hR
      show wbX11_free_0 (wpX11_free k) k t li lj (fun r t => Q r t ∧ G t)
      unfold wbX11_free_0 at hR ⊢
      exact ⟨fun c1 => ih.2.1 _ _ _ g (hR.1 c1), fun c2 => ⟨(hR.2 c2), g⟩⟩
    · intro t li lj g hR
      have hR : wbX11_free_1 (wpX11_free k) k t li lj Q := hR
      show wbX11_free_1 (wpX11_free k) k t li lj (fun r t => Q r t ∧ G t)
      unfold wbX11_free_1 at hR ⊢
      exact ⟨fun c1 => wcX11_listed (hR.1 c1) (fun y2_0 h2 => ⟨h2, g⟩), fun c3 => vtX11_isThere hk g (hR.2 c3) (fun y4_0 y4_1 h4 g4 => ⟨fun c5 => ih.2.2 _ _ _ g4 (h4.1 c5), fun c6 => vtX11_isFree hk g4 (h4.2 c6) (fun y7_0 y7_1 h7 g7 => ⟨fun c8 => ih.2.2 _ _ _ g7 (h7.1 c8), fun c9 => wcX11_bit (h7.2 c9) (fun y10_0 h10 => fun x11 e11 => ih.2.2 _ _ _ g7 (h10 x11 e11))⟩)⟩)⟩
    · intro t li lj g hR
      have hR : wbX11_free_2 (wpX11_free k) k t li lj Q := hR
      show wbX11_free_2 (wpX11_free k) k t li lj (fun r t => Q r t ∧ G t)
      unfold wbX11_free_2 at hR ⊢
      exact fun x1 e1 => ih.2.1 _ _ _ g (hR x1 e1)
theorem vgX11_free {G : XT → Prop} {k : Nat} {t : XT} {a1 : Int32} {Q : Int32 → XT → Prop} (hk : kpA G) (g : G t) (hR : wqX11_free k t a1 Q) : wqX11_free k t a1 (fun r t => Q r t ∧ G t) := (vfX11_free hk Q k).1 t _ _ g hR
theorem vtX11_free {G : XT → Prop} {k : Nat} {t : XT} {a1 : Int32} {Q Q' : Int32 → XT → Prop} (hk : kpA G) (g : G t) (hR : wqX11_free k t a1 Q) (hQ : (∀ r t, Q r t → G t → Q' r t)) : wqX11_free k t a1 Q' := wmX11_free (Nat.le_refl k) (fun r t h => hQ r t h.1 h.2) (vgX11_free hk g hR)
set_option maxHeartbeats 4000000 in
set_option maxRecDepth 100000 in
theorem vfX11_facet {G : XT → Prop} (hk : kpA G) (Q : Int32 → XT → Prop) : ∀ k : Nat, (∀ (t : XT) (li : Nat → Int32) (lj : Nat → Int64), G t → wpX11_facet k 0 t li lj Q → wpX11_facet k 0 t li lj (fun r t => Q r t ∧ G t)) ∧ (∀ (t : XT) (li : Nat → Int32) (lj : Nat → Int64), G t → wpX11_facet k 1 t li lj Q → wpX11_facet k 1 t li lj (fun r t => Q r t ∧ G t)) ∧ (∀ (t : XT) (li : Nat → Int32) (lj : Nat → Int64), G t → wpX11_facet k 2 t li lj Q → wpX11_facet k 2 t li lj (fun r t => Q r t ∧ G t)) := by
  intro k
  induction k with
  | zero => exact ⟨fun _ _ _ _ hR => False.elim hR, fun _ _ _ _ hR => False.elim hR, fun _ _ _ _ hR => False.elim hR⟩
  | succ k ih =>
    refine ⟨?_, ?_, ?_⟩
    · intro t li lj g hR
      have hR : wbX11_facet_0 (wpX11_facet k) k t li lj Q := hR
      show wbX11_facet_0 (wpX11_facet k) k t li lj (fun r t => Q r t ∧ G t)
      unfold wbX11_facet_0 at hR ⊢
      exact ⟨fun c1 => ih.2.1 _ _ _ g (hR.1 c1), fun c2 => ⟨(hR.2 c2), g⟩⟩
    · intro t li lj g hR
      have hR : wbX11_facet_1 (wpX11_facet k) k t li lj Q := hR
      show wbX11_facet_1 (wpX11_facet k) k t li lj (fun r t => Q r t ∧ G t)
      unfold wbX11_facet_1 at hR ⊢
      exact ⟨fun c1 => wcX11_listed (hR.1 c1) (fun y2_0 h2 => ⟨h2, g⟩), fun c3 => vtX11_isThere hk g (hR.2 c3) (fun y4_0 y4_1 h4 g4 => ⟨fun c5 => ih.2.2 _ _ _ g4 (h4.1 c5), fun c6 => ⟨(h4.2 c6).1, fun x7 e7 => fun x8 e8 => fun x9 e9 => ⟨fun c10 => ih.2.2 _ _ _ g4 (((((h4.2 c6).2 x7 e7) x8 e8) x9 e9).1 c10), fun c11 => wcX11_bit (((((h4.2 c6).2 x7 e7) x8 e8) x9 e9).2 c11) (fun y12_0 h12 => fun x13 e13 => ih.2.2 _ _ _ g4 (h12 x13 e13))⟩⟩⟩)⟩
    · intro t li lj g hR
      have hR : wbX11_facet_2 (wpX11_facet k) k t li lj Q := hR
      show wbX11_facet_2 (wpX11_facet k) k t li lj (fun r t => Q r t ∧ G t)
      unfold wbX11_facet_2 at hR ⊢
      exact fun x1 e1 => ih.2.1 _ _ _ g (hR x1 e1)
theorem vgX11_facet {G : XT → Prop} {k : Nat} {t : XT} {a1 : Int32} {Q : Int32 → XT → Prop} (hk : kpA G) (g : G t) (hR : wqX11_facet k t a1 Q) : wqX11_facet k t a1 (fun r t => Q r t ∧ G t) := (vfX11_facet hk Q k).1 t _ _ g hR
theorem vtX11_facet {G : XT → Prop} {k : Nat} {t : XT} {a1 : Int32} {Q Q' : Int32 → XT → Prop} (hk : kpA G) (g : G t) (hR : wqX11_facet k t a1 Q) (hQ : (∀ r t, Q r t → G t → Q' r t)) : wqX11_facet k t a1 Q' := wmX11_facet (Nat.le_refl k) (fun r t h => hQ r t h.1 h.2) (vgX11_facet hk g hR)
set_option maxHeartbeats 4000000 in
set_option maxRecDepth 100000 in
theorem vfX11_linkOf {G : XT → Prop} (hk : kpA G) (Q : Int64 → XT → Prop) : ∀ k : Nat, (∀ (t : XT) (li : Nat → Int32) (lj : Nat → Int64), G t → wpX11_linkOf k 0 t li lj Q → wpX11_linkOf k 0 t li lj (fun r t => Q r t ∧ G t)) ∧ (∀ (t : XT) (li : Nat → Int32) (lj : Nat → Int64), G t → wpX11_linkOf k 1 t li lj Q → wpX11_linkOf k 1 t li lj (fun r t => Q r t ∧ G t)) ∧ (∀ (t : XT) (li : Nat → Int32) (lj : Nat → Int64), G t → wpX11_linkOf k 2 t li lj Q → wpX11_linkOf k 2 t li lj (fun r t => Q r t ∧ G t)) ∧ (∀ (t : XT) (li : Nat → Int32) (lj : Nat → Int64), G t → wpX11_linkOf k 3 t li lj Q → wpX11_linkOf k 3 t li lj (fun r t => Q r t ∧ G t)) := by
  intro k
  induction k with
  | zero => exact ⟨fun _ _ _ _ hR => False.elim hR, fun _ _ _ _ hR => False.elim hR, fun _ _ _ _ hR => False.elim hR, fun _ _ _ _ hR => False.elim hR⟩
  | succ k ih =>
    refine ⟨?_, ?_, ?_, ?_⟩
    · intro t li lj g hR
      have hR : wbX11_linkOf_0 (wpX11_linkOf k) k t li lj Q := hR
      show wbX11_linkOf_0 (wpX11_linkOf k) k t li lj (fun r t => Q r t ∧ G t)
      unfold wbX11_linkOf_0 at hR ⊢
      exact ih.2.1 _ _ _ g hR
    · intro t li lj g hR
      have hR : wbX11_linkOf_1 (wpX11_linkOf k) k t li lj Q := hR
      show wbX11_linkOf_1 (wpX11_linkOf k) k t li lj (fun r t => Q r t ∧ G t)
      unfold wbX11_linkOf_1 at hR ⊢
      exact ⟨fun c1 => ⟨(hR.1 c1), g⟩, fun c2 => ⟨(hR.2 c2).1, fun x3 e3 => ⟨((hR.2 c2).2 x3 e3).1, fun x4 e4 => fun x5 e5 => ⟨((((hR.2 c2).2 x3 e3).2 x4 e4) x5 e5).1, fun x6 e6 => ⟨(((((hR.2 c2).2 x3 e3).2 x4 e4) x5 e5).2 x6 e6).1, fun x7 e7 => fun x8 e8 => ⟨fun c9 => ih.2.2.1 _ _ _ g ((((((((hR.2 c2).2 x3 e3).2 x4 e4) x5 e5).2 x6 e6).2 x7 e7) x8 e8).1 c9), fun c10 => ih.2.2.1 _ _ _ g ((((((((hR.2 c2).2 x3 e3).2 x4 e4) x5 e5).2 x6 e6).2 x7 e7) x8 e8).2 c10)⟩⟩⟩⟩⟩⟩
    · intro t li lj g hR
      have hR : wbX11_linkOf_2 (wpX11_linkOf k) k t li lj Q := hR
      show wbX11_linkOf_2 (wpX11_linkOf k) k t li lj (fun r t => Q r t ∧ G t)
      unfold wbX11_linkOf_2 at hR ⊢
      exact vtX11_number hk g hR (fun y1_0 y1_1 h1 g1 => ⟨fun c2 => ih.2.2.2 _ _ _ g1 (h1.1 c2), fun c3 => vtX11_isThere hk g1 (h1.2 c3) (fun y4_0 y4_1 h4 g4 => ⟨fun c5 => ih.2.2.2 _ _ _ g4 (h4.1 c5), fun c6 => vtX11_isThere hk g4 (h4.2 c6) (fun y7_0 y7_1 h7 g7 => ⟨fun c8 => ih.2.2.2 _ _ _ g7 (h7.1 c8), fun c9 => wcX11_bit (h7.2 c9) (fun y10_0 h10 => fun x11 e11 => ih.2.2.2 _ _ _ g7 (h10 x11 e11))⟩)⟩)⟩)
    · intro t li lj g hR
      have hR : wbX11_linkOf_3 (wpX11_linkOf k) k t li lj Q := hR
      show wbX11_linkOf_3 (wpX11_linkOf k) k t li lj (fun r t => Q r t ∧ G t)
      unfold wbX11_linkOf_3 at hR ⊢
      exact fun x1 e1 => ih.2.1 _ _ _ g (hR x1 e1)
theorem vgX11_linkOf {G : XT → Prop} {k : Nat} {t : XT} {a1 : Int32} {Q : Int64 → XT → Prop} (hk : kpA G) (g : G t) (hR : wqX11_linkOf k t a1 Q) : wqX11_linkOf k t a1 (fun r t => Q r t ∧ G t) := (vfX11_linkOf hk Q k).1 t _ _ g hR
theorem vtX11_linkOf {G : XT → Prop} {k : Nat} {t : XT} {a1 : Int32} {Q Q' : Int64 → XT → Prop} (hk : kpA G) (g : G t) (hR : wqX11_linkOf k t a1 Q) (hQ : (∀ r t, Q r t → G t → Q' r t)) : wqX11_linkOf k t a1 Q' := wmX11_linkOf (Nat.le_refl k) (fun r t h => hQ r t h.1 h.2) (vgX11_linkOf hk g hR)
set_option maxHeartbeats 4000000 in
set_option maxRecDepth 100000 in
theorem vfX9_eulerOf {G : XT → Prop} (hk : kpA G) (Q : Int32 → XT → Prop) : ∀ k : Nat, (∀ (t : XT) (li : Nat → Int32) (lj : Nat → Int64), G t → wpX9_eulerOf k 0 t li lj Q → wpX9_eulerOf k 0 t li lj (fun r t => Q r t ∧ G t)) ∧ (∀ (t : XT) (li : Nat → Int32) (lj : Nat → Int64), G t → wpX9_eulerOf k 1 t li lj Q → wpX9_eulerOf k 1 t li lj (fun r t => Q r t ∧ G t)) ∧ (∀ (t : XT) (li : Nat → Int32) (lj : Nat → Int64), G t → wpX9_eulerOf k 2 t li lj Q → wpX9_eulerOf k 2 t li lj (fun r t => Q r t ∧ G t)) := by
  intro k
  induction k with
  | zero => exact ⟨fun _ _ _ _ hR => False.elim hR, fun _ _ _ _ hR => False.elim hR, fun _ _ _ _ hR => False.elim hR⟩
  | succ k ih =>
    refine ⟨?_, ?_, ?_⟩
    · intro t li lj g hR
      have hR : wbX9_eulerOf_0 (wpX9_eulerOf k) k t li lj Q := hR
      show wbX9_eulerOf_0 (wpX9_eulerOf k) k t li lj (fun r t => Q r t ∧ G t)
      unfold wbX9_eulerOf_0 at hR ⊢
      exact ih.2.1 _ _ _ g hR
    · intro t li lj g hR
      have hR : wbX9_eulerOf_1 (wpX9_eulerOf k) k t li lj Q := hR
      show wbX9_eulerOf_1 (wpX9_eulerOf k) k t li lj (fun r t => Q r t ∧ G t)
      unfold wbX9_eulerOf_1 at hR ⊢
      exact ⟨fun c1 => ⟨(hR.1 c1), g⟩, fun c2 => ⟨(hR.2 c2).1, fun x3 e3 => fun x4 e4 => wcJ13_bitCount_95d88 (((hR.2 c2).2 x3 e3) x4 e4) (fun y5_0 h5 => fun x6 e6 => ⟨fun c7 => fun x8 e8 => ih.2.2 _ _ _ g (((h5 x6 e6).1 c7) x8 e8), fun c9 => ih.2.2 _ _ _ g ((h5 x6 e6).2 c9)⟩)⟩⟩
    · intro t li lj g hR
      have hR : wbX9_eulerOf_2 (wpX9_eulerOf k) k t li lj Q := hR
      show wbX9_eulerOf_2 (wpX9_eulerOf k) k t li lj (fun r t => Q r t ∧ G t)
      unfold wbX9_eulerOf_2 at hR ⊢
      exact fun x1 e1 => fun x2 e2 => ih.2.1 _ _ _ g ((hR x1 e1) x2 e2)
theorem vgX9_eulerOf {G : XT → Prop} {k : Nat} {t : XT} {a1 : Int64} {Q : Int32 → XT → Prop} (hk : kpA G) (g : G t) (hR : wqX9_eulerOf k t a1 Q) : wqX9_eulerOf k t a1 (fun r t => Q r t ∧ G t) := (vfX9_eulerOf hk Q k).1 t _ _ g hR
theorem vtX9_eulerOf {G : XT → Prop} {k : Nat} {t : XT} {a1 : Int64} {Q Q' : Int32 → XT → Prop} (hk : kpA G) (g : G t) (hR : wqX9_eulerOf k t a1 Q) (hQ : (∀ r t, Q r t → G t → Q' r t)) : wqX9_eulerOf k t a1 Q' := wmX9_eulerOf (Nat.le_refl k) (fun r t h => hQ r t h.1 h.2) (vgX9_eulerOf hk g hR)
set_option maxHeartbeats 4000000 in
set_option maxRecDepth 100000 in
theorem vfX11_link {G : XT → Prop} (hk : kpA G) (Q : Int32 → XT → Prop) : ∀ k : Nat, (∀ (t : XT) (li : Nat → Int32) (lj : Nat → Int64), G t → wpX11_link k 0 t li lj Q → wpX11_link k 0 t li lj (fun r t => Q r t ∧ G t)) ∧ (∀ (t : XT) (li : Nat → Int32) (lj : Nat → Int64), G t → wpX11_link k 1 t li lj Q → wpX11_link k 1 t li lj (fun r t => Q r t ∧ G t)) := by
  intro k
  induction k with
  | zero => exact ⟨fun _ _ _ _ hR => False.elim hR, fun _ _ _ _ hR => False.elim hR⟩
  | succ k ih =>
    refine ⟨?_, ?_⟩
    · intro t li lj g hR
      have hR : wbX11_link_0 (wpX11_link k) k t li lj Q := hR
      show wbX11_link_0 (wpX11_link k) k t li lj (fun r t => Q r t ∧ G t)
      unfold wbX11_link_0 at hR ⊢
      exact vtX11_isThere hk g hR (fun y1_0 y1_1 h1 g1 => ⟨fun c2 => ih.2 _ _ _ g1 (h1.1 c2), fun c3 => ⟨fun c4 => ih.2 _ _ _ g1 ((h1.2 c3).1 c4), fun c5 => ⟨fun c6 => vtX11_linkOf hk g1 (((h1.2 c3).2 c5).1 c6) (fun y7_0 y7_1 h7 g7 => ⟨fun c8 => vtX9_eulerOf hk g7 (h7.1 c8) (fun y9_0 y9_1 h9 g9 => ⟨h9, g9⟩), fun c10 => wcJ13_bitCount_95d88 (h7.2 c10) (fun y11_0 h11 => ⟨h11, g7⟩)⟩), fun c12 => ih.2 _ _ _ g1 (((h1.2 c3).2 c5).2 c12)⟩⟩⟩)
    · intro t li lj g hR
      have hR : wbX11_link_1 (wpX11_link k) k t li lj Q := hR
      show wbX11_link_1 (wpX11_link k) k t li lj (fun r t => Q r t ∧ G t)
      unfold wbX11_link_1 at hR ⊢
      exact ⟨hR, g⟩
theorem vgX11_link {G : XT → Prop} {k : Nat} {t : XT} {a1 : Int32} {a2 : Int32} {Q : Int32 → XT → Prop} (hk : kpA G) (g : G t) (hR : wqX11_link k t a1 a2 Q) : wqX11_link k t a1 a2 (fun r t => Q r t ∧ G t) := (vfX11_link hk Q k).1 t _ _ g hR
theorem vtX11_link {G : XT → Prop} {k : Nat} {t : XT} {a1 : Int32} {a2 : Int32} {Q Q' : Int32 → XT → Prop} (hk : kpA G) (g : G t) (hR : wqX11_link k t a1 a2 Q) (hQ : (∀ r t, Q r t → G t → Q' r t)) : wqX11_link k t a1 a2 Q' := wmX11_link (Nat.le_refl k) (fun r t h => hQ r t h.1 h.2) (vgX11_link hk g hR)
set_option maxHeartbeats 4000000 in
set_option maxRecDepth 100000 in
theorem vfX11_roomAbove {G : XT → Prop} (hk : kpA G) (Q : Int32 → XT → Prop) : ∀ k : Nat, (∀ (t : XT) (li : Nat → Int32) (lj : Nat → Int64), G t → wpX11_roomAbove k 0 t li lj Q → wpX11_roomAbove k 0 t li lj (fun r t => Q r t ∧ G t)) ∧ (∀ (t : XT) (li : Nat → Int32) (lj : Nat → Int64), G t → wpX11_roomAbove k 1 t li lj Q → wpX11_roomAbove k 1 t li lj (fun r t => Q r t ∧ G t)) ∧ (∀ (t : XT) (li : Nat → Int32) (lj : Nat → Int64), G t → wpX11_roomAbove k 2 t li lj Q → wpX11_roomAbove k 2 t li lj (fun r t => Q r t ∧ G t)) := by
  intro k
  induction k with
  | zero => exact ⟨fun _ _ _ _ hR => False.elim hR, fun _ _ _ _ hR => False.elim hR, fun _ _ _ _ hR => False.elim hR⟩
  | succ k ih =>
    refine ⟨?_, ?_, ?_⟩
    · intro t li lj g hR
      have hR : wbX11_roomAbove_0 (wpX11_roomAbove k) k t li lj Q := hR
      show wbX11_roomAbove_0 (wpX11_roomAbove k) k t li lj (fun r t => Q r t ∧ G t)
      unfold wbX11_roomAbove_0 at hR ⊢
      exact fun x1 e1 => ih.2.1 _ _ _ g (hR x1 e1)
    · intro t li lj g hR
      have hR : wbX11_roomAbove_1 (wpX11_roomAbove k) k t li lj Q := hR
      show wbX11_roomAbove_1 (wpX11_roomAbove k) k t li lj (fun r t => Q r t ∧ G t)
      unfold wbX11_roomAbove_1 at hR ⊢
      exact ⟨fun c1 => ⟨(hR.1 c1), g⟩, fun c2 => wcX11_isIn (hR.2 c2) (fun y3_0 h3 => ⟨fun c4 => ih.2.2 _ _ _ g (h3.1 c4), fun c5 => vtX6_staysAcyclic hk g (h3.2 c5) (fun y6_0 y6_1 h6 g6 => ⟨fun c7 => ih.2.2 _ _ _ g6 (h6.1 c7), fun c8 => fun x9 e9 => ih.2.2 _ _ _ g6 ((h6.2 c8) x9 e9)⟩)⟩)⟩
    · intro t li lj g hR
      have hR : wbX11_roomAbove_2 (wpX11_roomAbove k) k t li lj Q := hR
      show wbX11_roomAbove_2 (wpX11_roomAbove k) k t li lj (fun r t => Q r t ∧ G t)
      unfold wbX11_roomAbove_2 at hR ⊢
      exact fun x1 e1 => ih.2.1 _ _ _ g (hR x1 e1)
theorem vgX11_roomAbove {G : XT → Prop} {k : Nat} {t : XT} {a1 : Int32} {a2 : Int64} {Q : Int32 → XT → Prop} (hk : kpA G) (g : G t) (hR : wqX11_roomAbove k t a1 a2 Q) : wqX11_roomAbove k t a1 a2 (fun r t => Q r t ∧ G t) := (vfX11_roomAbove hk Q k).1 t _ _ g hR
theorem vtX11_roomAbove {G : XT → Prop} {k : Nat} {t : XT} {a1 : Int32} {a2 : Int64} {Q Q' : Int32 → XT → Prop} (hk : kpA G) (g : G t) (hR : wqX11_roomAbove k t a1 a2 Q) (hQ : (∀ r t, Q r t → G t → Q' r t)) : wqX11_roomAbove k t a1 a2 Q' := wmX11_roomAbove (Nat.le_refl k) (fun r t h => hQ r t h.1 h.2) (vgX11_roomAbove hk g hR)
set_option maxHeartbeats 4000000 in
set_option maxRecDepth 100000 in
theorem vfX11_room {G : XT → Prop} (hk : kpA G) (Q : Int32 → XT → Prop) : ∀ k : Nat, (∀ (t : XT) (li : Nat → Int32) (lj : Nat → Int64), G t → wpX11_room k 0 t li lj Q → wpX11_room k 0 t li lj (fun r t => Q r t ∧ G t)) ∧ (∀ (t : XT) (li : Nat → Int32) (lj : Nat → Int64), G t → wpX11_room k 1 t li lj Q → wpX11_room k 1 t li lj (fun r t => Q r t ∧ G t)) ∧ (∀ (t : XT) (li : Nat → Int32) (lj : Nat → Int64), G t → wpX11_room k 2 t li lj Q → wpX11_room k 2 t li lj (fun r t => Q r t ∧ G t)) := by
  intro k
  induction k with
  | zero => exact ⟨fun _ _ _ _ hR => False.elim hR, fun _ _ _ _ hR => False.elim hR, fun _ _ _ _ hR => False.elim hR⟩
  | succ k ih =>
    refine ⟨?_, ?_, ?_⟩
    · intro t li lj g hR
      have hR : wbX11_room_0 (wpX11_room k) k t li lj Q := hR
      show wbX11_room_0 (wpX11_room k) k t li lj (fun r t => Q r t ∧ G t)
      unfold wbX11_room_0 at hR ⊢
      exact wcX11_isDim hR (fun y1_0 h1 => ⟨fun c2 => vtX6_unpaired hk g (h1.1 c2) (fun y3_0 y3_1 h3 g3 => ih.2.1 _ _ _ g3 h3), fun c4 => ⟨(h1.2 c4), g⟩⟩)
    · intro t li lj g hR
      have hR : wbX11_room_1 (wpX11_room k) k t li lj Q := hR
      show wbX11_room_1 (wpX11_room k) k t li lj (fun r t => Q r t ∧ G t)
      unfold wbX11_room_1 at hR ⊢
      exact ⟨fun c1 => ⟨(hR.1 c1), g⟩, fun c2 => wcX11_isIn (hR.2 c2) (fun y3_0 h3 => ⟨fun c4 => ih.2.2 _ _ _ g (h3.1 c4), fun c5 => ⟨(h3.2 c5).1, fun x6 e6 => ⟨fun c7 => ih.2.2 _ _ _ g (((h3.2 c5).2 x6 e6).1 c7), fun c8 => ⟨(((h3.2 c5).2 x6 e6).2 c8).1, fun x9 e9 => fun x10 e10 => vtX11_roomAbove hk g (((((h3.2 c5).2 x6 e6).2 c8).2 x9 e9) x10 e10) (fun y11_0 y11_1 h11 g11 => fun x12 e12 => ih.2.2 _ _ _ g11 (h11 x12 e12))⟩⟩⟩⟩)⟩
    · intro t li lj g hR
      have hR : wbX11_room_2 (wpX11_room k) k t li lj Q := hR
      show wbX11_room_2 (wpX11_room k) k t li lj (fun r t => Q r t ∧ G t)
      unfold wbX11_room_2 at hR ⊢
      exact fun x1 e1 => ih.2.1 _ _ _ g (hR x1 e1)
theorem vgX11_room {G : XT → Prop} {k : Nat} {t : XT} {a1 : Int32} {Q : Int32 → XT → Prop} (hk : kpA G) (g : G t) (hR : wqX11_room k t a1 Q) : wqX11_room k t a1 (fun r t => Q r t ∧ G t) := (vfX11_room hk Q k).1 t _ _ g hR
theorem vtX11_room {G : XT → Prop} {k : Nat} {t : XT} {a1 : Int32} {Q Q' : Int32 → XT → Prop} (hk : kpA G) (g : G t) (hR : wqX11_room k t a1 Q) (hQ : (∀ r t, Q r t → G t → Q' r t)) : wqX11_room k t a1 Q' := wmX11_room (Nat.le_refl k) (fun r t h => hQ r t h.1 h.2) (vgX11_room hk g hR)
set_option maxHeartbeats 4000000 in
set_option maxRecDepth 100000 in
theorem vfX11_draws {G : XT → Prop} (hk : kpA G) (Q : Int32 → XT → Prop) : ∀ k : Nat, (∀ (t : XT) (li : Nat → Int32) (lj : Nat → Int64), G t → wpX11_draws k 0 t li lj Q → wpX11_draws k 0 t li lj (fun r t => Q r t ∧ G t)) := by
  intro k
  induction k with
  | zero => exact fun _ _ _ _ hR => False.elim hR
  | succ k ih =>
    intro t li lj g hR
    have hR : wbX11_draws_0 (wpX11_draws k) k t li lj Q := hR
    show wbX11_draws_0 (wpX11_draws k) k t li lj (fun r t => Q r t ∧ G t)
    unfold wbX11_draws_0 at hR ⊢
    exact ⟨fun c1 => fun x2 e2 => have g2 : G x2 := (by rw [e2]; exact hk.1 _ _ _ g); ⟨((hR.1 c1) x2 e2), g2⟩, fun c3 => ⟨(hR.2 c3), g⟩⟩
theorem vgX11_draws {G : XT → Prop} {k : Nat} {t : XT} {a1 : Int32} {Q : Int32 → XT → Prop} (hk : kpA G) (g : G t) (hR : wqX11_draws k t a1 Q) : wqX11_draws k t a1 (fun r t => Q r t ∧ G t) := (vfX11_draws hk Q k) t _ _ g hR
theorem vtX11_draws {G : XT → Prop} {k : Nat} {t : XT} {a1 : Int32} {Q Q' : Int32 → XT → Prop} (hk : kpA G) (g : G t) (hR : wqX11_draws k t a1 Q) (hQ : (∀ r t, Q r t → G t → Q' r t)) : wqX11_draws k t a1 Q' := wmX11_draws (Nat.le_refl k) (fun r t h => hQ r t h.1 h.2) (vgX11_draws hk g hR)
set_option maxHeartbeats 4000000 in
set_option maxRecDepth 100000 in
theorem vfX9_greatestDim {G : XT → Prop} (hk : kpA G) (Q : Int32 → XT → Prop) : ∀ k : Nat, (∀ (t : XT) (li : Nat → Int32) (lj : Nat → Int64), G t → wpX9_greatestDim k 0 t li lj Q → wpX9_greatestDim k 0 t li lj (fun r t => Q r t ∧ G t)) ∧ (∀ (t : XT) (li : Nat → Int32) (lj : Nat → Int64), G t → wpX9_greatestDim k 1 t li lj Q → wpX9_greatestDim k 1 t li lj (fun r t => Q r t ∧ G t)) ∧ (∀ (t : XT) (li : Nat → Int32) (lj : Nat → Int64), G t → wpX9_greatestDim k 2 t li lj Q → wpX9_greatestDim k 2 t li lj (fun r t => Q r t ∧ G t)) := by
  intro k
  induction k with
  | zero => exact ⟨fun _ _ _ _ hR => False.elim hR, fun _ _ _ _ hR => False.elim hR, fun _ _ _ _ hR => False.elim hR⟩
  | succ k ih =>
    refine ⟨?_, ?_, ?_⟩
    · intro t li lj g hR
      have hR : wbX9_greatestDim_0 (wpX9_greatestDim k) k t li lj Q := hR
      show wbX9_greatestDim_0 (wpX9_greatestDim k) k t li lj (fun r t => Q r t ∧ G t)
      unfold wbX9_greatestDim_0 at hR ⊢
      exact ih.2.1 _ _ _ g hR
    · intro t li lj g hR
      have hR : wbX9_greatestDim_1 (wpX9_greatestDim k) k t li lj Q := hR
      show wbX9_greatestDim_1 (wpX9_greatestDim k) k t li lj (fun r t => Q r t ∧ G t)
      unfold wbX9_greatestDim_1 at hR ⊢
      exact ⟨fun c1 => ⟨(hR.1 c1), g⟩, fun c2 => ⟨(hR.2 c2).1, fun x3 e3 => fun x4 e4 => fun x5 e5 => ⟨fun c6 => ih.2.2 _ _ _ g (((((hR.2 c2).2 x3 e3) x4 e4) x5 e5).1 c6), fun c7 => ih.2.2 _ _ _ g (((((hR.2 c2).2 x3 e3) x4 e4) x5 e5).2 c7)⟩⟩⟩
    · intro t li lj g hR
      have hR : wbX9_greatestDim_2 (wpX9_greatestDim k) k t li lj Q := hR
      show wbX9_greatestDim_2 (wpX9_greatestDim k) k t li lj (fun r t => Q r t ∧ G t)
      unfold wbX9_greatestDim_2 at hR ⊢
      exact fun x1 e1 => ih.2.1 _ _ _ g (hR x1 e1)
theorem vgX9_greatestDim {G : XT → Prop} {k : Nat} {t : XT} {a1 : Int64} {Q : Int32 → XT → Prop} (hk : kpA G) (g : G t) (hR : wqX9_greatestDim k t a1 Q) : wqX9_greatestDim k t a1 (fun r t => Q r t ∧ G t) := (vfX9_greatestDim hk Q k).1 t _ _ g hR
theorem vtX9_greatestDim {G : XT → Prop} {k : Nat} {t : XT} {a1 : Int64} {Q Q' : Int32 → XT → Prop} (hk : kpA G) (g : G t) (hR : wqX9_greatestDim k t a1 Q) (hQ : (∀ r t, Q r t → G t → Q' r t)) : wqX9_greatestDim k t a1 Q' := wmX9_greatestDim (Nat.le_refl k) (fun r t h => hQ r t h.1 h.2) (vgX9_greatestDim hk g hR)
set_option maxHeartbeats 4000000 in
set_option maxRecDepth 100000 in
theorem vfX7_greatest {G : XT → Prop} (hk : kpA G) (Q : Int64 → XT → Prop) : ∀ k : Nat, (∀ (t : XT) (li : Nat → Int32) (lj : Nat → Int64), G t → wpX7_greatest k 0 t li lj Q → wpX7_greatest k 0 t li lj (fun r t => Q r t ∧ G t)) := by
  intro k
  induction k with
  | zero => exact fun _ _ _ _ hR => False.elim hR
  | succ k ih =>
    intro t li lj g hR
    have hR : wbX7_greatest_0 (wpX7_greatest k) k t li lj Q := hR
    show wbX7_greatest_0 (wpX7_greatest k) k t li lj (fun r t => Q r t ∧ G t)
    unfold wbX7_greatest_0 at hR ⊢
    exact vtX9_greatestDim hk g hR (fun y1_0 y1_1 h1 g1 => wcX11_isDim h1 (fun y2_0 h2 => ⟨fun c3 => ⟨(h2.1 c3), g1⟩, fun c4 => ⟨(h2.2 c4).1, fun x5 e5 => fun x6 e6 => ⟨(((h2.2 c4).2 x5 e5) x6 e6), g1⟩⟩⟩))
theorem vgX7_greatest {G : XT → Prop} {k : Nat} {t : XT}  {Q : Int64 → XT → Prop} (hk : kpA G) (g : G t) (hR : wqX7_greatest k t  Q) : wqX7_greatest k t  (fun r t => Q r t ∧ G t) := (vfX7_greatest hk Q k) t _ _ g hR
theorem vtX7_greatest {G : XT → Prop} {k : Nat} {t : XT}  {Q Q' : Int64 → XT → Prop} (hk : kpA G) (g : G t) (hR : wqX7_greatest k t  Q) (hQ : (∀ r t, Q r t → G t → Q' r t)) : wqX7_greatest k t  Q' := wmX7_greatest (Nat.le_refl k) (fun r t h => hQ r t h.1 h.2) (vgX7_greatest hk g hR)
set_option maxHeartbeats 4000000 in
set_option maxRecDepth 100000 in
theorem vfX11_drawFrom {G : XT → Prop} (hk : kpA G) (Q : Int32 → XT → Prop) : ∀ k : Nat, (∀ (t : XT) (li : Nat → Int32) (lj : Nat → Int64), G t → wpX11_drawFrom k 0 t li lj Q → wpX11_drawFrom k 0 t li lj (fun r t => Q r t ∧ G t)) := by
  intro k
  induction k with
  | zero => exact fun _ _ _ _ hR => False.elim hR
  | succ k ih =>
    intro t li lj g hR
    have hR : wbX11_drawFrom_0 (wpX11_drawFrom k) k t li lj Q := hR
    show wbX11_drawFrom_0 (wpX11_drawFrom k) k t li lj (fun r t => Q r t ∧ G t)
    unfold wbX11_drawFrom_0 at hR ⊢
    exact wcJ13_bitCount_95d88 hR (fun y1_0 h1 => fun x2 e2 => fun x3 e3 => fun x4 e4 => ⟨(((h1 x2 e2) x3 e3) x4 e4).1, fun x5 e5 => fun x6 e6 => fun x7 e7 => have g7 : G x7 := (by rw [e7]; exact hk.1 _ _ _ g); ⟨fun c8 => ⟨(((((((h1 x2 e2) x3 e3) x4 e4).2 x5 e5) x6 e6) x7 e7).1 c8), g7⟩, fun c9 => ⟨(((((((h1 x2 e2) x3 e3) x4 e4).2 x5 e5) x6 e6) x7 e7).2 c9).1, fun x10 e10 => ⟨((((((((h1 x2 e2) x3 e3) x4 e4).2 x5 e5) x6 e6) x7 e7).2 c9).2 x10 e10).1, fun x11 e11 => wcX11_nth (((((((((h1 x2 e2) x3 e3) x4 e4).2 x5 e5) x6 e6) x7 e7).2 c9).2 x10 e10).2 x11 e11) (fun y12_0 h12 => ⟨h12, g7⟩)⟩⟩⟩⟩)
theorem vgX11_drawFrom {G : XT → Prop} {k : Nat} {t : XT} {a1 : Int64} {Q : Int32 → XT → Prop} (hk : kpA G) (g : G t) (hR : wqX11_drawFrom k t a1 Q) : wqX11_drawFrom k t a1 (fun r t => Q r t ∧ G t) := (vfX11_drawFrom hk Q k) t _ _ g hR
theorem vtX11_drawFrom {G : XT → Prop} {k : Nat} {t : XT} {a1 : Int64} {Q Q' : Int32 → XT → Prop} (hk : kpA G) (g : G t) (hR : wqX11_drawFrom k t a1 Q) (hQ : (∀ r t, Q r t → G t → Q' r t)) : wqX11_drawFrom k t a1 Q' := wmX11_drawFrom (Nat.le_refl k) (fun r t h => hQ r t h.1 h.2) (vgX11_drawFrom hk g hR)
set_option maxHeartbeats 4000000 in
set_option maxRecDepth 100000 in
theorem vfX11_peelByDraws {G : XT → Prop} (hk : kpA G) (Q : Int32 → XT → Prop) : ∀ k : Nat, (∀ (t : XT) (li : Nat → Int32) (lj : Nat → Int64), G t → wpX11_peelByDraws k 0 t li lj Q → wpX11_peelByDraws k 0 t li lj (fun r t => Q r t ∧ G t)) ∧ (∀ (t : XT) (li : Nat → Int32) (lj : Nat → Int64), G t → wpX11_peelByDraws k 1 t li lj Q → wpX11_peelByDraws k 1 t li lj (fun r t => Q r t ∧ G t)) ∧ (∀ (t : XT) (li : Nat → Int32) (lj : Nat → Int64), G t → wpX11_peelByDraws k 2 t li lj Q → wpX11_peelByDraws k 2 t li lj (fun r t => Q r t ∧ G t)) ∧ (∀ (t : XT) (li : Nat → Int32) (lj : Nat → Int64), G t → wpX11_peelByDraws k 3 t li lj Q → wpX11_peelByDraws k 3 t li lj (fun r t => Q r t ∧ G t)) := by
  intro k
  induction k with
  | zero => exact ⟨fun _ _ _ _ hR => False.elim hR, fun _ _ _ _ hR => False.elim hR, fun _ _ _ _ hR => False.elim hR, fun _ _ _ _ hR => False.elim hR⟩
  | succ k ih =>
    refine ⟨?_, ?_, ?_, ?_⟩
    · intro t li lj g hR
      have hR : wbX11_peelByDraws_0 (wpX11_peelByDraws k) k t li lj Q := hR
      show wbX11_peelByDraws_0 (wpX11_peelByDraws k) k t li lj (fun r t => Q r t ∧ G t)
      unfold wbX11_peelByDraws_0 at hR ⊢
      exact vtX7_begin hk g hR (fun y1_0 h1 g1 => ih.2.1 _ _ _ g1 h1)
    · intro t li lj g hR
      have hR : wbX11_peelByDraws_1 (wpX11_peelByDraws k) k t li lj Q := hR
      show wbX11_peelByDraws_1 (wpX11_peelByDraws k) k t li lj (fun r t => Q r t ∧ G t)
      unfold wbX11_peelByDraws_1 at hR ⊢
      exact ⟨fun c1 => ih.2.2.2 _ _ _ g (hR.1 c1), fun c2 => fun x3 e3 => ⟨fun c4 => ih.2.2.2 _ _ _ g (((hR.2 c2) x3 e3).1 c4), fun c5 => fun x6 e6 => ⟨fun c7 => vtX7_greatest hk g (((((hR.2 c2) x3 e3).2 c5) x6 e6).1 c7) (fun y8_0 y8_1 h8 g8 => vtX11_drawFrom hk g8 h8 (fun y9_0 y9_1 h9 g9 => vtX7_close hk g9 h9 (fun y10_0 h10 g10 => fun x11 e11 => ih.2.2.1 _ _ _ g10 (h10 x11 e11)))), fun c12 => vtX11_drawFrom hk g (((((hR.2 c2) x3 e3).2 c5) x6 e6).2 c12) (fun y13_0 y13_1 h13 g13 => vtX7_above hk g13 h13 (fun y14_0 y14_1 h14 g14 => vtX7_close hk g14 h14 (fun y15_0 h15 g15 => vtX7_close hk g15 h15 (fun y16_0 h16 g16 => ih.2.2.1 _ _ _ g16 h16))))⟩⟩⟩
    · intro t li lj g hR
      have hR : wbX11_peelByDraws_2 (wpX11_peelByDraws k) k t li lj Q := hR
      show wbX11_peelByDraws_2 (wpX11_peelByDraws k) k t li lj (fun r t => Q r t ∧ G t)
      unfold wbX11_peelByDraws_2 at hR ⊢
      exact fun x1 e1 => ih.2.1 _ _ _ g (hR x1 e1)
    · intro t li lj g hR
      have hR : wbX11_peelByDraws_3 (wpX11_peelByDraws k) k t li lj Q := hR
      show wbX11_peelByDraws_3 (wpX11_peelByDraws k) k t li lj (fun r t => Q r t ∧ G t)
      unfold wbX11_peelByDraws_3 at hR ⊢
      exact ⟨hR, g⟩
theorem vgX11_peelByDraws {G : XT → Prop} {k : Nat} {t : XT}  {Q : Int32 → XT → Prop} (hk : kpA G) (g : G t) (hR : wqX11_peelByDraws k t  Q) : wqX11_peelByDraws k t  (fun r t => Q r t ∧ G t) := (vfX11_peelByDraws hk Q k).1 t _ _ g hR
theorem vtX11_peelByDraws {G : XT → Prop} {k : Nat} {t : XT}  {Q Q' : Int32 → XT → Prop} (hk : kpA G) (g : G t) (hR : wqX11_peelByDraws k t  Q) (hQ : (∀ r t, Q r t → G t → Q' r t)) : wqX11_peelByDraws k t  Q' := wmX11_peelByDraws (Nat.le_refl k) (fun r t h => hQ r t h.1 h.2) (vgX11_peelByDraws hk g hR)
set_option maxHeartbeats 4000000 in
set_option maxRecDepth 100000 in
theorem vfX11_drawn {G : XT → Prop} (hk : kpA G) (Q : Int32 → XT → Prop) : ∀ k : Nat, (∀ (t : XT) (li : Nat → Int32) (lj : Nat → Int64), G t → wpX11_drawn k 0 t li lj Q → wpX11_drawn k 0 t li lj (fun r t => Q r t ∧ G t)) ∧ (∀ (t : XT) (li : Nat → Int32) (lj : Nat → Int64), G t → wpX11_drawn k 1 t li lj Q → wpX11_drawn k 1 t li lj (fun r t => Q r t ∧ G t)) ∧ (∀ (t : XT) (li : Nat → Int32) (lj : Nat → Int64), G t → wpX11_drawn k 2 t li lj Q → wpX11_drawn k 2 t li lj (fun r t => Q r t ∧ G t)) ∧ (∀ (t : XT) (li : Nat → Int32) (lj : Nat → Int64), G t → wpX11_drawn k 3 t li lj Q → wpX11_drawn k 3 t li lj (fun r t => Q r t ∧ G t)) ∧ (∀ (t : XT) (li : Nat → Int32) (lj : Nat → Int64), G t → wpX11_drawn k 4 t li lj Q → wpX11_drawn k 4 t li lj (fun r t => Q r t ∧ G t)) := by
  intro k
  induction k with
  | zero => exact ⟨fun _ _ _ _ hR => False.elim hR, fun _ _ _ _ hR => False.elim hR, fun _ _ _ _ hR => False.elim hR, fun _ _ _ _ hR => False.elim hR, fun _ _ _ _ hR => False.elim hR⟩
  | succ k ih =>
    refine ⟨?_, ?_, ?_, ?_, ?_⟩
    · intro t li lj g hR
      have hR : wbX11_drawn_0 (wpX11_drawn k) k t li lj Q := hR
      show wbX11_drawn_0 (wpX11_drawn k) k t li lj (fun r t => Q r t ∧ G t)
      unfold wbX11_drawn_0 at hR ⊢
      exact ⟨fun c1 => ih.2.1 _ _ _ g (hR.1 c1), fun c2 => ⟨fun c3 => ih.2.1 _ _ _ g ((hR.2 c2).1 c3), fun c4 => ⟨fun c5 => ih.2.1 _ _ _ g (((hR.2 c2).2 c4).1 c5), fun c6 => ⟨fun c7 => ih.2.1 _ _ _ g ((((hR.2 c2).2 c4).2 c6).1 c7), fun c8 => ⟨fun c9 => ih.2.2.1 _ _ _ g (((((hR.2 c2).2 c4).2 c6).2 c8).1 c9), fun c10 => ih.2.1 _ _ _ g (((((hR.2 c2).2 c4).2 c6).2 c8).2 c10)⟩⟩⟩⟩⟩
    · intro t li lj g hR
      have hR : wbX11_drawn_1 (wpX11_drawn k) k t li lj Q := hR
      show wbX11_drawn_1 (wpX11_drawn k) k t li lj (fun r t => Q r t ∧ G t)
      unfold wbX11_drawn_1 at hR ⊢
      exact ⟨hR, g⟩
    · intro t li lj g hR
      have hR : wbX11_drawn_2 (wpX11_drawn k) k t li lj Q := hR
      show wbX11_drawn_2 (wpX11_drawn k) k t li lj (fun r t => Q r t ∧ G t)
      unfold wbX11_drawn_2 at hR ⊢
      exact ⟨fun c1 => fun x2 e2 => have g2 : G x2 := (by rw [e2]; exact hk.1 _ _ _ g); ⟨fun c3 => ⟨fun c4 => ⟨((((hR.1 c1) x2 e2).1 c3).1 c4), g2⟩, fun c5 => ⟨((((hR.1 c1) x2 e2).1 c3).2 c5), g2⟩⟩, fun c6 => ⟨(((hR.1 c1) x2 e2).2 c6), g2⟩⟩, fun c7 => vtX11_peelByDraws hk g (hR.2 c7) (fun y8_0 y8_1 h8 g8 => fun x9 e9 => ⟨fun c10 => ih.2.2.2.1 _ _ _ g8 ((h8 x9 e9).1 c10), fun c11 => ih.2.2.2.1 _ _ _ g8 ((h8 x9 e9).2 c11)⟩)⟩
    · intro t li lj g hR
      have hR : wbX11_drawn_3 (wpX11_drawn k) k t li lj Q := hR
      show wbX11_drawn_3 (wpX11_drawn k) k t li lj (fun r t => Q r t ∧ G t)
      unfold wbX11_drawn_3 at hR ⊢
      exact ⟨fun c1 => ih.2.2.2.2 _ _ _ g (hR.1 c1), fun c2 => fun x3 e3 => ih.2.2.2.2 _ _ _ g ((hR.2 c2) x3 e3)⟩
    · intro t li lj g hR
      have hR : wbX11_drawn_4 (wpX11_drawn k) k t li lj Q := hR
      show wbX11_drawn_4 (wpX11_drawn k) k t li lj (fun r t => Q r t ∧ G t)
      unfold wbX11_drawn_4 at hR ⊢
      exact fun x1 e1 => ih.2.2.1 _ _ _ g (hR x1 e1)
theorem vgX11_drawn {G : XT → Prop} {k : Nat} {t : XT} {a1 : Int32} {a2 : Int32} {Q : Int32 → XT → Prop} (hk : kpA G) (g : G t) (hR : wqX11_drawn k t a1 a2 Q) : wqX11_drawn k t a1 a2 (fun r t => Q r t ∧ G t) := (vfX11_drawn hk Q k).1 t _ _ g hR
theorem vtX11_drawn {G : XT → Prop} {k : Nat} {t : XT} {a1 : Int32} {a2 : Int32} {Q Q' : Int32 → XT → Prop} (hk : kpA G) (g : G t) (hR : wqX11_drawn k t a1 a2 Q) (hQ : (∀ r t, Q r t → G t → Q' r t)) : wqX11_drawn k t a1 a2 Q' := wmX11_drawn (Nat.le_refl k) (fun r t h => hQ r t h.1 h.2) (vgX11_drawn hk g hR)
