set_option maxHeartbeats 4000000 in
set_option maxRecDepth 100000 in
theorem qfX12_draws {G : XT → Prop} (hk : kpQ G) (Q : Int32 → XT → Prop) : ∀ k : Nat, (∀ (t : XT) (li : Nat → Int32) (lj : Nat → Int64), G t → wpX12_draws k 0 t li lj Q → wpX12_draws k 0 t li lj (fun r t => Q r t ∧ G t)) := by
  intro k
  induction k with
  | zero => exact fun _ _ _ _ hR => False.elim hR
  | succ k ih =>
    intro t li lj g hR
    have hR : wbX12_draws_0 (wpX12_draws k) k t li lj Q := hR
    show wbX12_draws_0 (wpX12_draws k) k t li lj (fun r t => Q r t ∧ G t)
    unfold wbX12_draws_0 at hR ⊢
    exact ⟨fun c1 => fun x2 e2 => have g2 : G x2 := (by rw [e2]; exact hk.1 _ _ _ (by decide) g); ⟨((hR.1 c1) x2 e2), g2⟩, fun c3 => ⟨(hR.2 c3), g⟩⟩
theorem qgX12_draws {G : XT → Prop} {k : Nat} {t : XT} {a1 : Int32} {Q : Int32 → XT → Prop} (hk : kpQ G) (g : G t) (hR : wqX12_draws k t a1 Q) : wqX12_draws k t a1 (fun r t => Q r t ∧ G t) := (qfX12_draws hk Q k) t _ _ g hR
theorem qtX12_draws {G : XT → Prop} {k : Nat} {t : XT} {a1 : Int32} {Q Q' : Int32 → XT → Prop} (hk : kpQ G) (g : G t) (hR : wqX12_draws k t a1 Q) (hQ : (∀ r t, Q r t → G t → Q' r t)) : wqX12_draws k t a1 Q' := wmX12_draws (Nat.le_refl k) (fun r t h => hQ r t h.1 h.2) (qgX12_draws hk g hR)
set_option maxHeartbeats 4000000 in
set_option maxRecDepth 100000 in
theorem qfX12_openDim {G : XT → Prop} (hk : kpQ G) (Q : Int32 → XT → Prop) : ∀ k : Nat, (∀ (t : XT) (li : Nat → Int32) (lj : Nat → Int64), G t → wpX12_openDim k 0 t li lj Q → wpX12_openDim k 0 t li lj (fun r t => Q r t ∧ G t)) ∧ (∀ (t : XT) (li : Nat → Int32) (lj : Nat → Int64), G t → wpX12_openDim k 1 t li lj Q → wpX12_openDim k 1 t li lj (fun r t => Q r t ∧ G t)) ∧ (∀ (t : XT) (li : Nat → Int32) (lj : Nat → Int64), G t → wpX12_openDim k 2 t li lj Q → wpX12_openDim k 2 t li lj (fun r t => Q r t ∧ G t)) := by
  intro k
  induction k with
  | zero => exact ⟨fun _ _ _ _ hR => False.elim hR, fun _ _ _ _ hR => False.elim hR, fun _ _ _ _ hR => False.elim hR⟩
  | succ k ih =>
    refine ⟨?_, ?_, ?_⟩
    · intro t li lj g hR
      have hR : wbX12_openDim_0 (wpX12_openDim k) k t li lj Q := hR
      show wbX12_openDim_0 (wpX12_openDim k) k t li lj (fun r t => Q r t ∧ G t)
      unfold wbX12_openDim_0 at hR ⊢
      exact ih.2.1 _ _ _ g hR
    · intro t li lj g hR
      have hR : wbX12_openDim_1 (wpX12_openDim k) k t li lj Q := hR
      show wbX12_openDim_1 (wpX12_openDim k) k t li lj (fun r t => Q r t ∧ G t)
      unfold wbX12_openDim_1 at hR ⊢
      exact ⟨fun c1 => ⟨(hR.1 c1), g⟩, fun c2 => ⟨(hR.2 c2).1, fun x3 e3 => ⟨fun c4 => ih.2.2 _ _ _ g (((hR.2 c2).2 x3 e3).1 c4), fun c5 => qtX12_dimOf hk g (((hR.2 c2).2 x3 e3).2 c5) (fun y6_0 y6_1 h6 g6 => fun x7 e7 => ih.2.2 _ _ _ g6 (h6 x7 e7))⟩⟩⟩
    · intro t li lj g hR
      have hR : wbX12_openDim_2 (wpX12_openDim k) k t li lj Q := hR
      show wbX12_openDim_2 (wpX12_openDim k) k t li lj (fun r t => Q r t ∧ G t)
      unfold wbX12_openDim_2 at hR ⊢
      exact fun x1 e1 => ih.2.1 _ _ _ g (hR x1 e1)
theorem qgX12_openDim {G : XT → Prop} {k : Nat} {t : XT}  {Q : Int32 → XT → Prop} (hk : kpQ G) (g : G t) (hR : wqX12_openDim k t  Q) : wqX12_openDim k t  (fun r t => Q r t ∧ G t) := (qfX12_openDim hk Q k).1 t _ _ g hR
theorem qtX12_openDim {G : XT → Prop} {k : Nat} {t : XT}  {Q Q' : Int32 → XT → Prop} (hk : kpQ G) (g : G t) (hR : wqX12_openDim k t  Q) (hQ : (∀ r t, Q r t → G t → Q' r t)) : wqX12_openDim k t  Q' := wmX12_openDim (Nat.le_refl k) (fun r t h => hQ r t h.1 h.2) (qgX12_openDim hk g hR)
set_option maxHeartbeats 4000000 in
set_option maxRecDepth 100000 in
theorem qfX12_laysChoices {G : XT → Prop} (hk : kpQ G) (Q : Int32 → XT → Prop) : ∀ k : Nat, (∀ (t : XT) (li : Nat → Int32) (lj : Nat → Int64), G t → wpX12_laysChoices k 0 t li lj Q → wpX12_laysChoices k 0 t li lj (fun r t => Q r t ∧ G t)) ∧ (∀ (t : XT) (li : Nat → Int32) (lj : Nat → Int64), G t → wpX12_laysChoices k 1 t li lj Q → wpX12_laysChoices k 1 t li lj (fun r t => Q r t ∧ G t)) ∧ (∀ (t : XT) (li : Nat → Int32) (lj : Nat → Int64), G t → wpX12_laysChoices k 2 t li lj Q → wpX12_laysChoices k 2 t li lj (fun r t => Q r t ∧ G t)) ∧ (∀ (t : XT) (li : Nat → Int32) (lj : Nat → Int64), G t → wpX12_laysChoices k 3 t li lj Q → wpX12_laysChoices k 3 t li lj (fun r t => Q r t ∧ G t)) := by
  intro k
  induction k with
  | zero => exact ⟨fun _ _ _ _ hR => False.elim hR, fun _ _ _ _ hR => False.elim hR, fun _ _ _ _ hR => False.elim hR, fun _ _ _ _ hR => False.elim hR⟩
  | succ k ih =>
    refine ⟨?_, ?_, ?_, ?_⟩
    · intro t li lj g hR
      have hR : wbX12_laysChoices_0 (wpX12_laysChoices k) k t li lj Q := hR
      show wbX12_laysChoices_0 (wpX12_laysChoices k) k t li lj (fun r t => Q r t ∧ G t)
      unfold wbX12_laysChoices_0 at hR ⊢
      exact ih.2.1 _ _ _ g hR
    · intro t li lj g hR
      have hR : wbX12_laysChoices_1 (wpX12_laysChoices k) k t li lj Q := hR
      show wbX12_laysChoices_1 (wpX12_laysChoices k) k t li lj (fun r t => Q r t ∧ G t)
      unfold wbX12_laysChoices_1 at hR ⊢
      exact ⟨fun c1 => ⟨(hR.1 c1), g⟩, fun c2 => ⟨(hR.2 c2).1, fun x3 e3 => ⟨fun c4 => ih.2.2.2 _ _ _ g (((hR.2 c2).2 x3 e3).1 c4), fun c5 => ⟨fun c6 => qtX12_dimOf hk g ((((hR.2 c2).2 x3 e3).2 c5).1 c6) (fun y7_0 y7_1 h7 g7 => ⟨fun c8 => ih.2.2.2 _ _ _ g7 (h7.1 c8), fun c9 => ih.2.2.1 _ _ _ g7 (h7.2 c9)⟩), fun c10 => qtX12_onlyOver hk g ((((hR.2 c2).2 x3 e3).2 c5).2 c10) (fun y11_0 y11_1 h11 g11 => ⟨fun c12 => ih.2.2.2 _ _ _ g11 (h11.1 c12), fun c13 => ih.2.2.1 _ _ _ g11 (h11.2 c13)⟩)⟩⟩⟩⟩
    · intro t li lj g hR
      have hR : wbX12_laysChoices_2 (wpX12_laysChoices k) k t li lj Q := hR
      show wbX12_laysChoices_2 (wpX12_laysChoices k) k t li lj (fun r t => Q r t ∧ G t)
      unfold wbX12_laysChoices_2 at hR ⊢
      exact ⟨hR.1, fun x1 e1 => have g1 : G x1 := (by rw [e1]; exact hk.2.2.1 _ _ _ (by decide) (by decide) (by decide) (by decide) (by decide) g); fun x2 e2 => ih.2.2.2 _ _ _ g1 ((hR.2 x1 e1) x2 e2)⟩
    · intro t li lj g hR
      have hR : wbX12_laysChoices_3 (wpX12_laysChoices k) k t li lj Q := hR
      show wbX12_laysChoices_3 (wpX12_laysChoices k) k t li lj (fun r t => Q r t ∧ G t)
      unfold wbX12_laysChoices_3 at hR ⊢
      exact fun x1 e1 => ih.2.1 _ _ _ g (hR x1 e1)
theorem qgX12_laysChoices {G : XT → Prop} {k : Nat} {t : XT} {a1 : Int32} {a2 : Int32} {Q : Int32 → XT → Prop} (hk : kpQ G) (g : G t) (hR : wqX12_laysChoices k t a1 a2 Q) : wqX12_laysChoices k t a1 a2 (fun r t => Q r t ∧ G t) := (qfX12_laysChoices hk Q k).1 t _ _ g hR
theorem qtX12_laysChoices {G : XT → Prop} {k : Nat} {t : XT} {a1 : Int32} {a2 : Int32} {Q Q' : Int32 → XT → Prop} (hk : kpQ G) (g : G t) (hR : wqX12_laysChoices k t a1 a2 Q) (hQ : (∀ r t, Q r t → G t → Q' r t)) : wqX12_laysChoices k t a1 a2 Q' := wmX12_laysChoices (Nat.le_refl k) (fun r t h => hQ r t h.1 h.2) (qgX12_laysChoices hk g hR)
set_option maxHeartbeats 4000000 in
set_option maxRecDepth 100000 in
theorem qfX12_drawnOf {G : XT → Prop} (hk : kpQ G) (Q : Int32 → XT → Prop) : ∀ k : Nat, (∀ (t : XT) (li : Nat → Int32) (lj : Nat → Int64), G t → wpX12_drawnOf k 0 t li lj Q → wpX12_drawnOf k 0 t li lj (fun r t => Q r t ∧ G t)) := by
  intro k
  induction k with
  | zero => exact fun _ _ _ _ hR => False.elim hR
  | succ k ih =>
    intro t li lj g hR
    have hR : wbX12_drawnOf_0 (wpX12_drawnOf k) k t li lj Q := hR
    show wbX12_drawnOf_0 (wpX12_drawnOf k) k t li lj (fun r t => Q r t ∧ G t)
    unfold wbX12_drawnOf_0 at hR ⊢
    exact fun x1 e1 => fun x2 e2 => fun x3 e3 => ⟨(((hR x1 e1) x2 e2) x3 e3).1, fun x4 e4 => fun x5 e5 => fun x6 e6 => have g6 : G x6 := (by rw [e6]; exact hk.1 _ _ _ (by decide) g); ⟨((((((hR x1 e1) x2 e2) x3 e3).2 x4 e4) x5 e5) x6 e6).1, fun x7 e7 => ⟨(((((((hR x1 e1) x2 e2) x3 e3).2 x4 e4) x5 e5) x6 e6).2 x7 e7).1, fun x8 e8 => ⟨((((((((hR x1 e1) x2 e2) x3 e3).2 x4 e4) x5 e5) x6 e6).2 x7 e7).2 x8 e8), g6⟩⟩⟩⟩
theorem qgX12_drawnOf {G : XT → Prop} {k : Nat} {t : XT} {a1 : Int32} {Q : Int32 → XT → Prop} (hk : kpQ G) (g : G t) (hR : wqX12_drawnOf k t a1 Q) : wqX12_drawnOf k t a1 (fun r t => Q r t ∧ G t) := (qfX12_drawnOf hk Q k) t _ _ g hR
theorem qtX12_drawnOf {G : XT → Prop} {k : Nat} {t : XT} {a1 : Int32} {Q Q' : Int32 → XT → Prop} (hk : kpQ G) (g : G t) (hR : wqX12_drawnOf k t a1 Q) (hQ : (∀ r t, Q r t → G t → Q' r t)) : wqX12_drawnOf k t a1 Q' := wmX12_drawnOf (Nat.le_refl k) (fun r t h => hQ r t h.1 h.2) (qgX12_drawnOf hk g hR)
set_option maxHeartbeats 4000000 in
set_option maxRecDepth 100000 in
theorem qfX12_level {G : XT → Prop} (hk : kpQ G) (Q : Int32 → XT → Prop) : ∀ k : Nat, (∀ (t : XT) (li : Nat → Int32) (lj : Nat → Int64), G t → wpX12_level k 0 t li lj Q → wpX12_level k 0 t li lj (fun r t => Q r t ∧ G t)) ∧ (∀ (t : XT) (li : Nat → Int32) (lj : Nat → Int64), G t → wpX12_level k 1 t li lj Q → wpX12_level k 1 t li lj (fun r t => Q r t ∧ G t)) ∧ (∀ (t : XT) (li : Nat → Int32) (lj : Nat → Int64), G t → wpX12_level k 2 t li lj Q → wpX12_level k 2 t li lj (fun r t => Q r t ∧ G t)) ∧ (∀ (t : XT) (li : Nat → Int32) (lj : Nat → Int64), G t → wpX12_level k 3 t li lj Q → wpX12_level k 3 t li lj (fun r t => Q r t ∧ G t)) ∧ (∀ (t : XT) (li : Nat → Int32) (lj : Nat → Int64), G t → wpX12_level k 4 t li lj Q → wpX12_level k 4 t li lj (fun r t => Q r t ∧ G t)) := by
  intro k
  induction k with
  | zero => exact ⟨fun _ _ _ _ hR => False.elim hR, fun _ _ _ _ hR => False.elim hR, fun _ _ _ _ hR => False.elim hR, fun _ _ _ _ hR => False.elim hR, fun _ _ _ _ hR => False.elim hR⟩
  | succ k ih =>
    refine ⟨?_, ?_, ?_, ?_, ?_⟩
    · intro t li lj g hR
      have hR : wbX12_level_0 (wpX12_level k) k t li lj Q := hR
      show wbX12_level_0 (wpX12_level k) k t li lj (fun r t => Q r t ∧ G t)
      unfold wbX12_level_0 at hR ⊢
      exact ⟨fun c1 => ih.2.1 _ _ _ g (hR.1 c1), fun c2 => wcX12_in (hR.2 c2) (fun y3_0 h3 => ⟨fun c4 => qtX12_laysHeights hk g (h3.1 c4) (fun y5_0 h5 g5 => ih.2.2.1 _ _ _ g5 h5), fun c6 => ih.2.1 _ _ _ g (h3.2 c6)⟩)⟩
    · intro t li lj g hR
      have hR : wbX12_level_1 (wpX12_level k) k t li lj Q := hR
      show wbX12_level_1 (wpX12_level k) k t li lj (fun r t => Q r t ∧ G t)
      unfold wbX12_level_1 at hR ⊢
      exact ⟨hR, g⟩
    · intro t li lj g hR
      have hR : wbX12_level_2 (wpX12_level k) k t li lj Q := hR
      show wbX12_level_2 (wpX12_level k) k t li lj (fun r t => Q r t ∧ G t)
      unfold wbX12_level_2 at hR ⊢
      exact ⟨fun c1 => ⟨(hR.1 c1), g⟩, fun c2 => qtX12_isThere hk g (hR.2 c2) (fun y3_0 y3_1 h3 g3 => ⟨fun c4 => ih.2.2.2.2 _ _ _ g3 (h3.1 c4), fun c5 => ⟨(h3.2 c5).1, fun x6 e6 => ⟨fun c7 => ih.2.2.2.2 _ _ _ g3 (((h3.2 c5).2 x6 e6).1 c7), fun c8 => ⟨fun c9 => qtX12_alternating hk g3 ((((h3.2 c5).2 x6 e6).2 c8).1 c9) (fun y10_0 y10_1 h10 g10 => ih.2.2.2.1 _ _ _ g10 h10), fun c11 => ih.2.2.2.1 _ _ _ g3 ((((h3.2 c5).2 x6 e6).2 c8).2 c11)⟩⟩⟩⟩)⟩
    · intro t li lj g hR
      have hR : wbX12_level_3 (wpX12_level k) k t li lj Q := hR
      show wbX12_level_3 (wpX12_level k) k t li lj (fun r t => Q r t ∧ G t)
      unfold wbX12_level_3 at hR ⊢
      exact fun x1 e1 => ih.2.2.2.2 _ _ _ g (hR x1 e1)
    · intro t li lj g hR
      have hR : wbX12_level_4 (wpX12_level k) k t li lj Q := hR
      show wbX12_level_4 (wpX12_level k) k t li lj (fun r t => Q r t ∧ G t)
      unfold wbX12_level_4 at hR ⊢
      exact fun x1 e1 => ih.2.2.1 _ _ _ g (hR x1 e1)
theorem qgX12_level {G : XT → Prop} {k : Nat} {t : XT} {a1 : Int32} {a2 : Int32} {Q : Int32 → XT → Prop} (hk : kpQ G) (g : G t) (hR : wqX12_level k t a1 a2 Q) : wqX12_level k t a1 a2 (fun r t => Q r t ∧ G t) := (qfX12_level hk Q k).1 t _ _ g hR
theorem qtX12_level {G : XT → Prop} {k : Nat} {t : XT} {a1 : Int32} {a2 : Int32} {Q Q' : Int32 → XT → Prop} (hk : kpQ G) (g : G t) (hR : wqX12_level k t a1 a2 Q) (hQ : (∀ r t, Q r t → G t → Q' r t)) : wqX12_level k t a1 a2 Q' := wmX12_level (Nat.le_refl k) (fun r t h => hQ r t h.1 h.2) (qgX12_level hk g hR)
set_option maxHeartbeats 4000000 in
set_option maxRecDepth 100000 in
theorem qfX12_levelBetti {G : XT → Prop} (hk : kpQ G) (Q : Int32 → XT → Prop) : ∀ k : Nat, (∀ (t : XT) (li : Nat → Int32) (lj : Nat → Int64), G t → wpX12_levelBetti k 0 t li lj Q → wpX12_levelBetti k 0 t li lj (fun r t => Q r t ∧ G t)) ∧ (∀ (t : XT) (li : Nat → Int32) (lj : Nat → Int64), G t → wpX12_levelBetti k 1 t li lj Q → wpX12_levelBetti k 1 t li lj (fun r t => Q r t ∧ G t)) ∧ (∀ (t : XT) (li : Nat → Int32) (lj : Nat → Int64), G t → wpX12_levelBetti k 2 t li lj Q → wpX12_levelBetti k 2 t li lj (fun r t => Q r t ∧ G t)) ∧ (∀ (t : XT) (li : Nat → Int32) (lj : Nat → Int64), G t → wpX12_levelBetti k 3 t li lj Q → wpX12_levelBetti k 3 t li lj (fun r t => Q r t ∧ G t)) ∧ (∀ (t : XT) (li : Nat → Int32) (lj : Nat → Int64), G t → wpX12_levelBetti k 4 t li lj Q → wpX12_levelBetti k 4 t li lj (fun r t => Q r t ∧ G t)) ∧ (∀ (t : XT) (li : Nat → Int32) (lj : Nat → Int64), G t → wpX12_levelBetti k 5 t li lj Q → wpX12_levelBetti k 5 t li lj (fun r t => Q r t ∧ G t)) ∧ (∀ (t : XT) (li : Nat → Int32) (lj : Nat → Int64), G t → wpX12_levelBetti k 6 t li lj Q → wpX12_levelBetti k 6 t li lj (fun r t => Q r t ∧ G t)) ∧ (∀ (t : XT) (li : Nat → Int32) (lj : Nat → Int64), G t → wpX12_levelBetti k 7 t li lj Q → wpX12_levelBetti k 7 t li lj (fun r t => Q r t ∧ G t)) ∧ (∀ (t : XT) (li : Nat → Int32) (lj : Nat → Int64), G t → wpX12_levelBetti k 8 t li lj Q → wpX12_levelBetti k 8 t li lj (fun r t => Q r t ∧ G t)) := by
  intro k
  induction k with
  | zero => exact ⟨fun _ _ _ _ hR => False.elim hR, fun _ _ _ _ hR => False.elim hR, fun _ _ _ _ hR => False.elim hR, fun _ _ _ _ hR => False.elim hR, fun _ _ _ _ hR => False.elim hR, fun _ _ _ _ hR => False.elim hR, fun _ _ _ _ hR => False.elim hR, fun _ _ _ _ hR => False.elim hR, fun _ _ _ _ hR => False.elim hR⟩
  | succ k ih =>
    refine ⟨?_, ?_, ?_, ?_, ?_, ?_, ?_, ?_, ?_⟩
    · intro t li lj g hR
      have hR : wbX12_levelBetti_0 (wpX12_levelBetti k) k t li lj Q := hR
      show wbX12_levelBetti_0 (wpX12_levelBetti k) k t li lj (fun r t => Q r t ∧ G t)
      unfold wbX12_levelBetti_0 at hR ⊢
      exact ⟨fun c1 => ih.2.1 _ _ _ g (hR.1 c1), fun c2 => wcX12_in (hR.2 c2) (fun y3_0 h3 => ⟨fun c4 => qtX12_laysHeights hk g (h3.1 c4) (fun y5_0 h5 g5 => ih.2.2.1 _ _ _ g5 h5), fun c6 => ih.2.1 _ _ _ g (h3.2 c6)⟩)⟩
    · intro t li lj g hR
      have hR : wbX12_levelBetti_1 (wpX12_levelBetti k) k t li lj Q := hR
      show wbX12_levelBetti_1 (wpX12_levelBetti k) k t li lj (fun r t => Q r t ∧ G t)
      unfold wbX12_levelBetti_1 at hR ⊢
      exact ⟨hR, g⟩
    · intro t li lj g hR
      have hR : wbX12_levelBetti_2 (wpX12_levelBetti k) k t li lj Q := hR
      show wbX12_levelBetti_2 (wpX12_levelBetti k) k t li lj (fun r t => Q r t ∧ G t)
      unfold wbX12_levelBetti_2 at hR ⊢
      exact ⟨fun c1 => qtX12_bettiTaken hk g (hR.1 c1) (fun y2_0 y2_1 h2 g2 => ⟨h2, g2⟩), fun c3 => ⟨(hR.2 c3).1, fun x4 e4 => have g4 : G x4 := (by rw [e4]; exact hk.2.2.1 _ _ _ (by decide) (by decide) (by decide) (by decide) (by decide) g); ih.2.2.2.1 _ _ _ g4 ((hR.2 c3).2 x4 e4)⟩⟩
    · intro t li lj g hR
      have hR : wbX12_levelBetti_3 (wpX12_levelBetti k) k t li lj Q := hR
      show wbX12_levelBetti_3 (wpX12_levelBetti k) k t li lj (fun r t => Q r t ∧ G t)
      unfold wbX12_levelBetti_3 at hR ⊢
      exact ⟨fun c1 => fun x2 e2 => ih.2.2.1 _ _ _ g ((hR.1 c1) x2 e2), fun c3 => qtX12_isThere hk g (hR.2 c3) (fun y4_0 y4_1 h4 g4 => ⟨fun c5 => ih.2.2.2.2.1 _ _ _ g4 (h4.1 c5), fun c6 => ⟨(h4.2 c6).1, fun x7 e7 => ⟨fun c8 => ih.2.2.2.2.1 _ _ _ g4 (((h4.2 c6).2 x7 e7).1 c8), fun c9 => ⟨(((h4.2 c6).2 x7 e7).2 c9).1, fun x10 e10 => ⟨((((h4.2 c6).2 x7 e7).2 c9).2 x10 e10).1, fun x11 e11 => fun x12 e12 => fun x13 e13 => ⟨fun c14 => ih.2.2.2.2.1 _ _ _ g4 ((((((((h4.2 c6).2 x7 e7).2 c9).2 x10 e10).2 x11 e11) x12 e12) x13 e13).1 c14), fun c15 => ih.2.2.2.2.2.1 _ _ _ g4 ((((((((h4.2 c6).2 x7 e7).2 c9).2 x10 e10).2 x11 e11) x12 e12) x13 e13).2 c15)⟩⟩⟩⟩⟩⟩)⟩
    · intro t li lj g hR
      have hR : wbX12_levelBetti_4 (wpX12_levelBetti k) k t li lj Q := hR
      show wbX12_levelBetti_4 (wpX12_levelBetti k) k t li lj (fun r t => Q r t ∧ G t)
      unfold wbX12_levelBetti_4 at hR ⊢
      exact ih.2.2.2.2.2.1 _ _ _ g hR
    · intro t li lj g hR
      have hR : wbX12_levelBetti_5 (wpX12_levelBetti k) k t li lj Q := hR
      show wbX12_levelBetti_5 (wpX12_levelBetti k) k t li lj (fun r t => Q r t ∧ G t)
      unfold wbX12_levelBetti_5 at hR ⊢
      exact ⟨hR.1, fun x1 e1 => ⟨fun c2 => ih.2.2.2.2.2.2.1 _ _ _ g ((hR.2 x1 e1).1 c2), fun c3 => ⟨fun c4 => ih.2.2.2.2.2.2.2.1 _ _ _ g (((hR.2 x1 e1).2 c3).1 c4), fun c5 => qtX12_isThere hk g (((hR.2 x1 e1).2 c3).2 c5) (fun y6_0 y6_1 h6 g6 => ⟨fun c7 => ih.2.2.2.2.2.2.2.1 _ _ _ g6 (h6.1 c7), fun c8 => ih.2.2.2.2.2.2.1 _ _ _ g6 (h6.2 c8)⟩)⟩⟩⟩
    · intro t li lj g hR
      have hR : wbX12_levelBetti_6 (wpX12_levelBetti k) k t li lj Q := hR
      show wbX12_levelBetti_6 (wpX12_levelBetti k) k t li lj (fun r t => Q r t ∧ G t)
      unfold wbX12_levelBetti_6 at hR ⊢
      exact ih.2.2.2.2.2.2.2.2 _ _ _ g hR
    · intro t li lj g hR
      have hR : wbX12_levelBetti_7 (wpX12_levelBetti k) k t li lj Q := hR
      show wbX12_levelBetti_7 (wpX12_levelBetti k) k t li lj (fun r t => Q r t ∧ G t)
      unfold wbX12_levelBetti_7 at hR ⊢
      exact ih.2.2.2.2.2.2.2.2 _ _ _ g hR
    · intro t li lj g hR
      have hR : wbX12_levelBetti_8 (wpX12_levelBetti k) k t li lj Q := hR
      show wbX12_levelBetti_8 (wpX12_levelBetti k) k t li lj (fun r t => Q r t ∧ G t)
      unfold wbX12_levelBetti_8 at hR ⊢
      exact ⟨hR.1, fun x1 e1 => have g1 : G x1 := (by rw [e1]; exact hk.2.2.1 _ _ _ (by decide) (by decide) (by decide) (by decide) (by decide) g); fun x2 e2 => ih.2.2.2.1 _ _ _ g1 ((hR.2 x1 e1) x2 e2)⟩
theorem qgX12_levelBetti {G : XT → Prop} {k : Nat} {t : XT} {a1 : Int32} {a2 : Int32} {Q : Int32 → XT → Prop} (hk : kpQ G) (g : G t) (hR : wqX12_levelBetti k t a1 a2 Q) : wqX12_levelBetti k t a1 a2 (fun r t => Q r t ∧ G t) := (qfX12_levelBetti hk Q k).1 t _ _ g hR
theorem qtX12_levelBetti {G : XT → Prop} {k : Nat} {t : XT} {a1 : Int32} {a2 : Int32} {Q Q' : Int32 → XT → Prop} (hk : kpQ G) (g : G t) (hR : wqX12_levelBetti k t a1 a2 Q) (hQ : (∀ r t, Q r t → G t → Q' r t)) : wqX12_levelBetti k t a1 a2 Q' := wmX12_levelBetti (Nat.le_refl k) (fun r t h => hQ r t h.1 h.2) (qgX12_levelBetti hk g hR)
set_option maxHeartbeats 4000000 in
set_option maxRecDepth 100000 in
theorem qfX12_pairMany {G : XT → Prop} (hk : kpQ G) (Q : Int32 → XT → Prop) : ∀ k : Nat, (∀ (t : XT) (li : Nat → Int32) (lj : Nat → Int64), G t → wpX12_pairMany k 0 t li lj Q → wpX12_pairMany k 0 t li lj (fun r t => Q r t ∧ G t)) ∧ (∀ (t : XT) (li : Nat → Int32) (lj : Nat → Int64), G t → wpX12_pairMany k 1 t li lj Q → wpX12_pairMany k 1 t li lj (fun r t => Q r t ∧ G t)) := by
  intro k
  induction k with
  | zero => exact ⟨fun _ _ _ _ hR => False.elim hR, fun _ _ _ _ hR => False.elim hR⟩
  | succ k ih =>
    refine ⟨?_, ?_⟩
    · intro t li lj g hR
      have hR : wbX12_pairMany_0 (wpX12_pairMany k) k t li lj Q := hR
      show wbX12_pairMany_0 (wpX12_pairMany k) k t li lj (fun r t => Q r t ∧ G t)
      unfold wbX12_pairMany_0 at hR ⊢
      exact ih.2 _ _ _ g hR
    · intro t li lj g hR
      have hR : wbX12_pairMany_1 (wpX12_pairMany k) k t li lj Q := hR
      show wbX12_pairMany_1 (wpX12_pairMany k) k t li lj (fun r t => Q r t ∧ G t)
      unfold wbX12_pairMany_1 at hR ⊢
      exact ⟨fun c1 => ⟨(hR.1 c1), g⟩, fun c2 => qtX12_isLower hk g (hR.2 c2) (fun y3_0 y3_1 h3 g3 => wcX12_truth h3 (fun y4_0 h4 => fun x5 e5 => fun x6 e6 => ih.2 _ _ _ g3 ((h4 x5 e5) x6 e6)))⟩
theorem qgX12_pairMany {G : XT → Prop} {k : Nat} {t : XT}  {Q : Int32 → XT → Prop} (hk : kpQ G) (g : G t) (hR : wqX12_pairMany k t  Q) : wqX12_pairMany k t  (fun r t => Q r t ∧ G t) := (qfX12_pairMany hk Q k).1 t _ _ g hR
theorem qtX12_pairMany {G : XT → Prop} {k : Nat} {t : XT}  {Q Q' : Int32 → XT → Prop} (hk : kpQ G) (g : G t) (hR : wqX12_pairMany k t  Q) (hQ : (∀ r t, Q r t → G t → Q' r t)) : wqX12_pairMany k t  Q' := wmX12_pairMany (Nat.le_refl k) (fun r t h => hQ r t h.1 h.2) (qgX12_pairMany hk g hR)
set_option maxHeartbeats 4000000 in
set_option maxRecDepth 100000 in
theorem qfX12_same {G : XT → Prop} (hk : kpQ G) (Q : Int32 → XT → Prop) : ∀ k : Nat, (∀ (t : XT) (li : Nat → Int32) (lj : Nat → Int64), G t → wpX12_same k 0 t li lj Q → wpX12_same k 0 t li lj (fun r t => Q r t ∧ G t)) ∧ (∀ (t : XT) (li : Nat → Int32) (lj : Nat → Int64), G t → wpX12_same k 1 t li lj Q → wpX12_same k 1 t li lj (fun r t => Q r t ∧ G t)) ∧ (∀ (t : XT) (li : Nat → Int32) (lj : Nat → Int64), G t → wpX12_same k 2 t li lj Q → wpX12_same k 2 t li lj (fun r t => Q r t ∧ G t)) ∧ (∀ (t : XT) (li : Nat → Int32) (lj : Nat → Int64), G t → wpX12_same k 3 t li lj Q → wpX12_same k 3 t li lj (fun r t => Q r t ∧ G t)) := by
  intro k
  induction k with
  | zero => exact ⟨fun _ _ _ _ hR => False.elim hR, fun _ _ _ _ hR => False.elim hR, fun _ _ _ _ hR => False.elim hR, fun _ _ _ _ hR => False.elim hR⟩
  | succ k ih =>
    refine ⟨?_, ?_, ?_, ?_⟩
    · intro t li lj g hR
      have hR : wbX12_same_0 (wpX12_same k) k t li lj Q := hR
      show wbX12_same_0 (wpX12_same k) k t li lj (fun r t => Q r t ∧ G t)
      unfold wbX12_same_0 at hR ⊢
      exact wcX12_in hR (fun y1_0 h1 => ⟨fun c2 => ⟨(h1.1 c2).1, fun x3 e3 => ⟨fun c4 => ih.2.1 _ _ _ g (((h1.1 c2).2 x3 e3).1 c4), fun c5 => ⟨(((h1.1 c2).2 x3 e3).2 c5), g⟩⟩⟩, fun c6 => ⟨(h1.2 c6), g⟩⟩)
    · intro t li lj g hR
      have hR : wbX12_same_1 (wpX12_same k) k t li lj Q := hR
      show wbX12_same_1 (wpX12_same k) k t li lj (fun r t => Q r t ∧ G t)
      unfold wbX12_same_1 at hR ⊢
      exact ⟨fun c1 => ⟨(hR.1 c1), g⟩, fun c2 => qtX12_isLower hk g (hR.2 c2) (fun y3_0 y3_1 h3 g3 => ⟨fun c4 => ih.2.2.1 _ _ _ g3 (h3.1 c4), fun c5 => fun x6 e6 => fun x7 e7 => ⟨(((h3.2 c5) x6 e6) x7 e7).1, fun x8 e8 => ⟨((((h3.2 c5) x6 e6) x7 e7).2 x8 e8).1, fun x9 e9 => ⟨fun c10 => ih.2.2.1 _ _ _ g3 ((((((h3.2 c5) x6 e6) x7 e7).2 x8 e8).2 x9 e9).1 c10), fun c11 => ih.2.2.2 _ _ _ g3 ((((((h3.2 c5) x6 e6) x7 e7).2 x8 e8).2 x9 e9).2 c11)⟩⟩⟩⟩)⟩
    · intro t li lj g hR
      have hR : wbX12_same_2 (wpX12_same k) k t li lj Q := hR
      show wbX12_same_2 (wpX12_same k) k t li lj (fun r t => Q r t ∧ G t)
      unfold wbX12_same_2 at hR ⊢
      exact ih.2.2.2 _ _ _ g hR
    · intro t li lj g hR
      have hR : wbX12_same_3 (wpX12_same k) k t li lj Q := hR
      show wbX12_same_3 (wpX12_same k) k t li lj (fun r t => Q r t ∧ G t)
      unfold wbX12_same_3 at hR ⊢
      exact wcX12_truth hR (fun y1_0 h1 => fun x2 e2 => fun x3 e3 => ih.2.1 _ _ _ g ((h1 x2 e2) x3 e3))
theorem qgX12_same {G : XT → Prop} {k : Nat} {t : XT} {a1 : Int32} {Q : Int32 → XT → Prop} (hk : kpQ G) (g : G t) (hR : wqX12_same k t a1 Q) : wqX12_same k t a1 (fun r t => Q r t ∧ G t) := (qfX12_same hk Q k).1 t _ _ g hR
theorem qtX12_same {G : XT → Prop} {k : Nat} {t : XT} {a1 : Int32} {Q Q' : Int32 → XT → Prop} (hk : kpQ G) (g : G t) (hR : wqX12_same k t a1 Q) (hQ : (∀ r t, Q r t → G t → Q' r t)) : wqX12_same k t a1 Q' := wmX12_same (Nat.le_refl k) (fun r t h => hQ r t h.1 h.2) (qgX12_same hk g hR)
set_option maxHeartbeats 4000000 in
set_option maxRecDepth 100000 in
theorem qfX12_greatestDim {G : XT → Prop} (hk : kpQ G) (Q : Int32 → XT → Prop) : ∀ k : Nat, (∀ (t : XT) (li : Nat → Int32) (lj : Nat → Int64), G t → wpX12_greatestDim k 0 t li lj Q → wpX12_greatestDim k 0 t li lj (fun r t => Q r t ∧ G t)) ∧ (∀ (t : XT) (li : Nat → Int32) (lj : Nat → Int64), G t → wpX12_greatestDim k 1 t li lj Q → wpX12_greatestDim k 1 t li lj (fun r t => Q r t ∧ G t)) ∧ (∀ (t : XT) (li : Nat → Int32) (lj : Nat → Int64), G t → wpX12_greatestDim k 2 t li lj Q → wpX12_greatestDim k 2 t li lj (fun r t => Q r t ∧ G t)) := by
  intro k
  induction k with
  | zero => exact ⟨fun _ _ _ _ hR => False.elim hR, fun _ _ _ _ hR => False.elim hR, fun _ _ _ _ hR => False.elim hR⟩
  | succ k ih =>
    refine ⟨?_, ?_, ?_⟩
    · intro t li lj g hR
      have hR : wbX12_greatestDim_0 (wpX12_greatestDim k) k t li lj Q := hR
      show wbX12_greatestDim_0 (wpX12_greatestDim k) k t li lj (fun r t => Q r t ∧ G t)
      unfold wbX12_greatestDim_0 at hR ⊢
      exact ih.2.1 _ _ _ g hR
    · intro t li lj g hR
      have hR : wbX12_greatestDim_1 (wpX12_greatestDim k) k t li lj Q := hR
      show wbX12_greatestDim_1 (wpX12_greatestDim k) k t li lj (fun r t => Q r t ∧ G t)
      unfold wbX12_greatestDim_1 at hR ⊢
      exact ⟨fun c1 => ⟨(hR.1 c1), g⟩, fun c2 => qtX12_isThere hk g (hR.2 c2) (fun y3_0 y3_1 h3 g3 => ⟨fun c4 => ih.2.2 _ _ _ g3 (h3.1 c4), fun c5 => qtX12_dimOf hk g3 (h3.2 c5) (fun y6_0 y6_1 h6 g6 => fun x7 e7 => ih.2.2 _ _ _ g6 (h6 x7 e7))⟩)⟩
    · intro t li lj g hR
      have hR : wbX12_greatestDim_2 (wpX12_greatestDim k) k t li lj Q := hR
      show wbX12_greatestDim_2 (wpX12_greatestDim k) k t li lj (fun r t => Q r t ∧ G t)
      unfold wbX12_greatestDim_2 at hR ⊢
      exact fun x1 e1 => ih.2.1 _ _ _ g (hR x1 e1)
theorem qgX12_greatestDim {G : XT → Prop} {k : Nat} {t : XT}  {Q : Int32 → XT → Prop} (hk : kpQ G) (g : G t) (hR : wqX12_greatestDim k t  Q) : wqX12_greatestDim k t  (fun r t => Q r t ∧ G t) := (qfX12_greatestDim hk Q k).1 t _ _ g hR
theorem qtX12_greatestDim {G : XT → Prop} {k : Nat} {t : XT}  {Q Q' : Int32 → XT → Prop} (hk : kpQ G) (g : G t) (hR : wqX12_greatestDim k t  Q) (hQ : (∀ r t, Q r t → G t → Q' r t)) : wqX12_greatestDim k t  Q' := wmX12_greatestDim (Nat.le_refl k) (fun r t h => hQ r t h.1 h.2) (qgX12_greatestDim hk g hR)
set_option maxHeartbeats 4000000 in
set_option maxRecDepth 100000 in
theorem qfX12_euler {G : XT → Prop} (hk : kpQ G) (Q : Int32 → XT → Prop) : ∀ k : Nat, (∀ (t : XT) (li : Nat → Int32) (lj : Nat → Int64), G t → wpX12_euler k 0 t li lj Q → wpX12_euler k 0 t li lj (fun r t => Q r t ∧ G t)) ∧ (∀ (t : XT) (li : Nat → Int32) (lj : Nat → Int64), G t → wpX12_euler k 1 t li lj Q → wpX12_euler k 1 t li lj (fun r t => Q r t ∧ G t)) ∧ (∀ (t : XT) (li : Nat → Int32) (lj : Nat → Int64), G t → wpX12_euler k 2 t li lj Q → wpX12_euler k 2 t li lj (fun r t => Q r t ∧ G t)) := by
  intro k
  induction k with
  | zero => exact ⟨fun _ _ _ _ hR => False.elim hR, fun _ _ _ _ hR => False.elim hR, fun _ _ _ _ hR => False.elim hR⟩
  | succ k ih =>
    refine ⟨?_, ?_, ?_⟩
    · intro t li lj g hR
      have hR : wbX12_euler_0 (wpX12_euler k) k t li lj Q := hR
      show wbX12_euler_0 (wpX12_euler k) k t li lj (fun r t => Q r t ∧ G t)
      unfold wbX12_euler_0 at hR ⊢
      exact ih.2.1 _ _ _ g hR
    · intro t li lj g hR
      have hR : wbX12_euler_1 (wpX12_euler k) k t li lj Q := hR
      show wbX12_euler_1 (wpX12_euler k) k t li lj (fun r t => Q r t ∧ G t)
      unfold wbX12_euler_1 at hR ⊢
      exact ⟨fun c1 => ⟨(hR.1 c1), g⟩, fun c2 => qtX12_isThere hk g (hR.2 c2) (fun y3_0 y3_1 h3 g3 => ⟨fun c4 => ih.2.2 _ _ _ g3 (h3.1 c4), fun c5 => qtX12_alternating hk g3 (h3.2 c5) (fun y6_0 y6_1 h6 g6 => ih.2.2 _ _ _ g6 h6)⟩)⟩
    · intro t li lj g hR
      have hR : wbX12_euler_2 (wpX12_euler k) k t li lj Q := hR
      show wbX12_euler_2 (wpX12_euler k) k t li lj (fun r t => Q r t ∧ G t)
      unfold wbX12_euler_2 at hR ⊢
      exact fun x1 e1 => fun x2 e2 => ih.2.1 _ _ _ g ((hR x1 e1) x2 e2)
theorem qgX12_euler {G : XT → Prop} {k : Nat} {t : XT}  {Q : Int32 → XT → Prop} (hk : kpQ G) (g : G t) (hR : wqX12_euler k t  Q) : wqX12_euler k t  (fun r t => Q r t ∧ G t) := (qfX12_euler hk Q k).1 t _ _ g hR
theorem qtX12_euler {G : XT → Prop} {k : Nat} {t : XT}  {Q Q' : Int32 → XT → Prop} (hk : kpQ G) (g : G t) (hR : wqX12_euler k t  Q) (hQ : (∀ r t, Q r t → G t → Q' r t)) : wqX12_euler k t  Q' := wmX12_euler (Nat.le_refl k) (fun r t h => hQ r t h.1 h.2) (qgX12_euler hk g hR)
set_option maxHeartbeats 4000000 in
set_option maxRecDepth 100000 in
theorem qfX12_partsMany {G : XT → Prop} (hk : kpQ G) (Q : Int32 → XT → Prop) : ∀ k : Nat, (∀ (t : XT) (li : Nat → Int32) (lj : Nat → Int64), G t → wpX12_partsMany k 0 t li lj Q → wpX12_partsMany k 0 t li lj (fun r t => Q r t ∧ G t)) ∧ (∀ (t : XT) (li : Nat → Int32) (lj : Nat → Int64), G t → wpX12_partsMany k 1 t li lj Q → wpX12_partsMany k 1 t li lj (fun r t => Q r t ∧ G t)) ∧ (∀ (t : XT) (li : Nat → Int32) (lj : Nat → Int64), G t → wpX12_partsMany k 2 t li lj Q → wpX12_partsMany k 2 t li lj (fun r t => Q r t ∧ G t)) ∧ (∀ (t : XT) (li : Nat → Int32) (lj : Nat → Int64), G t → wpX12_partsMany k 3 t li lj Q → wpX12_partsMany k 3 t li lj (fun r t => Q r t ∧ G t)) ∧ (∀ (t : XT) (li : Nat → Int32) (lj : Nat → Int64), G t → wpX12_partsMany k 4 t li lj Q → wpX12_partsMany k 4 t li lj (fun r t => Q r t ∧ G t)) ∧ (∀ (t : XT) (li : Nat → Int32) (lj : Nat → Int64), G t → wpX12_partsMany k 5 t li lj Q → wpX12_partsMany k 5 t li lj (fun r t => Q r t ∧ G t)) ∧ (∀ (t : XT) (li : Nat → Int32) (lj : Nat → Int64), G t → wpX12_partsMany k 6 t li lj Q → wpX12_partsMany k 6 t li lj (fun r t => Q r t ∧ G t)) ∧ (∀ (t : XT) (li : Nat → Int32) (lj : Nat → Int64), G t → wpX12_partsMany k 7 t li lj Q → wpX12_partsMany k 7 t li lj (fun r t => Q r t ∧ G t)) ∧ (∀ (t : XT) (li : Nat → Int32) (lj : Nat → Int64), G t → wpX12_partsMany k 8 t li lj Q → wpX12_partsMany k 8 t li lj (fun r t => Q r t ∧ G t)) := by
  intro k
  induction k with
  | zero => exact ⟨fun _ _ _ _ hR => False.elim hR, fun _ _ _ _ hR => False.elim hR, fun _ _ _ _ hR => False.elim hR, fun _ _ _ _ hR => False.elim hR, fun _ _ _ _ hR => False.elim hR, fun _ _ _ _ hR => False.elim hR, fun _ _ _ _ hR => False.elim hR, fun _ _ _ _ hR => False.elim hR, fun _ _ _ _ hR => False.elim hR⟩
  | succ k ih =>
    refine ⟨?_, ?_, ?_, ?_, ?_, ?_, ?_, ?_, ?_⟩
    · intro t li lj g hR
      have hR : wbX12_partsMany_0 (wpX12_partsMany k) k t li lj Q := hR
      show wbX12_partsMany_0 (wpX12_partsMany k) k t li lj (fun r t => Q r t ∧ G t)
      unfold wbX12_partsMany_0 at hR ⊢
      exact ih.2.1 _ _ _ g hR
    · intro t li lj g hR
      have hR : wbX12_partsMany_1 (wpX12_partsMany k) k t li lj Q := hR
      show wbX12_partsMany_1 (wpX12_partsMany k) k t li lj (fun r t => Q r t ∧ G t)
      unfold wbX12_partsMany_1 at hR ⊢
      exact ⟨fun c1 => ih.2.2.1 _ _ _ g (hR.1 c1), fun c2 => ⟨(hR.2 c2).1, fun x3 e3 => have g3 : G x3 := (by rw [e3]; exact hk.2.2.1 _ _ _ (by decide) (by decide) (by decide) (by decide) (by decide) g); fun x4 e4 => ih.2.1 _ _ _ g3 (((hR.2 c2).2 x3 e3) x4 e4)⟩⟩
    · intro t li lj g hR
      have hR : wbX12_partsMany_2 (wpX12_partsMany k) k t li lj Q := hR
      show wbX12_partsMany_2 (wpX12_partsMany k) k t li lj (fun r t => Q r t ∧ G t)
      unfold wbX12_partsMany_2 at hR ⊢
      exact ⟨fun c1 => ih.2.2.2.2.2.2.1 _ _ _ g (hR.1 c1), fun c2 => ih.2.2.2.1 _ _ _ g (hR.2 c2)⟩
    · intro t li lj g hR
      have hR : wbX12_partsMany_3 (wpX12_partsMany k) k t li lj Q := hR
      show wbX12_partsMany_3 (wpX12_partsMany k) k t li lj (fun r t => Q r t ∧ G t)
      unfold wbX12_partsMany_3 at hR ⊢
      exact ⟨fun c1 => ih.2.2.1 _ _ _ g (hR.1 c1), fun c2 => ih.2.2.2.2.1 _ _ _ g (hR.2 c2)⟩
    · intro t li lj g hR
      have hR : wbX12_partsMany_4 (wpX12_partsMany k) k t li lj Q := hR
      show wbX12_partsMany_4 (wpX12_partsMany k) k t li lj (fun r t => Q r t ∧ G t)
      unfold wbX12_partsMany_4 at hR ⊢
      exact ⟨fun c1 => fun x2 e2 => ih.2.2.2.1 _ _ _ g ((hR.1 c1) x2 e2), fun c3 => qtX12_isFaceThere hk g (hR.2 c3) (fun y4_0 y4_1 h4 g4 => ⟨fun c5 => ih.2.2.2.2.2.1 _ _ _ g4 (h4.1 c5), fun c6 => ⟨(h4.2 c6).1, fun x7 e7 => ⟨((h4.2 c6).2 x7 e7).1, fun x8 e8 => ⟨fun c9 => ih.2.2.2.2.2.1 _ _ _ g4 ((((h4.2 c6).2 x7 e7).2 x8 e8).1 c9), fun c10 => ⟨((((h4.2 c6).2 x7 e7).2 x8 e8).2 c10).1, fun x11 e11 => ⟨(((((h4.2 c6).2 x7 e7).2 x8 e8).2 c10).2 x11 e11).1, fun x12 e12 => fun x13 e13 => ⟨(((((((h4.2 c6).2 x7 e7).2 x8 e8).2 c10).2 x11 e11).2 x12 e12) x13 e13).1, fun x14 e14 => have g14 : G x14 := (by rw [e14]; exact hk.2.2.1 _ _ _ (by decide) (by decide) (by decide) (by decide) (by decide) g4); ⟨((((((((h4.2 c6).2 x7 e7).2 x8 e8).2 c10).2 x11 e11).2 x12 e12) x13 e13).2 x14 e14).1, fun x15 e15 => have g15 : G x15 := (by rw [e15]; exact hk.2.2.1 _ _ _ (by decide) (by decide) (by decide) (by decide) (by decide) g14); ih.2.2.2.2.2.1 _ _ _ g15 (((((((((h4.2 c6).2 x7 e7).2 x8 e8).2 c10).2 x11 e11).2 x12 e12) x13 e13).2 x14 e14).2 x15 e15)⟩⟩⟩⟩⟩⟩⟩⟩)⟩
    · intro t li lj g hR
      have hR : wbX12_partsMany_5 (wpX12_partsMany k) k t li lj Q := hR
      show wbX12_partsMany_5 (wpX12_partsMany k) k t li lj (fun r t => Q r t ∧ G t)
      unfold wbX12_partsMany_5 at hR ⊢
      exact fun x1 e1 => ih.2.2.2.2.1 _ _ _ g (hR x1 e1)
    · intro t li lj g hR
      have hR : wbX12_partsMany_6 (wpX12_partsMany k) k t li lj Q := hR
      show wbX12_partsMany_6 (wpX12_partsMany k) k t li lj (fun r t => Q r t ∧ G t)
      unfold wbX12_partsMany_6 at hR ⊢
      exact ⟨fun c1 => ⟨(hR.1 c1), g⟩, fun c2 => qtX12_isThere hk g (hR.2 c2) (fun y3_0 y3_1 h3 g3 => ⟨fun c4 => ih.2.2.2.2.2.2.2.1 _ _ _ g3 (h3.1 c4), fun c5 => ⟨(h3.2 c5).1, fun x6 e6 => ⟨fun c7 => ih.2.2.2.2.2.2.2.1 _ _ _ g3 (((h3.2 c5).2 x6 e6).1 c7), fun c8 => ih.2.2.2.2.2.2.2.2 _ _ _ g3 (((h3.2 c5).2 x6 e6).2 c8)⟩⟩⟩)⟩
    · intro t li lj g hR
      have hR : wbX12_partsMany_7 (wpX12_partsMany k) k t li lj Q := hR
      show wbX12_partsMany_7 (wpX12_partsMany k) k t li lj (fun r t => Q r t ∧ G t)
      unfold wbX12_partsMany_7 at hR ⊢
      exact ih.2.2.2.2.2.2.2.2 _ _ _ g hR
    · intro t li lj g hR
      have hR : wbX12_partsMany_8 (wpX12_partsMany k) k t li lj Q := hR
      show wbX12_partsMany_8 (wpX12_partsMany k) k t li lj (fun r t => Q r t ∧ G t)
      unfold wbX12_partsMany_8 at hR ⊢
      exact wcX12_truth hR (fun y1_0 h1 => fun x2 e2 => fun x3 e3 => ih.2.2.2.2.2.2.1 _ _ _ g ((h1 x2 e2) x3 e3))
theorem qgX12_partsMany {G : XT → Prop} {k : Nat} {t : XT}  {Q : Int32 → XT → Prop} (hk : kpQ G) (g : G t) (hR : wqX12_partsMany k t  Q) : wqX12_partsMany k t  (fun r t => Q r t ∧ G t) := (qfX12_partsMany hk Q k).1 t _ _ g hR
theorem qtX12_partsMany {G : XT → Prop} {k : Nat} {t : XT}  {Q Q' : Int32 → XT → Prop} (hk : kpQ G) (g : G t) (hR : wqX12_partsMany k t  Q) (hQ : (∀ r t, Q r t → G t → Q' r t)) : wqX12_partsMany k t  Q' := wmX12_partsMany (Nat.le_refl k) (fun r t h => hQ r t h.1 h.2) (qgX12_partsMany hk g hR)
set_option maxHeartbeats 4000000 in
set_option maxRecDepth 100000 in
theorem qfX12_count {G : XT → Prop} (hk : kpQ G) (Q : Int32 → XT → Prop) : ∀ k : Nat, (∀ (t : XT) (li : Nat → Int32) (lj : Nat → Int64), G t → wpX12_count k 0 t li lj Q → wpX12_count k 0 t li lj (fun r t => Q r t ∧ G t)) := by
  intro k
  induction k with
  | zero => exact fun _ _ _ _ hR => False.elim hR
  | succ k ih =>
    intro t li lj g hR
    have hR : wbX12_count_0 (wpX12_count k) k t li lj Q := hR
    show wbX12_count_0 (wpX12_count k) k t li lj (fun r t => Q r t ∧ G t)
    unfold wbX12_count_0 at hR ⊢
    exact ⟨fun c1 => ⟨(hR.1 c1), g⟩, fun c2 => ⟨(hR.2.1 c2), g⟩, fun c3 => qtX12_thereMany hk g (hR.2.2.1 c3) (fun y4_0 y4_1 h4 g4 => ⟨h4, g4⟩), fun c5 => qtX12_greatestDim hk g (hR.2.2.2.1 c5) (fun y6_0 y6_1 h6 g6 => ⟨h6, g6⟩), fun c7 => qtX12_pairMany hk g (hR.2.2.2.2.1 c7) (fun y8_0 y8_1 h8 g8 => ⟨h8, g8⟩), fun c9 => qtX12_criticalMany hk g (hR.2.2.2.2.2.1 c9) (fun y10_0 y10_1 h10 g10 => ⟨h10, g10⟩), fun c11 => qtX12_euler hk g (hR.2.2.2.2.2.2.1 c11) (fun y12_0 y12_1 h12 g12 => ⟨h12, g12⟩), fun c13 => qtX12_partsMany hk g (hR.2.2.2.2.2.2.2.1 c13) (fun y14_0 y14_1 h14 g14 => ⟨h14, g14⟩), fun c15 => ⟨(hR.2.2.2.2.2.2.2.2.1 c15), g⟩, fun c16 => ⟨(hR.2.2.2.2.2.2.2.2.2.1 c16), g⟩, fun c17 => ⟨(hR.2.2.2.2.2.2.2.2.2.2 c17), g⟩⟩
theorem qgX12_count {G : XT → Prop} {k : Nat} {t : XT} {a1 : Int32} {Q : Int32 → XT → Prop} (hk : kpQ G) (g : G t) (hR : wqX12_count k t a1 Q) : wqX12_count k t a1 (fun r t => Q r t ∧ G t) := (qfX12_count hk Q k) t _ _ g hR
theorem qtX12_count {G : XT → Prop} {k : Nat} {t : XT} {a1 : Int32} {Q Q' : Int32 → XT → Prop} (hk : kpQ G) (g : G t) (hR : wqX12_count k t a1 Q) (hQ : (∀ r t, Q r t → G t → Q' r t)) : wqX12_count k t a1 Q' := wmX12_count (Nat.le_refl k) (fun r t h => hQ r t h.1 h.2) (qgX12_count hk g hR)
