set_option maxHeartbeats 4000000 in
set_option maxRecDepth 100000 in
theorem zfX5_swapRows_c31 {G : XT → Prop} (hk : kpP G) (Q : XT → Prop) : ∀ k : Nat, (∀ (t : XT) (li : Nat → Int32) (lj : Nat → Int64), G t → wpX5_swapRows_c31 k 0 t li lj Q → wpX5_swapRows_c31 k 0 t li lj (fun t => Q t ∧ G t)) ∧ (∀ (t : XT) (li : Nat → Int32) (lj : Nat → Int64), G t → wpX5_swapRows_c31 k 1 t li lj Q → wpX5_swapRows_c31 k 1 t li lj (fun t => Q t ∧ G t)) := by
  intro k
  induction k with
  | zero => exact ⟨fun _ _ _ _ hR => False.elim hR, fun _ _ _ _ hR => False.elim hR⟩
  | succ k ih =>
    refine ⟨?_, ?_⟩
    · intro t li lj g hR
      have hR : wbX5_swapRows_c31_0 (wpX5_swapRows_c31 k) k t li lj Q := hR
      show wbX5_swapRows_c31_0 (wpX5_swapRows_c31 k) k t li lj (fun t => Q t ∧ G t)
      unfold wbX5_swapRows_c31_0 at hR ⊢
      exact ih.2 _ _ _ g hR
    · intro t li lj g hR
      have hR : wbX5_swapRows_c31_1 (wpX5_swapRows_c31 k) k t li lj Q := hR
      show wbX5_swapRows_c31_1 (wpX5_swapRows_c31 k) k t li lj (fun t => Q t ∧ G t)
      unfold wbX5_swapRows_c31_1 at hR ⊢
      exact ⟨fun c1 => ⟨(hR.1 c1), g⟩, fun c2 => ⟨fun c3 => ⟨((hR.2 c2).1 c3), g⟩, fun c4 => fun x5 e5 => fun x6 e6 => ⟨((((hR.2 c2).2 c4) x5 e5) x6 e6).1, fun x7 e7 => fun x8 e8 => fun x9 e9 => fun x10 e10 => fun x11 e11 => ⟨(((((((((hR.2 c2).2 c4) x5 e5) x6 e6).2 x7 e7) x8 e8) x9 e9) x10 e10) x11 e11).1, fun x12 e12 => ⟨((((((((((hR.2 c2).2 c4) x5 e5) x6 e6).2 x7 e7) x8 e8) x9 e9) x10 e10) x11 e11).2 x12 e12).1, fun x13 e13 => have g13 : G x13 := (by rw [e13]; exact hk.2.2.2 _ _ _ (by decide) g); fun x14 e14 => fun x15 e15 => ⟨(((((((((((((hR.2 c2).2 c4) x5 e5) x6 e6).2 x7 e7) x8 e8) x9 e9) x10 e10) x11 e11).2 x12 e12).2 x13 e13) x14 e14) x15 e15).1, fun x16 e16 => have g16 : G x16 := (by rw [e16]; exact hk.2.2.2 _ _ _ (by decide) g13); fun x17 e17 => ih.2 _ _ _ g16 (((((((((((((((hR.2 c2).2 c4) x5 e5) x6 e6).2 x7 e7) x8 e8) x9 e9) x10 e10) x11 e11).2 x12 e12).2 x13 e13) x14 e14) x15 e15).2 x16 e16) x17 e17)⟩⟩⟩⟩⟩⟩
theorem zgX5_swapRows_c31 {G : XT → Prop} {k : Nat} {t : XT} {a2 : Int32} {a3 : Int32} {Q : XT → Prop} (hk : kpP G) (g : G t) (hR : wqX5_swapRows_c31 k t a2 a3 Q) : wqX5_swapRows_c31 k t a2 a3 (fun t => Q t ∧ G t) := (zfX5_swapRows_c31 hk Q k).1 t _ _ g hR
theorem ztX5_swapRows_c31 {G : XT → Prop} {k : Nat} {t : XT} {a2 : Int32} {a3 : Int32} {Q Q' : XT → Prop} (hk : kpP G) (g : G t) (hR : wqX5_swapRows_c31 k t a2 a3 Q) (hQ : (∀ t, Q t → G t → Q' t)) : wqX5_swapRows_c31 k t a2 a3 Q' := wmX5_swapRows_c31 (Nat.le_refl k) (fun t h => hQ t h.1 h.2) (zgX5_swapRows_c31 hk g hR)
set_option maxHeartbeats 4000000 in
set_option maxRecDepth 100000 in
theorem zfX5_makePositive {G : XT → Prop} (hk : kpP G) (Q : XT → Prop) : ∀ k : Nat, (∀ (t : XT) (li : Nat → Int32) (lj : Nat → Int64), G t → wpX5_makePositive k 0 t li lj Q → wpX5_makePositive k 0 t li lj (fun t => Q t ∧ G t)) ∧ (∀ (t : XT) (li : Nat → Int32) (lj : Nat → Int64), G t → wpX5_makePositive k 1 t li lj Q → wpX5_makePositive k 1 t li lj (fun t => Q t ∧ G t)) := by
  intro k
  induction k with
  | zero => exact ⟨fun _ _ _ _ hR => False.elim hR, fun _ _ _ _ hR => False.elim hR⟩
  | succ k ih =>
    refine ⟨?_, ?_⟩
    · intro t li lj g hR
      have hR : wbX5_makePositive_0 (wpX5_makePositive k) k t li lj Q := hR
      show wbX5_makePositive_0 (wpX5_makePositive k) k t li lj (fun t => Q t ∧ G t)
      unfold wbX5_makePositive_0 at hR ⊢
      exact fun x1 e1 => fun x2 e2 => ⟨((hR x1 e1) x2 e2).1, fun x3 e3 => fun x4 e4 => ⟨fun c5 => ih.2 _ _ _ g (((((hR x1 e1) x2 e2).2 x3 e3) x4 e4).1 c5), fun c6 => ⟨(((((hR x1 e1) x2 e2).2 x3 e3) x4 e4).2 c6), g⟩⟩⟩
    · intro t li lj g hR
      have hR : wbX5_makePositive_1 (wpX5_makePositive k) k t li lj Q := hR
      show wbX5_makePositive_1 (wpX5_makePositive k) k t li lj (fun t => Q t ∧ G t)
      unfold wbX5_makePositive_1 at hR ⊢
      exact ⟨fun c1 => ⟨(hR.1 c1), g⟩, fun c2 => fun x3 e3 => fun x4 e4 => fun x5 e5 => fun x6 e6 => ⟨(((((hR.2 c2) x3 e3) x4 e4) x5 e5) x6 e6).1, fun x7 e7 => fun x8 e8 => ⟨(((((((hR.2 c2) x3 e3) x4 e4) x5 e5) x6 e6).2 x7 e7) x8 e8).1, fun x9 e9 => have g9 : G x9 := (by rw [e9]; exact hk.2.2.2 _ _ _ (by decide) g); fun x10 e10 => ih.2 _ _ _ g9 (((((((((hR.2 c2) x3 e3) x4 e4) x5 e5) x6 e6).2 x7 e7) x8 e8).2 x9 e9) x10 e10)⟩⟩⟩
theorem zgX5_makePositive {G : XT → Prop} {k : Nat} {t : XT} {a1 : Int32} {a2 : Int32} {Q : XT → Prop} (hk : kpP G) (g : G t) (hR : wqX5_makePositive k t a1 a2 Q) : wqX5_makePositive k t a1 a2 (fun t => Q t ∧ G t) := (zfX5_makePositive hk Q k).1 t _ _ g hR
theorem ztX5_makePositive {G : XT → Prop} {k : Nat} {t : XT} {a1 : Int32} {a2 : Int32} {Q Q' : XT → Prop} (hk : kpP G) (g : G t) (hR : wqX5_makePositive k t a1 a2 Q) (hQ : (∀ t, Q t → G t → Q' t)) : wqX5_makePositive k t a1 a2 Q' := wmX5_makePositive (Nat.le_refl k) (fun t h => hQ t h.1 h.2) (zgX5_makePositive hk g hR)
set_option maxHeartbeats 4000000 in
set_option maxRecDepth 100000 in
theorem zfX5_clearBelow {G : XT → Prop} (hk : kpP G) (Q : XT → Prop) : ∀ k : Nat, (∀ (t : XT) (li : Nat → Int32) (lj : Nat → Int64), G t → wpX5_clearBelow k 0 t li lj Q → wpX5_clearBelow k 0 t li lj (fun t => Q t ∧ G t)) ∧ (∀ (t : XT) (li : Nat → Int32) (lj : Nat → Int64), G t → wpX5_clearBelow k 1 t li lj Q → wpX5_clearBelow k 1 t li lj (fun t => Q t ∧ G t)) ∧ (∀ (t : XT) (li : Nat → Int32) (lj : Nat → Int64), G t → wpX5_clearBelow k 2 t li lj Q → wpX5_clearBelow k 2 t li lj (fun t => Q t ∧ G t)) ∧ (∀ (t : XT) (li : Nat → Int32) (lj : Nat → Int64), G t → wpX5_clearBelow k 3 t li lj Q → wpX5_clearBelow k 3 t li lj (fun t => Q t ∧ G t)) ∧ (∀ (t : XT) (li : Nat → Int32) (lj : Nat → Int64), G t → wpX5_clearBelow k 4 t li lj Q → wpX5_clearBelow k 4 t li lj (fun t => Q t ∧ G t)) ∧ (∀ (t : XT) (li : Nat → Int32) (lj : Nat → Int64), G t → wpX5_clearBelow k 5 t li lj Q → wpX5_clearBelow k 5 t li lj (fun t => Q t ∧ G t)) := by
  intro k
  induction k with
  | zero => exact ⟨fun _ _ _ _ hR => False.elim hR, fun _ _ _ _ hR => False.elim hR, fun _ _ _ _ hR => False.elim hR, fun _ _ _ _ hR => False.elim hR, fun _ _ _ _ hR => False.elim hR, fun _ _ _ _ hR => False.elim hR⟩
  | succ k ih =>
    refine ⟨?_, ?_, ?_, ?_, ?_, ?_⟩
    · intro t li lj g hR
      have hR : wbX5_clearBelow_0 (wpX5_clearBelow k) k t li lj Q := hR
      show wbX5_clearBelow_0 (wpX5_clearBelow k) k t li lj (fun t => Q t ∧ G t)
      unfold wbX5_clearBelow_0 at hR ⊢
      exact fun x1 e1 => fun x2 e2 => ⟨((hR x1 e1) x2 e2).1, fun x3 e3 => fun x4 e4 => ⟨fun c5 => fun x6 e6 => ih.2.1 _ _ _ g ((((((hR x1 e1) x2 e2).2 x3 e3) x4 e4).1 c5) x6 e6), fun c7 => ⟨(((((hR x1 e1) x2 e2).2 x3 e3) x4 e4).2 c7), g⟩⟩⟩
    · intro t li lj g hR
      have hR : wbX5_clearBelow_1 (wpX5_clearBelow k) k t li lj Q := hR
      show wbX5_clearBelow_1 (wpX5_clearBelow k) k t li lj (fun t => Q t ∧ G t)
      unfold wbX5_clearBelow_1 at hR ⊢
      exact ⟨fun c1 => ⟨(hR.1 c1), g⟩, fun c2 => fun x3 e3 => fun x4 e4 => ⟨(((hR.2 c2) x3 e3) x4 e4).1, fun x5 e5 => fun x6 e6 => ⟨fun c7 => ih.2.2.1 _ _ _ g ((((((hR.2 c2) x3 e3) x4 e4).2 x5 e5) x6 e6).1 c7), fun c8 => fun x9 e9 => ⟨fun c10 => ih.2.2.2.1 _ _ _ g ((((((((hR.2 c2) x3 e3) x4 e4).2 x5 e5) x6 e6).2 c8) x9 e9).1 c10), fun c11 => ih.2.2.1 _ _ _ g ((((((((hR.2 c2) x3 e3) x4 e4).2 x5 e5) x6 e6).2 c8) x9 e9).2 c11)⟩⟩⟩⟩
    · intro t li lj g hR
      have hR : wbX5_clearBelow_2 (wpX5_clearBelow k) k t li lj Q := hR
      show wbX5_clearBelow_2 (wpX5_clearBelow k) k t li lj (fun t => Q t ∧ G t)
      unfold wbX5_clearBelow_2 at hR ⊢
      exact ih.2.2.2.1 _ _ _ g hR
    · intro t li lj g hR
      have hR : wbX5_clearBelow_3 (wpX5_clearBelow k) k t li lj Q := hR
      show wbX5_clearBelow_3 (wpX5_clearBelow k) k t li lj (fun t => Q t ∧ G t)
      unfold wbX5_clearBelow_3 at hR ⊢
      exact ih.2.2.2.2.1 _ _ _ g hR
    · intro t li lj g hR
      have hR : wbX5_clearBelow_4 (wpX5_clearBelow k) k t li lj Q := hR
      show wbX5_clearBelow_4 (wpX5_clearBelow k) k t li lj (fun t => Q t ∧ G t)
      unfold wbX5_clearBelow_4 at hR ⊢
      exact ⟨fun c1 => ih.2.2.2.2.2 _ _ _ g (hR.1 c1), fun c2 => ⟨fun c3 => ih.2.2.2.2.2 _ _ _ g ((hR.2 c2).1 c3), fun c4 => fun x5 e5 => fun x6 e6 => ⟨((((hR.2 c2).2 c4) x5 e5) x6 e6).1, fun x7 e7 => fun x8 e8 => fun x9 e9 => fun x10 e10 => ⟨((((((((hR.2 c2).2 c4) x5 e5) x6 e6).2 x7 e7) x8 e8) x9 e9) x10 e10).1, fun x11 e11 => fun x12 e12 => fun x13 e13 => ⟨(((((((((((hR.2 c2).2 c4) x5 e5) x6 e6).2 x7 e7) x8 e8) x9 e9) x10 e10).2 x11 e11) x12 e12) x13 e13).1, fun x14 e14 => ⟨((((((((((((hR.2 c2).2 c4) x5 e5) x6 e6).2 x7 e7) x8 e8) x9 e9) x10 e10).2 x11 e11) x12 e12) x13 e13).2 x14 e14).1, fun x15 e15 => have g15 : G x15 := (by rw [e15]; exact hk.2.2.2 _ _ _ (by decide) g); fun x16 e16 => ih.2.2.2.2.1 _ _ _ g15 ((((((((((((((hR.2 c2).2 c4) x5 e5) x6 e6).2 x7 e7) x8 e8) x9 e9) x10 e10).2 x11 e11) x12 e12) x13 e13).2 x14 e14).2 x15 e15) x16 e16)⟩⟩⟩⟩⟩⟩
    · intro t li lj g hR
      have hR : wbX5_clearBelow_5 (wpX5_clearBelow k) k t li lj Q := hR
      show wbX5_clearBelow_5 (wpX5_clearBelow k) k t li lj (fun t => Q t ∧ G t)
      unfold wbX5_clearBelow_5 at hR ⊢
      exact fun x1 e1 => ih.2.1 _ _ _ g (hR x1 e1)
theorem zgX5_clearBelow {G : XT → Prop} {k : Nat} {t : XT} {a1 : Int32} {a2 : Int32} {a3 : Int64} {Q : XT → Prop} (hk : kpP G) (g : G t) (hR : wqX5_clearBelow k t a1 a2 a3 Q) : wqX5_clearBelow k t a1 a2 a3 (fun t => Q t ∧ G t) := (zfX5_clearBelow hk Q k).1 t _ _ g hR
theorem ztX5_clearBelow {G : XT → Prop} {k : Nat} {t : XT} {a1 : Int32} {a2 : Int32} {a3 : Int64} {Q Q' : XT → Prop} (hk : kpP G) (g : G t) (hR : wqX5_clearBelow k t a1 a2 a3 Q) (hQ : (∀ t, Q t → G t → Q' t)) : wqX5_clearBelow k t a1 a2 a3 Q' := wmX5_clearBelow (Nat.le_refl k) (fun t h => hQ t h.1 h.2) (zgX5_clearBelow hk g hR)
set_option maxHeartbeats 4000000 in
set_option maxRecDepth 100000 in
theorem zfX5_eliminate {G : XT → Prop} (hk : kpP G) (Q : Int32 → XT → Prop) : ∀ k : Nat, (∀ (t : XT) (li : Nat → Int32) (lj : Nat → Int64), G t → wpX5_eliminate k 0 t li lj Q → wpX5_eliminate k 0 t li lj (fun r t => Q r t ∧ G t)) ∧ (∀ (t : XT) (li : Nat → Int32) (lj : Nat → Int64), G t → wpX5_eliminate k 1 t li lj Q → wpX5_eliminate k 1 t li lj (fun r t => Q r t ∧ G t)) ∧ (∀ (t : XT) (li : Nat → Int32) (lj : Nat → Int64), G t → wpX5_eliminate k 2 t li lj Q → wpX5_eliminate k 2 t li lj (fun r t => Q r t ∧ G t)) ∧ (∀ (t : XT) (li : Nat → Int32) (lj : Nat → Int64), G t → wpX5_eliminate k 3 t li lj Q → wpX5_eliminate k 3 t li lj (fun r t => Q r t ∧ G t)) := by
  intro k
  induction k with
  | zero => exact ⟨fun _ _ _ _ hR => False.elim hR, fun _ _ _ _ hR => False.elim hR, fun _ _ _ _ hR => False.elim hR, fun _ _ _ _ hR => False.elim hR⟩
  | succ k ih =>
    refine ⟨?_, ?_, ?_, ?_⟩
    · intro t li lj g hR
      have hR : wbX5_eliminate_0 (wpX5_eliminate k) k t li lj Q := hR
      show wbX5_eliminate_0 (wpX5_eliminate k) k t li lj (fun r t => Q r t ∧ G t)
      unfold wbX5_eliminate_0 at hR ⊢
      exact fun x1 e1 => ⟨(hR x1 e1).1, (hR x1 e1).2.1, (hR x1 e1).2.2.1, (hR x1 e1).2.2.2.1, (hR x1 e1).2.2.2.2.1, fun x2 e2 => have g2 : G x2 := (by rw [e2]; exact hk.2.2.2 _ _ _ (by decide) g); ih.2.1 _ _ _ g2 ((hR x1 e1).2.2.2.2.2 x2 e2)⟩
    · intro t li lj g hR
      have hR : wbX5_eliminate_1 (wpX5_eliminate k) k t li lj Q := hR
      show wbX5_eliminate_1 (wpX5_eliminate k) k t li lj (fun r t => Q r t ∧ G t)
      unfold wbX5_eliminate_1 at hR ⊢
      exact ⟨fun c1 => ih.2.2.2 _ _ _ g (hR.1 c1), fun c2 => ⟨fun c3 => ih.2.2.2 _ _ _ g ((hR.2 c2).1 c3), fun c4 => ztX5_firstRow hk g ((hR.2 c2).2 c4) (fun y5_0 y5_1 h5 g5 => ⟨fun c6 => ih.2.2.1 _ _ _ g5 (h5.1 c6), fun c7 => ztX5_swapRows_c31 hk g5 (h5.2 c7) (fun y8_0 h8 g8 => ztX5_makePositive hk g8 h8 (fun y9_0 h9 g9 => ztX5_clearBelow hk g9 h9 (fun y10_0 h10 g10 => fun x11 e11 => fun x12 e12 => ⟨((h10 x11 e11) x12 e12).1, fun x13 e13 => fun x14 e14 => ih.2.2.1 _ _ _ g10 ((((h10 x11 e11) x12 e12).2 x13 e13) x14 e14)⟩)))⟩)⟩⟩
    · intro t li lj g hR
      have hR : wbX5_eliminate_2 (wpX5_eliminate k) k t li lj Q := hR
      show wbX5_eliminate_2 (wpX5_eliminate k) k t li lj (fun r t => Q r t ∧ G t)
      unfold wbX5_eliminate_2 at hR ⊢
      exact fun x1 e1 => ih.2.1 _ _ _ g (hR x1 e1)
    · intro t li lj g hR
      have hR : wbX5_eliminate_3 (wpX5_eliminate k) k t li lj Q := hR
      show wbX5_eliminate_3 (wpX5_eliminate k) k t li lj (fun r t => Q r t ∧ G t)
      unfold wbX5_eliminate_3 at hR ⊢
      exact fun x1 e1 => have g1 : G x1 := (by rw [e1]; exact hk.2.1 _ _ _ (by decide) (by decide) (by decide) (by decide) g); ⟨(hR x1 e1), g1⟩
theorem zgX5_eliminate {G : XT → Prop} {k : Nat} {t : XT}  {Q : Int32 → XT → Prop} (hk : kpP G) (g : G t) (hR : wqX5_eliminate k t  Q) : wqX5_eliminate k t  (fun r t => Q r t ∧ G t) := (zfX5_eliminate hk Q k).1 t _ _ g hR
theorem ztX5_eliminate {G : XT → Prop} {k : Nat} {t : XT}  {Q Q' : Int32 → XT → Prop} (hk : kpP G) (g : G t) (hR : wqX5_eliminate k t  Q) (hQ : (∀ r t, Q r t → G t → Q' r t)) : wqX5_eliminate k t  Q' := wmX5_eliminate (Nat.le_refl k) (fun r t h => hQ r t h.1 h.2) (zgX5_eliminate hk g hR)
set_option maxHeartbeats 4000000 in
set_option maxRecDepth 100000 in
theorem zfX0_rankOf {G : XT → Prop} (hk : kpP G) (Q : Int32 → XT → Prop) : ∀ k : Nat, (∀ (t : XT) (li : Nat → Int32) (lj : Nat → Int64), G t → wpX0_rankOf k 0 t li lj Q → wpX0_rankOf k 0 t li lj (fun r t => Q r t ∧ G t)) ∧ (∀ (t : XT) (li : Nat → Int32) (lj : Nat → Int64), G t → wpX0_rankOf k 1 t li lj Q → wpX0_rankOf k 1 t li lj (fun r t => Q r t ∧ G t)) := by
  intro k
  induction k with
  | zero => exact ⟨fun _ _ _ _ hR => False.elim hR, fun _ _ _ _ hR => False.elim hR⟩
  | succ k ih =>
    refine ⟨?_, ?_⟩
    · intro t li lj g hR
      have hR : wbX0_rankOf_0 (wpX0_rankOf k) k t li lj Q := hR
      show wbX0_rankOf_0 (wpX0_rankOf k) k t li lj (fun r t => Q r t ∧ G t)
      unfold wbX0_rankOf_0 at hR ⊢
      exact ⟨fun c1 => ih.2 _ _ _ g (hR.1 c1), fun c2 => ⟨fun c3 => ⟨((hR.2 c2).1 c3).1, fun x4 e4 => fun x5 e5 => fun x6 e6 => ⟨(((((hR.2 c2).1 c3).2 x4 e4) x5 e5) x6 e6).1, fun x7 e7 => fun x8 e8 => ztX0_fill hk g (((((((hR.2 c2).1 c3).2 x4 e4) x5 e5) x6 e6).2 x7 e7) x8 e8) (fun y9_0 h9 g9 => ztX5_eliminate hk g9 h9 (fun y10_0 y10_1 h10 g10 => ⟨h10, g10⟩))⟩⟩, fun c11 => ih.2 _ _ _ g ((hR.2 c2).2 c11)⟩⟩
    · intro t li lj g hR
      have hR : wbX0_rankOf_1 (wpX0_rankOf k) k t li lj Q := hR
      show wbX0_rankOf_1 (wpX0_rankOf k) k t li lj (fun r t => Q r t ∧ G t)
      unfold wbX0_rankOf_1 at hR ⊢
      exact ⟨hR, g⟩
theorem zgX0_rankOf {G : XT → Prop} {k : Nat} {t : XT} {a1 : Int64} {a2 : Int32} {a3 : Int32} {Q : Int32 → XT → Prop} (hk : kpP G) (g : G t) (hR : wqX0_rankOf k t a1 a2 a3 Q) : wqX0_rankOf k t a1 a2 a3 (fun r t => Q r t ∧ G t) := (zfX0_rankOf hk Q k).1 t _ _ g hR
theorem ztX0_rankOf {G : XT → Prop} {k : Nat} {t : XT} {a1 : Int64} {a2 : Int32} {a3 : Int32} {Q Q' : Int32 → XT → Prop} (hk : kpP G) (g : G t) (hR : wqX0_rankOf k t a1 a2 a3 Q) (hQ : (∀ r t, Q r t → G t → Q' r t)) : wqX0_rankOf k t a1 a2 a3 Q' := wmX0_rankOf (Nat.le_refl k) (fun r t h => hQ r t h.1 h.2) (zgX0_rankOf hk g hR)
set_option maxHeartbeats 4000000 in
set_option maxRecDepth 100000 in
theorem zfX0_bettiOf {G : XT → Prop} (hk : kpP G) (Q : Int32 → XT → Prop) : ∀ k : Nat, (∀ (t : XT) (li : Nat → Int32) (lj : Nat → Int64), G t → wpX0_bettiOf k 0 t li lj Q → wpX0_bettiOf k 0 t li lj (fun r t => Q r t ∧ G t)) := by
  intro k
  induction k with
  | zero => exact fun _ _ _ _ hR => False.elim hR
  | succ k ih =>
    intro t li lj g hR
    have hR : wbX0_bettiOf_0 (wpX0_bettiOf k) k t li lj Q := hR
    show wbX0_bettiOf_0 (wpX0_bettiOf k) k t li lj (fun r t => Q r t ∧ G t)
    unfold wbX0_bettiOf_0 at hR ⊢
    exact ⟨hR.1, fun x1 e1 => fun x2 e2 => wcJ13_bitCount_95d88 ((hR.2 x1 e1) x2 e2) (fun y3_0 h3 => ztX0_rankOf hk g h3 (fun y4_0 y4_1 h4 g4 => fun x5 e5 => fun x6 e6 => ztX0_rankOf hk g4 ((h4 x5 e5) x6 e6) (fun y7_0 y7_1 h7 g7 => fun x8 e8 => ⟨(h7 x8 e8), g7⟩)))⟩
theorem zgX0_bettiOf {G : XT → Prop} {k : Nat} {t : XT} {a1 : Int64} {a2 : Int32} {a3 : Int32} {Q : Int32 → XT → Prop} (hk : kpP G) (g : G t) (hR : wqX0_bettiOf k t a1 a2 a3 Q) : wqX0_bettiOf k t a1 a2 a3 (fun r t => Q r t ∧ G t) := (zfX0_bettiOf hk Q k) t _ _ g hR
theorem ztX0_bettiOf {G : XT → Prop} {k : Nat} {t : XT} {a1 : Int64} {a2 : Int32} {a3 : Int32} {Q Q' : Int32 → XT → Prop} (hk : kpP G) (g : G t) (hR : wqX0_bettiOf k t a1 a2 a3 Q) (hQ : (∀ r t, Q r t → G t → Q' r t)) : wqX0_bettiOf k t a1 a2 a3 Q' := wmX0_bettiOf (Nat.le_refl k) (fun r t h => hQ r t h.1 h.2) (zgX0_bettiOf hk g hR)
set_option maxHeartbeats 4000000 in
set_option maxRecDepth 100000 in
theorem zfX11_betti {G : XT → Prop} (hk : kpP G) (Q : Int32 → XT → Prop) : ∀ k : Nat, (∀ (t : XT) (li : Nat → Int32) (lj : Nat → Int64), G t → wpX11_betti k 0 t li lj Q → wpX11_betti k 0 t li lj (fun r t => Q r t ∧ G t)) ∧ (∀ (t : XT) (li : Nat → Int32) (lj : Nat → Int64), G t → wpX11_betti k 1 t li lj Q → wpX11_betti k 1 t li lj (fun r t => Q r t ∧ G t)) ∧ (∀ (t : XT) (li : Nat → Int32) (lj : Nat → Int64), G t → wpX11_betti k 2 t li lj Q → wpX11_betti k 2 t li lj (fun r t => Q r t ∧ G t)) := by
  intro k
  induction k with
  | zero => exact ⟨fun _ _ _ _ hR => False.elim hR, fun _ _ _ _ hR => False.elim hR, fun _ _ _ _ hR => False.elim hR⟩
  | succ k ih =>
    refine ⟨?_, ?_, ?_⟩
    · intro t li lj g hR
      have hR : wbX11_betti_0 (wpX11_betti k) k t li lj Q := hR
      show wbX11_betti_0 (wpX11_betti k) k t li lj (fun r t => Q r t ∧ G t)
      unfold wbX11_betti_0 at hR ⊢
      exact wcX11_isDim hR (fun y1_0 h1 => ⟨fun c2 => ih.2.1 _ _ _ g (h1.1 c2), fun c3 => ⟨fun c4 => ih.2.1 _ _ _ g ((h1.2 c3).1 c4), fun c5 => ⟨fun c6 => ztX11_basis hk g (((h1.2 c3).2 c5).1 c6) (fun y7_0 y7_1 h7 g7 => ⟨fun c8 => ih.2.2 _ _ _ g7 (h7.1 c8), fun c9 => ih.2.2 _ _ _ g7 (h7.2 c9)⟩), fun c10 => ih.2.1 _ _ _ g (((h1.2 c3).2 c5).2 c10)⟩⟩⟩)
    · intro t li lj g hR
      have hR : wbX11_betti_1 (wpX11_betti k) k t li lj Q := hR
      show wbX11_betti_1 (wpX11_betti k) k t li lj (fun r t => Q r t ∧ G t)
      unfold wbX11_betti_1 at hR ⊢
      exact ⟨hR, g⟩
    · intro t li lj g hR
      have hR : wbX11_betti_2 (wpX11_betti k) k t li lj Q := hR
      show wbX11_betti_2 (wpX11_betti k) k t li lj (fun r t => Q r t ∧ G t)
      unfold wbX11_betti_2 at hR ⊢
      exact ztX0_bettiOf hk g hR (fun y1_0 y1_1 h1 g1 => ⟨h1, g1⟩)
theorem zgX11_betti {G : XT → Prop} {k : Nat} {t : XT} {a1 : Int32} {a2 : Int32} {Q : Int32 → XT → Prop} (hk : kpP G) (g : G t) (hR : wqX11_betti k t a1 a2 Q) : wqX11_betti k t a1 a2 (fun r t => Q r t ∧ G t) := (zfX11_betti hk Q k).1 t _ _ g hR
theorem ztX11_betti {G : XT → Prop} {k : Nat} {t : XT} {a1 : Int32} {a2 : Int32} {Q Q' : Int32 → XT → Prop} (hk : kpP G) (g : G t) (hR : wqX11_betti k t a1 a2 Q) (hQ : (∀ r t, Q r t → G t → Q' r t)) : wqX11_betti k t a1 a2 Q' := wmX11_betti (Nat.le_refl k) (fun r t h => hQ r t h.1 h.2) (zgX11_betti hk g hR)
set_option maxHeartbeats 4000000 in
set_option maxRecDepth 100000 in
theorem zfX5_remainder {G : XT → Prop} (hk : kpP G) (Q : Int64 → XT → Prop) : ∀ k : Nat, (∀ (t : XT) (li : Nat → Int32) (lj : Nat → Int64), G t → wpX5_remainder k 0 t li lj Q → wpX5_remainder k 0 t li lj (fun r t => Q r t ∧ G t)) := by
  intro k
  induction k with
  | zero => exact fun _ _ _ _ hR => False.elim hR
  | succ k ih =>
    intro t li lj g hR
    have hR : wbX5_remainder_0 (wpX5_remainder k) k t li lj Q := hR
    show wbX5_remainder_0 (wpX5_remainder k) k t li lj (fun r t => Q r t ∧ G t)
    unfold wbX5_remainder_0 at hR ⊢
    exact fun x1 e1 => ⟨fun c2 => wcJ9_floorMod_f86c9 ((hR x1 e1).1 c2) (fun y3_0 h3 => fun x4 e4 => fun x5 e5 => ⟨fun c6 => ⟨(((h3 x4 e4) x5 e5).1 c6), g⟩, fun c7 => fun x8 e8 => ⟨((((h3 x4 e4) x5 e5).2 c7) x8 e8), g⟩⟩), fun c9 => ⟨((hR x1 e1).2 c9), g⟩⟩
theorem zgX5_remainder {G : XT → Prop} {k : Nat} {t : XT} {a1 : Int64} {Q : Int64 → XT → Prop} (hk : kpP G) (g : G t) (hR : wqX5_remainder k t a1 Q) : wqX5_remainder k t a1 (fun r t => Q r t ∧ G t) := (zfX5_remainder hk Q k) t _ _ g hR
theorem ztX5_remainder {G : XT → Prop} {k : Nat} {t : XT} {a1 : Int64} {Q Q' : Int64 → XT → Prop} (hk : kpP G) (g : G t) (hR : wqX5_remainder k t a1 Q) (hQ : (∀ r t, Q r t → G t → Q' r t)) : wqX5_remainder k t a1 Q' := wmX5_remainder (Nat.le_refl k) (fun r t h => hQ r t h.1 h.2) (zgX5_remainder hk g hR)
set_option maxHeartbeats 4000000 in
set_option maxRecDepth 100000 in
theorem zfX5_leastCell {G : XT → Prop} (hk : kpP G) (Q : Int32 → XT → Prop) : ∀ k : Nat, (∀ (t : XT) (li : Nat → Int32) (lj : Nat → Int64), G t → wpX5_leastCell k 0 t li lj Q → wpX5_leastCell k 0 t li lj (fun r t => Q r t ∧ G t)) ∧ (∀ (t : XT) (li : Nat → Int32) (lj : Nat → Int64), G t → wpX5_leastCell k 1 t li lj Q → wpX5_leastCell k 1 t li lj (fun r t => Q r t ∧ G t)) ∧ (∀ (t : XT) (li : Nat → Int32) (lj : Nat → Int64), G t → wpX5_leastCell k 2 t li lj Q → wpX5_leastCell k 2 t li lj (fun r t => Q r t ∧ G t)) ∧ (∀ (t : XT) (li : Nat → Int32) (lj : Nat → Int64), G t → wpX5_leastCell k 3 t li lj Q → wpX5_leastCell k 3 t li lj (fun r t => Q r t ∧ G t)) ∧ (∀ (t : XT) (li : Nat → Int32) (lj : Nat → Int64), G t → wpX5_leastCell k 4 t li lj Q → wpX5_leastCell k 4 t li lj (fun r t => Q r t ∧ G t)) ∧ (∀ (t : XT) (li : Nat → Int32) (lj : Nat → Int64), G t → wpX5_leastCell k 5 t li lj Q → wpX5_leastCell k 5 t li lj (fun r t => Q r t ∧ G t)) := by
  intro k
  induction k with
  | zero => exact ⟨fun _ _ _ _ hR => False.elim hR, fun _ _ _ _ hR => False.elim hR, fun _ _ _ _ hR => False.elim hR, fun _ _ _ _ hR => False.elim hR, fun _ _ _ _ hR => False.elim hR, fun _ _ _ _ hR => False.elim hR⟩
  | succ k ih =>
    refine ⟨?_, ?_, ?_, ?_, ?_, ?_⟩
    · intro t li lj g hR
      have hR : wbX5_leastCell_0 (wpX5_leastCell k) k t li lj Q := hR
      show wbX5_leastCell_0 (wpX5_leastCell k) k t li lj (fun r t => Q r t ∧ G t)
      unfold wbX5_leastCell_0 at hR ⊢
      exact ih.2.1 _ _ _ g hR
    · intro t li lj g hR
      have hR : wbX5_leastCell_1 (wpX5_leastCell k) k t li lj Q := hR
      show wbX5_leastCell_1 (wpX5_leastCell k) k t li lj (fun r t => Q r t ∧ G t)
      unfold wbX5_leastCell_1 at hR ⊢
      exact ⟨fun c1 => ⟨(hR.1 c1), g⟩, fun c2 => ih.2.2.1 _ _ _ g (hR.2 c2)⟩
    · intro t li lj g hR
      have hR : wbX5_leastCell_2 (wpX5_leastCell k) k t li lj Q := hR
      show wbX5_leastCell_2 (wpX5_leastCell k) k t li lj (fun r t => Q r t ∧ G t)
      unfold wbX5_leastCell_2 at hR ⊢
      exact ⟨fun c1 => fun x2 e2 => ih.2.1 _ _ _ g ((hR.1 c1) x2 e2), fun c3 => fun x4 e4 => fun x5 e5 => ⟨fun c6 => ih.2.2.2.1 _ _ _ g ((((hR.2 c3) x4 e4) x5 e5).1 c6), fun c7 => ⟨((((hR.2 c3) x4 e4) x5 e5).2 c7).1, fun x8 e8 => fun x9 e9 => ⟨((((((hR.2 c3) x4 e4) x5 e5).2 c7).2 x8 e8) x9 e9).1, fun x10 e10 => fun x11 e11 => fun x12 e12 => ⟨fun c13 => ih.2.2.2.2.1 _ _ _ g ((((((((((hR.2 c3) x4 e4) x5 e5).2 c7).2 x8 e8) x9 e9).2 x10 e10) x11 e11) x12 e12).1 c13), fun c14 => ih.2.2.2.1 _ _ _ g ((((((((((hR.2 c3) x4 e4) x5 e5).2 c7).2 x8 e8) x9 e9).2 x10 e10) x11 e11) x12 e12).2 c14)⟩⟩⟩⟩⟩
    · intro t li lj g hR
      have hR : wbX5_leastCell_3 (wpX5_leastCell k) k t li lj Q := hR
      show wbX5_leastCell_3 (wpX5_leastCell k) k t li lj (fun r t => Q r t ∧ G t)
      unfold wbX5_leastCell_3 at hR ⊢
      exact ih.2.2.2.2.1 _ _ _ g hR
    · intro t li lj g hR
      have hR : wbX5_leastCell_4 (wpX5_leastCell k) k t li lj Q := hR
      show wbX5_leastCell_4 (wpX5_leastCell k) k t li lj (fun r t => Q r t ∧ G t)
      unfold wbX5_leastCell_4 at hR ⊢
      exact ⟨hR.1, fun x1 e1 => fun x2 e2 => ⟨fun c3 => ih.2.2.2.2.2 _ _ _ g (((hR.2 x1 e1) x2 e2).1 c3), fun c4 => ⟨fun c5 => ih.2.2.2.2.2 _ _ _ g ((((hR.2 x1 e1) x2 e2).2 c4).1 c5), fun c6 => ih.2.2.2.2.2 _ _ _ g ((((hR.2 x1 e1) x2 e2).2 c4).2 c6)⟩⟩⟩
    · intro t li lj g hR
      have hR : wbX5_leastCell_5 (wpX5_leastCell k) k t li lj Q := hR
      show wbX5_leastCell_5 (wpX5_leastCell k) k t li lj (fun r t => Q r t ∧ G t)
      unfold wbX5_leastCell_5 at hR ⊢
      exact fun x1 e1 => ih.2.2.1 _ _ _ g (hR x1 e1)
theorem zgX5_leastCell {G : XT → Prop} {k : Nat} {t : XT} {a1 : Int32} {Q : Int32 → XT → Prop} (hk : kpP G) (g : G t) (hR : wqX5_leastCell k t a1 Q) : wqX5_leastCell k t a1 (fun r t => Q r t ∧ G t) := (zfX5_leastCell hk Q k).1 t _ _ g hR
theorem ztX5_leastCell {G : XT → Prop} {k : Nat} {t : XT} {a1 : Int32} {Q Q' : Int32 → XT → Prop} (hk : kpP G) (g : G t) (hR : wqX5_leastCell k t a1 Q) (hQ : (∀ r t, Q r t → G t → Q' r t)) : wqX5_leastCell k t a1 Q' := wmX5_leastCell (Nat.le_refl k) (fun r t h => hQ r t h.1 h.2) (zgX5_leastCell hk g hR)
set_option maxHeartbeats 4000000 in
set_option maxRecDepth 100000 in
theorem zfX5_swapRows_c30 {G : XT → Prop} (hk : kpP G) (Q : XT → Prop) : ∀ k : Nat, (∀ (t : XT) (li : Nat → Int32) (lj : Nat → Int64), G t → wpX5_swapRows_c30 k 0 t li lj Q → wpX5_swapRows_c30 k 0 t li lj (fun t => Q t ∧ G t)) ∧ (∀ (t : XT) (li : Nat → Int32) (lj : Nat → Int64), G t → wpX5_swapRows_c30 k 1 t li lj Q → wpX5_swapRows_c30 k 1 t li lj (fun t => Q t ∧ G t)) := by
  intro k
  induction k with
  | zero => exact ⟨fun _ _ _ _ hR => False.elim hR, fun _ _ _ _ hR => False.elim hR⟩
  | succ k ih =>
    refine ⟨?_, ?_⟩
    · intro t li lj g hR
      have hR : wbX5_swapRows_c30_0 (wpX5_swapRows_c30 k) k t li lj Q := hR
      show wbX5_swapRows_c30_0 (wpX5_swapRows_c30 k) k t li lj (fun t => Q t ∧ G t)
      unfold wbX5_swapRows_c30_0 at hR ⊢
      exact ih.2 _ _ _ g hR
    · intro t li lj g hR
      have hR : wbX5_swapRows_c30_1 (wpX5_swapRows_c30 k) k t li lj Q := hR
      show wbX5_swapRows_c30_1 (wpX5_swapRows_c30 k) k t li lj (fun t => Q t ∧ G t)
      unfold wbX5_swapRows_c30_1 at hR ⊢
      exact ⟨fun c1 => ⟨(hR.1 c1), g⟩, fun c2 => ⟨fun c3 => ⟨((hR.2 c2).1 c3), g⟩, fun c4 => fun x5 e5 => fun x6 e6 => ⟨((((hR.2 c2).2 c4) x5 e5) x6 e6).1, fun x7 e7 => fun x8 e8 => fun x9 e9 => fun x10 e10 => fun x11 e11 => ⟨(((((((((hR.2 c2).2 c4) x5 e5) x6 e6).2 x7 e7) x8 e8) x9 e9) x10 e10) x11 e11).1, fun x12 e12 => ⟨((((((((((hR.2 c2).2 c4) x5 e5) x6 e6).2 x7 e7) x8 e8) x9 e9) x10 e10) x11 e11).2 x12 e12).1, fun x13 e13 => have g13 : G x13 := (by rw [e13]; exact hk.2.2.2 _ _ _ (by decide) g); fun x14 e14 => fun x15 e15 => ⟨(((((((((((((hR.2 c2).2 c4) x5 e5) x6 e6).2 x7 e7) x8 e8) x9 e9) x10 e10) x11 e11).2 x12 e12).2 x13 e13) x14 e14) x15 e15).1, fun x16 e16 => have g16 : G x16 := (by rw [e16]; exact hk.2.2.2 _ _ _ (by decide) g13); fun x17 e17 => ih.2 _ _ _ g16 (((((((((((((((hR.2 c2).2 c4) x5 e5) x6 e6).2 x7 e7) x8 e8) x9 e9) x10 e10) x11 e11).2 x12 e12).2 x13 e13) x14 e14) x15 e15).2 x16 e16) x17 e17)⟩⟩⟩⟩⟩⟩
theorem zgX5_swapRows_c30 {G : XT → Prop} {k : Nat} {t : XT} {a2 : Int32} {a3 : Int32} {Q : XT → Prop} (hk : kpP G) (g : G t) (hR : wqX5_swapRows_c30 k t a2 a3 Q) : wqX5_swapRows_c30 k t a2 a3 (fun t => Q t ∧ G t) := (zfX5_swapRows_c30 hk Q k).1 t _ _ g hR
theorem ztX5_swapRows_c30 {G : XT → Prop} {k : Nat} {t : XT} {a2 : Int32} {a3 : Int32} {Q Q' : XT → Prop} (hk : kpP G) (g : G t) (hR : wqX5_swapRows_c30 k t a2 a3 Q) (hQ : (∀ t, Q t → G t → Q' t)) : wqX5_swapRows_c30 k t a2 a3 Q' := wmX5_swapRows_c30 (Nat.le_refl k) (fun t h => hQ t h.1 h.2) (zgX5_swapRows_c30 hk g hR)
set_option maxHeartbeats 4000000 in
set_option maxRecDepth 100000 in
theorem zfX5_swapColumns {G : XT → Prop} (hk : kpP G) (Q : XT → Prop) : ∀ k : Nat, (∀ (t : XT) (li : Nat → Int32) (lj : Nat → Int64), G t → wpX5_swapColumns k 0 t li lj Q → wpX5_swapColumns k 0 t li lj (fun t => Q t ∧ G t)) ∧ (∀ (t : XT) (li : Nat → Int32) (lj : Nat → Int64), G t → wpX5_swapColumns k 1 t li lj Q → wpX5_swapColumns k 1 t li lj (fun t => Q t ∧ G t)) := by
  intro k
  induction k with
  | zero => exact ⟨fun _ _ _ _ hR => False.elim hR, fun _ _ _ _ hR => False.elim hR⟩
  | succ k ih =>
    refine ⟨?_, ?_⟩
    · intro t li lj g hR
      have hR : wbX5_swapColumns_0 (wpX5_swapColumns k) k t li lj Q := hR
      show wbX5_swapColumns_0 (wpX5_swapColumns k) k t li lj (fun t => Q t ∧ G t)
      unfold wbX5_swapColumns_0 at hR ⊢
      exact ih.2 _ _ _ g hR
    · intro t li lj g hR
      have hR : wbX5_swapColumns_1 (wpX5_swapColumns k) k t li lj Q := hR
      show wbX5_swapColumns_1 (wpX5_swapColumns k) k t li lj (fun t => Q t ∧ G t)
      unfold wbX5_swapColumns_1 at hR ⊢
      exact ⟨fun c1 => ⟨(hR.1 c1), g⟩, fun c2 => ⟨fun c3 => ⟨((hR.2 c2).1 c3), g⟩, fun c4 => fun x5 e5 => fun x6 e6 => ⟨((((hR.2 c2).2 c4) x5 e5) x6 e6).1, fun x7 e7 => fun x8 e8 => fun x9 e9 => fun x10 e10 => fun x11 e11 => ⟨(((((((((hR.2 c2).2 c4) x5 e5) x6 e6).2 x7 e7) x8 e8) x9 e9) x10 e10) x11 e11).1, fun x12 e12 => ⟨((((((((((hR.2 c2).2 c4) x5 e5) x6 e6).2 x7 e7) x8 e8) x9 e9) x10 e10) x11 e11).2 x12 e12).1, fun x13 e13 => have g13 : G x13 := (by rw [e13]; exact hk.2.2.2 _ _ _ (by decide) g); fun x14 e14 => fun x15 e15 => ⟨(((((((((((((hR.2 c2).2 c4) x5 e5) x6 e6).2 x7 e7) x8 e8) x9 e9) x10 e10) x11 e11).2 x12 e12).2 x13 e13) x14 e14) x15 e15).1, fun x16 e16 => have g16 : G x16 := (by rw [e16]; exact hk.2.2.2 _ _ _ (by decide) g13); fun x17 e17 => ih.2 _ _ _ g16 (((((((((((((((hR.2 c2).2 c4) x5 e5) x6 e6).2 x7 e7) x8 e8) x9 e9) x10 e10) x11 e11).2 x12 e12).2 x13 e13) x14 e14) x15 e15).2 x16 e16) x17 e17)⟩⟩⟩⟩⟩⟩
theorem zgX5_swapColumns {G : XT → Prop} {k : Nat} {t : XT} {a1 : Int32} {a2 : Int32} {Q : XT → Prop} (hk : kpP G) (g : G t) (hR : wqX5_swapColumns k t a1 a2 Q) : wqX5_swapColumns k t a1 a2 (fun t => Q t ∧ G t) := (zfX5_swapColumns hk Q k).1 t _ _ g hR
theorem ztX5_swapColumns {G : XT → Prop} {k : Nat} {t : XT} {a1 : Int32} {a2 : Int32} {Q Q' : XT → Prop} (hk : kpP G) (g : G t) (hR : wqX5_swapColumns k t a1 a2 Q) (hQ : (∀ t, Q t → G t → Q' t)) : wqX5_swapColumns k t a1 a2 Q' := wmX5_swapColumns (Nat.le_refl k) (fun t h => hQ t h.1 h.2) (zgX5_swapColumns hk g hR)
set_option maxHeartbeats 4000000 in
set_option maxRecDepth 100000 in
theorem zfX5_reduceRows {G : XT → Prop} (hk : kpP G) (Q : Int32 → XT → Prop) : ∀ k : Nat, (∀ (t : XT) (li : Nat → Int32) (lj : Nat → Int64), G t → wpX5_reduceRows k 0 t li lj Q → wpX5_reduceRows k 0 t li lj (fun r t => Q r t ∧ G t)) ∧ (∀ (t : XT) (li : Nat → Int32) (lj : Nat → Int64), G t → wpX5_reduceRows k 1 t li lj Q → wpX5_reduceRows k 1 t li lj (fun r t => Q r t ∧ G t)) ∧ (∀ (t : XT) (li : Nat → Int32) (lj : Nat → Int64), G t → wpX5_reduceRows k 2 t li lj Q → wpX5_reduceRows k 2 t li lj (fun r t => Q r t ∧ G t)) ∧ (∀ (t : XT) (li : Nat → Int32) (lj : Nat → Int64), G t → wpX5_reduceRows k 3 t li lj Q → wpX5_reduceRows k 3 t li lj (fun r t => Q r t ∧ G t)) ∧ (∀ (t : XT) (li : Nat → Int32) (lj : Nat → Int64), G t → wpX5_reduceRows k 4 t li lj Q → wpX5_reduceRows k 4 t li lj (fun r t => Q r t ∧ G t)) ∧ (∀ (t : XT) (li : Nat → Int32) (lj : Nat → Int64), G t → wpX5_reduceRows k 5 t li lj Q → wpX5_reduceRows k 5 t li lj (fun r t => Q r t ∧ G t)) := by
  intro k
  induction k with
  | zero => exact ⟨fun _ _ _ _ hR => False.elim hR, fun _ _ _ _ hR => False.elim hR, fun _ _ _ _ hR => False.elim hR, fun _ _ _ _ hR => False.elim hR, fun _ _ _ _ hR => False.elim hR, fun _ _ _ _ hR => False.elim hR⟩
  | succ k ih =>
    refine ⟨?_, ?_, ?_, ?_, ?_, ?_⟩
    · intro t li lj g hR
      have hR : wbX5_reduceRows_0 (wpX5_reduceRows k) k t li lj Q := hR
      show wbX5_reduceRows_0 (wpX5_reduceRows k) k t li lj (fun r t => Q r t ∧ G t)
      unfold wbX5_reduceRows_0 at hR ⊢
      exact fun x1 e1 => ih.2.1 _ _ _ g (hR x1 e1)
    · intro t li lj g hR
      have hR : wbX5_reduceRows_1 (wpX5_reduceRows k) k t li lj Q := hR
      show wbX5_reduceRows_1 (wpX5_reduceRows k) k t li lj (fun r t => Q r t ∧ G t)
      unfold wbX5_reduceRows_1 at hR ⊢
      exact ⟨fun c1 => ⟨(hR.1 c1).1, ⟨(hR.1 c1).2, g⟩⟩, fun c2 => fun x3 e3 => fun x4 e4 => ⟨(((hR.2 c2) x3 e3) x4 e4).1, fun x5 e5 => fun x6 e6 => fun x7 e7 => ⟨((((((hR.2 c2) x3 e3) x4 e4).2 x5 e5) x6 e6) x7 e7).1, fun x8 e8 => wcX5_nearest (((((((hR.2 c2) x3 e3) x4 e4).2 x5 e5) x6 e6) x7 e7).2 x8 e8) (fun y9_0 h9 => ih.2.2.1 _ _ _ g h9)⟩⟩⟩
    · intro t li lj g hR
      have hR : wbX5_reduceRows_2 (wpX5_reduceRows k) k t li lj Q := hR
      show wbX5_reduceRows_2 (wpX5_reduceRows k) k t li lj (fun r t => Q r t ∧ G t)
      unfold wbX5_reduceRows_2 at hR ⊢
      exact ⟨fun c1 => ih.2.2.2.1 _ _ _ g (hR.1 c1), fun c2 => fun x3 e3 => ⟨fun c4 => ih.2.2.2.1 _ _ _ g (((hR.2 c2) x3 e3).1 c4), fun c5 => fun x6 e6 => fun x7 e7 => ⟨(((((hR.2 c2) x3 e3).2 c5) x6 e6) x7 e7).1, fun x8 e8 => fun x9 e9 => fun x10 e10 => ⟨((((((((hR.2 c2) x3 e3).2 c5) x6 e6) x7 e7).2 x8 e8) x9 e9) x10 e10).1, fun x11 e11 => fun x12 e12 => fun x13 e13 => ztX5_remainder hk g (((((((((((hR.2 c2) x3 e3).2 c5) x6 e6) x7 e7).2 x8 e8) x9 e9) x10 e10).2 x11 e11) x12 e12) x13 e13) (fun y14_0 y14_1 h14 g14 => ⟨h14.1, fun x15 e15 => have g15 : G x15 := (by rw [e15]; exact hk.2.2.2 _ _ _ (by decide) g14); fun x16 e16 => ih.2.2.1 _ _ _ g15 ((h14.2 x15 e15) x16 e16)⟩)⟩⟩⟩⟩
    · intro t li lj g hR
      have hR : wbX5_reduceRows_3 (wpX5_reduceRows k) k t li lj Q := hR
      show wbX5_reduceRows_3 (wpX5_reduceRows k) k t li lj (fun r t => Q r t ∧ G t)
      unfold wbX5_reduceRows_3 at hR ⊢
      exact ⟨fun c1 => ih.2.2.2.2.1 _ _ _ g (hR.1 c1), fun c2 => fun x3 e3 => fun x4 e4 => ⟨(((hR.2 c2) x3 e3) x4 e4).1, fun x5 e5 => fun x6 e6 => ⟨fun c7 => ih.2.2.2.2.1 _ _ _ g ((((((hR.2 c2) x3 e3) x4 e4).2 x5 e5) x6 e6).1 c7), fun c8 => ih.2.2.2.2.2 _ _ _ g ((((((hR.2 c2) x3 e3) x4 e4).2 x5 e5) x6 e6).2 c8)⟩⟩⟩
    · intro t li lj g hR
      have hR : wbX5_reduceRows_4 (wpX5_reduceRows k) k t li lj Q := hR
      show wbX5_reduceRows_4 (wpX5_reduceRows k) k t li lj (fun r t => Q r t ∧ G t)
      unfold wbX5_reduceRows_4 at hR ⊢
      exact ih.2.2.2.2.2 _ _ _ g hR
    · intro t li lj g hR
      have hR : wbX5_reduceRows_5 (wpX5_reduceRows k) k t li lj Q := hR
      show wbX5_reduceRows_5 (wpX5_reduceRows k) k t li lj (fun r t => Q r t ∧ G t)
      unfold wbX5_reduceRows_5 at hR ⊢
      exact fun x1 e1 => ih.2.1 _ _ _ g (hR x1 e1)
theorem zgX5_reduceRows {G : XT → Prop} {k : Nat} {t : XT} {a1 : Int32} {Q : Int32 → XT → Prop} (hk : kpP G) (g : G t) (hR : wqX5_reduceRows k t a1 Q) : wqX5_reduceRows k t a1 (fun r t => Q r t ∧ G t) := (zfX5_reduceRows hk Q k).1 t _ _ g hR
theorem ztX5_reduceRows {G : XT → Prop} {k : Nat} {t : XT} {a1 : Int32} {Q Q' : Int32 → XT → Prop} (hk : kpP G) (g : G t) (hR : wqX5_reduceRows k t a1 Q) (hQ : (∀ r t, Q r t → G t → Q' r t)) : wqX5_reduceRows k t a1 Q' := wmX5_reduceRows (Nat.le_refl k) (fun r t h => hQ r t h.1 h.2) (zgX5_reduceRows hk g hR)
set_option maxHeartbeats 4000000 in
set_option maxRecDepth 100000 in
theorem zfX5_reduceColumns {G : XT → Prop} (hk : kpP G) (Q : Int32 → XT → Prop) : ∀ k : Nat, (∀ (t : XT) (li : Nat → Int32) (lj : Nat → Int64), G t → wpX5_reduceColumns k 0 t li lj Q → wpX5_reduceColumns k 0 t li lj (fun r t => Q r t ∧ G t)) ∧ (∀ (t : XT) (li : Nat → Int32) (lj : Nat → Int64), G t → wpX5_reduceColumns k 1 t li lj Q → wpX5_reduceColumns k 1 t li lj (fun r t => Q r t ∧ G t)) ∧ (∀ (t : XT) (li : Nat → Int32) (lj : Nat → Int64), G t → wpX5_reduceColumns k 2 t li lj Q → wpX5_reduceColumns k 2 t li lj (fun r t => Q r t ∧ G t)) ∧ (∀ (t : XT) (li : Nat → Int32) (lj : Nat → Int64), G t → wpX5_reduceColumns k 3 t li lj Q → wpX5_reduceColumns k 3 t li lj (fun r t => Q r t ∧ G t)) ∧ (∀ (t : XT) (li : Nat → Int32) (lj : Nat → Int64), G t → wpX5_reduceColumns k 4 t li lj Q → wpX5_reduceColumns k 4 t li lj (fun r t => Q r t ∧ G t)) ∧ (∀ (t : XT) (li : Nat → Int32) (lj : Nat → Int64), G t → wpX5_reduceColumns k 5 t li lj Q → wpX5_reduceColumns k 5 t li lj (fun r t => Q r t ∧ G t)) := by
  intro k
  induction k with
  | zero => exact ⟨fun _ _ _ _ hR => False.elim hR, fun _ _ _ _ hR => False.elim hR, fun _ _ _ _ hR => False.elim hR, fun _ _ _ _ hR => False.elim hR, fun _ _ _ _ hR => False.elim hR, fun _ _ _ _ hR => False.elim hR⟩
  | succ k ih =>
    refine ⟨?_, ?_, ?_, ?_, ?_, ?_⟩
    · intro t li lj g hR
      have hR : wbX5_reduceColumns_0 (wpX5_reduceColumns k) k t li lj Q := hR
      show wbX5_reduceColumns_0 (wpX5_reduceColumns k) k t li lj (fun r t => Q r t ∧ G t)
      unfold wbX5_reduceColumns_0 at hR ⊢
      exact fun x1 e1 => ih.2.1 _ _ _ g (hR x1 e1)
    · intro t li lj g hR
      have hR : wbX5_reduceColumns_1 (wpX5_reduceColumns k) k t li lj Q := hR
      show wbX5_reduceColumns_1 (wpX5_reduceColumns k) k t li lj (fun r t => Q r t ∧ G t)
      unfold wbX5_reduceColumns_1 at hR ⊢
      exact ⟨fun c1 => ⟨(hR.1 c1).1, ⟨(hR.1 c1).2, g⟩⟩, fun c2 => fun x3 e3 => fun x4 e4 => ⟨(((hR.2 c2) x3 e3) x4 e4).1, fun x5 e5 => fun x6 e6 => fun x7 e7 => ⟨((((((hR.2 c2) x3 e3) x4 e4).2 x5 e5) x6 e6) x7 e7).1, fun x8 e8 => wcX5_nearest (((((((hR.2 c2) x3 e3) x4 e4).2 x5 e5) x6 e6) x7 e7).2 x8 e8) (fun y9_0 h9 => ih.2.2.1 _ _ _ g h9)⟩⟩⟩
    · intro t li lj g hR
      have hR : wbX5_reduceColumns_2 (wpX5_reduceColumns k) k t li lj Q := hR
      show wbX5_reduceColumns_2 (wpX5_reduceColumns k) k t li lj (fun r t => Q r t ∧ G t)
      unfold wbX5_reduceColumns_2 at hR ⊢
      exact ⟨fun c1 => ih.2.2.2.1 _ _ _ g (hR.1 c1), fun c2 => fun x3 e3 => ⟨fun c4 => ih.2.2.2.1 _ _ _ g (((hR.2 c2) x3 e3).1 c4), fun c5 => fun x6 e6 => fun x7 e7 => ⟨(((((hR.2 c2) x3 e3).2 c5) x6 e6) x7 e7).1, fun x8 e8 => fun x9 e9 => fun x10 e10 => ⟨((((((((hR.2 c2) x3 e3).2 c5) x6 e6) x7 e7).2 x8 e8) x9 e9) x10 e10).1, fun x11 e11 => fun x12 e12 => fun x13 e13 => ztX5_remainder hk g (((((((((((hR.2 c2) x3 e3).2 c5) x6 e6) x7 e7).2 x8 e8) x9 e9) x10 e10).2 x11 e11) x12 e12) x13 e13) (fun y14_0 y14_1 h14 g14 => ⟨h14.1, fun x15 e15 => have g15 : G x15 := (by rw [e15]; exact hk.2.2.2 _ _ _ (by decide) g14); fun x16 e16 => ih.2.2.1 _ _ _ g15 ((h14.2 x15 e15) x16 e16)⟩)⟩⟩⟩⟩
    · intro t li lj g hR
      have hR : wbX5_reduceColumns_3 (wpX5_reduceColumns k) k t li lj Q := hR
      show wbX5_reduceColumns_3 (wpX5_reduceColumns k) k t li lj (fun r t => Q r t ∧ G t)
      unfold wbX5_reduceColumns_3 at hR ⊢
      exact ⟨fun c1 => ih.2.2.2.2.1 _ _ _ g (hR.1 c1), fun c2 => fun x3 e3 => fun x4 e4 => ⟨(((hR.2 c2) x3 e3) x4 e4).1, fun x5 e5 => fun x6 e6 => ⟨fun c7 => ih.2.2.2.2.1 _ _ _ g ((((((hR.2 c2) x3 e3) x4 e4).2 x5 e5) x6 e6).1 c7), fun c8 => ih.2.2.2.2.2 _ _ _ g ((((((hR.2 c2) x3 e3) x4 e4).2 x5 e5) x6 e6).2 c8)⟩⟩⟩
    · intro t li lj g hR
      have hR : wbX5_reduceColumns_4 (wpX5_reduceColumns k) k t li lj Q := hR
      show wbX5_reduceColumns_4 (wpX5_reduceColumns k) k t li lj (fun r t => Q r t ∧ G t)
      unfold wbX5_reduceColumns_4 at hR ⊢
      exact ih.2.2.2.2.2 _ _ _ g hR
    · intro t li lj g hR
      have hR : wbX5_reduceColumns_5 (wpX5_reduceColumns k) k t li lj Q := hR
      show wbX5_reduceColumns_5 (wpX5_reduceColumns k) k t li lj (fun r t => Q r t ∧ G t)
      unfold wbX5_reduceColumns_5 at hR ⊢
      exact fun x1 e1 => ih.2.1 _ _ _ g (hR x1 e1)
theorem zgX5_reduceColumns {G : XT → Prop} {k : Nat} {t : XT} {a1 : Int32} {Q : Int32 → XT → Prop} (hk : kpP G) (g : G t) (hR : wqX5_reduceColumns k t a1 Q) : wqX5_reduceColumns k t a1 (fun r t => Q r t ∧ G t) := (zfX5_reduceColumns hk Q k).1 t _ _ g hR
theorem ztX5_reduceColumns {G : XT → Prop} {k : Nat} {t : XT} {a1 : Int32} {Q Q' : Int32 → XT → Prop} (hk : kpP G) (g : G t) (hR : wqX5_reduceColumns k t a1 Q) (hQ : (∀ r t, Q r t → G t → Q' r t)) : wqX5_reduceColumns k t a1 Q' := wmX5_reduceColumns (Nat.le_refl k) (fun r t h => hQ r t h.1 h.2) (zgX5_reduceColumns hk g hR)
set_option maxHeartbeats 4000000 in
set_option maxRecDepth 100000 in
theorem zfX5_clearCorner {G : XT → Prop} (hk : kpP G) (Q : Int64 → XT → Prop) : ∀ k : Nat, (∀ (t : XT) (li : Nat → Int32) (lj : Nat → Int64), G t → wpX5_clearCorner k 0 t li lj Q → wpX5_clearCorner k 0 t li lj (fun r t => Q r t ∧ G t)) ∧ (∀ (t : XT) (li : Nat → Int32) (lj : Nat → Int64), G t → wpX5_clearCorner k 1 t li lj Q → wpX5_clearCorner k 1 t li lj (fun r t => Q r t ∧ G t)) ∧ (∀ (t : XT) (li : Nat → Int32) (lj : Nat → Int64), G t → wpX5_clearCorner k 2 t li lj Q → wpX5_clearCorner k 2 t li lj (fun r t => Q r t ∧ G t)) ∧ (∀ (t : XT) (li : Nat → Int32) (lj : Nat → Int64), G t → wpX5_clearCorner k 3 t li lj Q → wpX5_clearCorner k 3 t li lj (fun r t => Q r t ∧ G t)) := by
  intro k
  induction k with
  | zero => exact ⟨fun _ _ _ _ hR => False.elim hR, fun _ _ _ _ hR => False.elim hR, fun _ _ _ _ hR => False.elim hR, fun _ _ _ _ hR => False.elim hR⟩
  | succ k ih =>
    refine ⟨?_, ?_, ?_, ?_⟩
    · intro t li lj g hR
      have hR : wbX5_clearCorner_0 (wpX5_clearCorner k) k t li lj Q := hR
      show wbX5_clearCorner_0 (wpX5_clearCorner k) k t li lj (fun r t => Q r t ∧ G t)
      unfold wbX5_clearCorner_0 at hR ⊢
      exact ih.2.1 _ _ _ g hR
    · intro t li lj g hR
      have hR : wbX5_clearCorner_1 (wpX5_clearCorner k) k t li lj Q := hR
      show wbX5_clearCorner_1 (wpX5_clearCorner k) k t li lj (fun r t => Q r t ∧ G t)
      unfold wbX5_clearCorner_1 at hR ⊢
      exact ⟨fun c1 => ⟨(hR.1 c1), g⟩, fun c2 => ztX5_leastCell hk g (hR.2 c2) (fun y3_0 y3_1 h3 g3 => ⟨fun c4 => ih.2.2.1 _ _ _ g3 (h3.1 c4), fun c5 => ⟨fun c6 => ⟨((h3.2 c5).1 c6).1, fun x7 e7 => ztX5_swapRows_c30 hk g3 (((h3.2 c5).1 c6).2 x7 e7) (fun y8_0 h8 g8 => ⟨h8.1, fun x9 e9 => ztX5_swapColumns hk g8 (h8.2 x9 e9) (fun y10_0 h10 g10 => ztX5_reduceRows hk g10 h10 (fun y11_0 y11_1 h11 g11 => ztX5_reduceColumns hk g11 h11 (fun y12_0 y12_1 h12 g12 => ⟨fun c13 => ih.2.2.2 _ _ _ g12 (h12.1 c13), fun c14 => ⟨fun c15 => ih.2.2.2 _ _ _ g12 ((h12.2 c14).1 c15), fun c16 => fun x17 e17 => fun x18 e18 => ⟨((((h12.2 c14).2 c16) x17 e17) x18 e18).1, fun x19 e19 => wcX5_gcd (((((h12.2 c14).2 c16) x17 e17) x18 e18).2 x19 e19) (fun y20_0 h20 => ⟨h20, g12⟩)⟩⟩⟩)))⟩)⟩, fun c21 => ih.2.2.1 _ _ _ g3 ((h3.2 c5).2 c21)⟩⟩)⟩
    · intro t li lj g hR
      have hR : wbX5_clearCorner_2 (wpX5_clearCorner k) k t li lj Q := hR
      show wbX5_clearCorner_2 (wpX5_clearCorner k) k t li lj (fun r t => Q r t ∧ G t)
      unfold wbX5_clearCorner_2 at hR ⊢
      exact ⟨hR, g⟩
    · intro t li lj g hR
      have hR : wbX5_clearCorner_3 (wpX5_clearCorner k) k t li lj Q := hR
      show wbX5_clearCorner_3 (wpX5_clearCorner k) k t li lj (fun r t => Q r t ∧ G t)
      unfold wbX5_clearCorner_3 at hR ⊢
      exact fun x1 e1 => ih.2.1 _ _ _ g (hR x1 e1)
theorem zgX5_clearCorner {G : XT → Prop} {k : Nat} {t : XT} {a1 : Int32} {Q : Int64 → XT → Prop} (hk : kpP G) (g : G t) (hR : wqX5_clearCorner k t a1 Q) : wqX5_clearCorner k t a1 (fun r t => Q r t ∧ G t) := (zfX5_clearCorner hk Q k).1 t _ _ g hR
theorem ztX5_clearCorner {G : XT → Prop} {k : Nat} {t : XT} {a1 : Int32} {Q Q' : Int64 → XT → Prop} (hk : kpP G) (g : G t) (hR : wqX5_clearCorner k t a1 Q) (hQ : (∀ r t, Q r t → G t → Q' r t)) : wqX5_clearCorner k t a1 Q' := wmX5_clearCorner (Nat.le_refl k) (fun r t h => hQ r t h.1 h.2) (zgX5_clearCorner hk g hR)
set_option maxHeartbeats 4000000 in
set_option maxRecDepth 100000 in
theorem zfX5_makeDivide {G : XT → Prop} (hk : kpP G) (Q : XT → Prop) : ∀ k : Nat, (∀ (t : XT) (li : Nat → Int32) (lj : Nat → Int64), G t → wpX5_makeDivide k 0 t li lj Q → wpX5_makeDivide k 0 t li lj (fun t => Q t ∧ G t)) := by
  intro k
  induction k with
  | zero => exact fun _ _ _ _ hR => False.elim hR
  | succ k ih =>
    intro t li lj g hR
    have hR : wbX5_makeDivide_0 (wpX5_makeDivide k) k t li lj Q := hR
    show wbX5_makeDivide_0 (wpX5_makeDivide k) k t li lj (fun t => Q t ∧ G t)
    unfold wbX5_makeDivide_0 at hR ⊢
    exact ⟨hR.1, fun x1 e1 => ⟨(hR.2 x1 e1).1, fun x2 e2 => wcX5_gcd ((hR.2 x1 e1).2 x2 e2) (fun y3_0 h3 => fun x4 e4 => ⟨fun c5 => ⟨((h3 x4 e4).1 c5), g⟩, fun c6 => ⟨((h3 x4 e4).2 c6).1, fun x7 e7 => ⟨(((h3 x4 e4).2 c6).2 x7 e7).1, fun x8 e8 => ⟨((((h3 x4 e4).2 c6).2 x7 e7).2 x8 e8).1, fun x9 e9 => fun x10 e10 => ⟨((((((h3 x4 e4).2 c6).2 x7 e7).2 x8 e8).2 x9 e9) x10 e10).1, fun x11 e11 => have g11 : G x11 := (by rw [e11]; exact hk.2.2.2 _ _ _ (by decide) g); ⟨(((((((h3 x4 e4).2 c6).2 x7 e7).2 x8 e8).2 x9 e9) x10 e10).2 x11 e11).1, fun x12 e12 => have g12 : G x12 := (by rw [e12]; exact hk.2.2.2 _ _ _ (by decide) g11); ⟨((((((((h3 x4 e4).2 c6).2 x7 e7).2 x8 e8).2 x9 e9) x10 e10).2 x11 e11).2 x12 e12), g12⟩⟩⟩⟩⟩⟩⟩)⟩⟩
theorem zgX5_makeDivide {G : XT → Prop} {k : Nat} {t : XT} {a1 : Int32} {a2 : Int32} {Q : XT → Prop} (hk : kpP G) (g : G t) (hR : wqX5_makeDivide k t a1 a2 Q) : wqX5_makeDivide k t a1 a2 (fun t => Q t ∧ G t) := (zfX5_makeDivide hk Q k) t _ _ g hR
theorem ztX5_makeDivide {G : XT → Prop} {k : Nat} {t : XT} {a1 : Int32} {a2 : Int32} {Q Q' : XT → Prop} (hk : kpP G) (g : G t) (hR : wqX5_makeDivide k t a1 a2 Q) (hQ : (∀ t, Q t → G t → Q' t)) : wqX5_makeDivide k t a1 a2 Q' := wmX5_makeDivide (Nat.le_refl k) (fun t h => hQ t h.1 h.2) (zgX5_makeDivide hk g hR)
set_option maxHeartbeats 4000000 in
set_option maxRecDepth 100000 in
theorem zfX5_diagonalise {G : XT → Prop} (hk : kpP G) (Q : XT → Prop) : ∀ k : Nat, (∀ (t : XT) (li : Nat → Int32) (lj : Nat → Int64), G t → wpX5_diagonalise k 0 t li lj Q → wpX5_diagonalise k 0 t li lj (fun t => Q t ∧ G t)) ∧ (∀ (t : XT) (li : Nat → Int32) (lj : Nat → Int64), G t → wpX5_diagonalise k 1 t li lj Q → wpX5_diagonalise k 1 t li lj (fun t => Q t ∧ G t)) ∧ (∀ (t : XT) (li : Nat → Int32) (lj : Nat → Int64), G t → wpX5_diagonalise k 2 t li lj Q → wpX5_diagonalise k 2 t li lj (fun t => Q t ∧ G t)) ∧ (∀ (t : XT) (li : Nat → Int32) (lj : Nat → Int64), G t → wpX5_diagonalise k 3 t li lj Q → wpX5_diagonalise k 3 t li lj (fun t => Q t ∧ G t)) ∧ (∀ (t : XT) (li : Nat → Int32) (lj : Nat → Int64), G t → wpX5_diagonalise k 4 t li lj Q → wpX5_diagonalise k 4 t li lj (fun t => Q t ∧ G t)) := by
  intro k
  induction k with
  | zero => exact ⟨fun _ _ _ _ hR => False.elim hR, fun _ _ _ _ hR => False.elim hR, fun _ _ _ _ hR => False.elim hR, fun _ _ _ _ hR => False.elim hR, fun _ _ _ _ hR => False.elim hR⟩
  | succ k ih =>
    refine ⟨?_, ?_, ?_, ?_, ?_⟩
    · intro t li lj g hR
      have hR : wbX5_diagonalise_0 (wpX5_diagonalise k) k t li lj Q := hR
      show wbX5_diagonalise_0 (wpX5_diagonalise k) k t li lj (fun t => Q t ∧ G t)
      unfold wbX5_diagonalise_0 at hR ⊢
      exact fun x1 e1 => ih.2.1 _ _ _ g (hR x1 e1)
    · intro t li lj g hR
      have hR : wbX5_diagonalise_1 (wpX5_diagonalise k) k t li lj Q := hR
      show wbX5_diagonalise_1 (wpX5_diagonalise k) k t li lj (fun t => Q t ∧ G t)
      unfold wbX5_diagonalise_1 at hR ⊢
      exact fun x1 e1 => ⟨fun c2 => ih.2.2.1 _ _ _ g ((hR x1 e1).1 c2), fun c3 => ⟨((hR x1 e1).2 c3).1, fun x4 e4 => ztX5_remainder hk g (((hR x1 e1).2 c3).2 x4 e4) (fun y5_0 y5_1 h5 g5 => ⟨h5.1, fun x6 e6 => have g6 : G x6 := (by rw [e6]; exact hk.2.2.2 _ _ _ (by decide) g5); fun x7 e7 => ih.2.1 _ _ _ g6 ((h5.2 x6 e6) x7 e7)⟩)⟩⟩
    · intro t li lj g hR
      have hR : wbX5_diagonalise_2 (wpX5_diagonalise k) k t li lj Q := hR
      show wbX5_diagonalise_2 (wpX5_diagonalise k) k t li lj (fun t => Q t ∧ G t)
      unfold wbX5_diagonalise_2 at hR ⊢
      exact ⟨fun c1 => ih.2.2.2.1 _ _ _ g (hR.1 c1), fun c2 => ztX5_clearCorner hk g (hR.2 c2) (fun y3_0 y3_1 h3 g3 => ⟨h3.1, fun x4 e4 => have g4 : G x4 := (by rw [e4]; exact hk.2.2.2 _ _ _ (by decide) g3); fun x5 e5 => ih.2.2.1 _ _ _ g4 ((h3.2 x4 e4) x5 e5)⟩)⟩
    · intro t li lj g hR
      have hR : wbX5_diagonalise_3 (wpX5_diagonalise k) k t li lj Q := hR
      show wbX5_diagonalise_3 (wpX5_diagonalise k) k t li lj (fun t => Q t ∧ G t)
      unfold wbX5_diagonalise_3 at hR ⊢
      exact ⟨fun c1 => ⟨(hR.1 c1), g⟩, fun c2 => fun x3 e3 => ih.2.2.2.2 _ _ _ g ((hR.2 c2) x3 e3)⟩
    · intro t li lj g hR
      have hR : wbX5_diagonalise_4 (wpX5_diagonalise k) k t li lj Q := hR
      show wbX5_diagonalise_4 (wpX5_diagonalise k) k t li lj (fun t => Q t ∧ G t)
      unfold wbX5_diagonalise_4 at hR ⊢
      exact ⟨fun c1 => fun x2 e2 => ih.2.2.2.1 _ _ _ g ((hR.1 c1) x2 e2), fun c3 => ztX5_makeDivide hk g (hR.2 c3) (fun y4_0 h4 g4 => fun x5 e5 => ih.2.2.2.2 _ _ _ g4 (h4 x5 e5))⟩
theorem zgX5_diagonalise {G : XT → Prop} {k : Nat} {t : XT}  {Q : XT → Prop} (hk : kpP G) (g : G t) (hR : wqX5_diagonalise k t  Q) : wqX5_diagonalise k t  (fun t => Q t ∧ G t) := (zfX5_diagonalise hk Q k).1 t _ _ g hR
theorem ztX5_diagonalise {G : XT → Prop} {k : Nat} {t : XT}  {Q Q' : XT → Prop} (hk : kpP G) (g : G t) (hR : wqX5_diagonalise k t  Q) (hQ : (∀ t, Q t → G t → Q' t)) : wqX5_diagonalise k t  Q' := wmX5_diagonalise (Nat.le_refl k) (fun t h => hQ t h.1 h.2) (zgX5_diagonalise hk g hR)
set_option maxHeartbeats 4000000 in
set_option maxRecDepth 100000 in
theorem zfX0_torsionsOf {G : XT → Prop} (hk : kpP G) (Q : Int32 → XT → Prop) : ∀ k : Nat, (∀ (t : XT) (li : Nat → Int32) (lj : Nat → Int64), G t → wpX0_torsionsOf k 0 t li lj Q → wpX0_torsionsOf k 0 t li lj (fun r t => Q r t ∧ G t)) ∧ (∀ (t : XT) (li : Nat → Int32) (lj : Nat → Int64), G t → wpX0_torsionsOf k 1 t li lj Q → wpX0_torsionsOf k 1 t li lj (fun r t => Q r t ∧ G t)) ∧ (∀ (t : XT) (li : Nat → Int32) (lj : Nat → Int64), G t → wpX0_torsionsOf k 2 t li lj Q → wpX0_torsionsOf k 2 t li lj (fun r t => Q r t ∧ G t)) ∧ (∀ (t : XT) (li : Nat → Int32) (lj : Nat → Int64), G t → wpX0_torsionsOf k 3 t li lj Q → wpX0_torsionsOf k 3 t li lj (fun r t => Q r t ∧ G t)) ∧ (∀ (t : XT) (li : Nat → Int32) (lj : Nat → Int64), G t → wpX0_torsionsOf k 4 t li lj Q → wpX0_torsionsOf k 4 t li lj (fun r t => Q r t ∧ G t)) := by
  intro k
  induction k with
  | zero => exact ⟨fun _ _ _ _ hR => False.elim hR, fun _ _ _ _ hR => False.elim hR, fun _ _ _ _ hR => False.elim hR, fun _ _ _ _ hR => False.elim hR, fun _ _ _ _ hR => False.elim hR⟩
  | succ k ih =>
    refine ⟨?_, ?_, ?_, ?_, ?_⟩
    · intro t li lj g hR
      have hR : wbX0_torsionsOf_0 (wpX0_torsionsOf k) k t li lj Q := hR
      show wbX0_torsionsOf_0 (wpX0_torsionsOf k) k t li lj (fun r t => Q r t ∧ G t)
      unfold wbX0_torsionsOf_0 at hR ⊢
      exact fun x1 e1 => ztX0_rankOf hk g (hR x1 e1) (fun y2_0 y2_1 h2 g2 => ⟨fun c3 => ih.2.1 _ _ _ g2 (h2.1 c3), fun c4 => fun x5 e5 => ⟨fun c6 => ztX5_diagonalise hk g2 (((h2.2 c4) x5 e5).1 c6) (fun y7_0 h7 g7 => ih.2.2.1 _ _ _ g7 h7), fun c8 => ih.2.1 _ _ _ g2 (((h2.2 c4) x5 e5).2 c8)⟩⟩)
    · intro t li lj g hR
      have hR : wbX0_torsionsOf_1 (wpX0_torsionsOf k) k t li lj Q := hR
      show wbX0_torsionsOf_1 (wpX0_torsionsOf k) k t li lj (fun r t => Q r t ∧ G t)
      unfold wbX0_torsionsOf_1 at hR ⊢
      exact ⟨hR, g⟩
    · intro t li lj g hR
      have hR : wbX0_torsionsOf_2 (wpX0_torsionsOf k) k t li lj Q := hR
      show wbX0_torsionsOf_2 (wpX0_torsionsOf k) k t li lj (fun r t => Q r t ∧ G t)
      unfold wbX0_torsionsOf_2 at hR ⊢
      exact ⟨fun c1 => ih.2.2.2.2 _ _ _ g (hR.1 c1), fun c2 => ⟨fun c3 => ih.2.2.2.2 _ _ _ g ((hR.2 c2).1 c3), fun c4 => ⟨((hR.2 c2).2 c4).1, fun x5 e5 => fun x6 e6 => ⟨fun c7 => ih.2.2.2.1 _ _ _ g (((((hR.2 c2).2 c4).2 x5 e5) x6 e6).1 c7), fun c8 => ⟨(((((hR.2 c2).2 c4).2 x5 e5) x6 e6).2 c8).1, fun x9 e9 => ⟨((((((hR.2 c2).2 c4).2 x5 e5) x6 e6).2 c8).2 x9 e9).1, fun x10 e10 => have g10 : G x10 := (by rw [e10]; exact hk.2.2.2 _ _ _ (by decide) g); fun x11 e11 => ih.2.2.2.1 _ _ _ g10 ((((((((hR.2 c2).2 c4).2 x5 e5) x6 e6).2 c8).2 x9 e9).2 x10 e10) x11 e11)⟩⟩⟩⟩⟩⟩
    · intro t li lj g hR
      have hR : wbX0_torsionsOf_3 (wpX0_torsionsOf k) k t li lj Q := hR
      show wbX0_torsionsOf_3 (wpX0_torsionsOf k) k t li lj (fun r t => Q r t ∧ G t)
      unfold wbX0_torsionsOf_3 at hR ⊢
      exact fun x1 e1 => ih.2.2.1 _ _ _ g (hR x1 e1)
    · intro t li lj g hR
      have hR : wbX0_torsionsOf_4 (wpX0_torsionsOf k) k t li lj Q := hR
      show wbX0_torsionsOf_4 (wpX0_torsionsOf k) k t li lj (fun r t => Q r t ∧ G t)
      unfold wbX0_torsionsOf_4 at hR ⊢
      exact ⟨hR, g⟩
theorem zgX0_torsionsOf {G : XT → Prop} {k : Nat} {t : XT} {a1 : Int64} {a2 : Int32} {a3 : Int32} {Q : Int32 → XT → Prop} (hk : kpP G) (g : G t) (hR : wqX0_torsionsOf k t a1 a2 a3 Q) : wqX0_torsionsOf k t a1 a2 a3 (fun r t => Q r t ∧ G t) := (zfX0_torsionsOf hk Q k).1 t _ _ g hR
theorem ztX0_torsionsOf {G : XT → Prop} {k : Nat} {t : XT} {a1 : Int64} {a2 : Int32} {a3 : Int32} {Q Q' : Int32 → XT → Prop} (hk : kpP G) (g : G t) (hR : wqX0_torsionsOf k t a1 a2 a3 Q) (hQ : (∀ r t, Q r t → G t → Q' r t)) : wqX0_torsionsOf k t a1 a2 a3 Q' := wmX0_torsionsOf (Nat.le_refl k) (fun r t h => hQ r t h.1 h.2) (zgX0_torsionsOf hk g hR)
set_option maxHeartbeats 4000000 in
set_option maxRecDepth 100000 in
theorem zfX11_torsion {G : XT → Prop} (hk : kpP G) (Q : Int64 → XT → Prop) : ∀ k : Nat, (∀ (t : XT) (li : Nat → Int32) (lj : Nat → Int64), G t → wpX11_torsion k 0 t li lj Q → wpX11_torsion k 0 t li lj (fun r t => Q r t ∧ G t)) ∧ (∀ (t : XT) (li : Nat → Int32) (lj : Nat → Int64), G t → wpX11_torsion k 1 t li lj Q → wpX11_torsion k 1 t li lj (fun r t => Q r t ∧ G t)) ∧ (∀ (t : XT) (li : Nat → Int32) (lj : Nat → Int64), G t → wpX11_torsion k 2 t li lj Q → wpX11_torsion k 2 t li lj (fun r t => Q r t ∧ G t)) := by
  intro k
  induction k with
  | zero => exact ⟨fun _ _ _ _ hR => False.elim hR, fun _ _ _ _ hR => False.elim hR, fun _ _ _ _ hR => False.elim hR⟩
  | succ k ih =>
    refine ⟨?_, ?_, ?_⟩
    · intro t li lj g hR
      have hR : wbX11_torsion_0 (wpX11_torsion k) k t li lj Q := hR
      show wbX11_torsion_0 (wpX11_torsion k) k t li lj (fun r t => Q r t ∧ G t)
      unfold wbX11_torsion_0 at hR ⊢
      exact wcX11_isDim hR (fun y1_0 h1 => ⟨fun c2 => ih.2.1 _ _ _ g (h1.1 c2), fun c3 => ⟨fun c4 => ih.2.1 _ _ _ g ((h1.2 c3).1 c4), fun c5 => ⟨fun c6 => ih.2.1 _ _ _ g (((h1.2 c3).2 c5).1 c6), fun c7 => ⟨fun c8 => ztX11_basis hk g ((((h1.2 c3).2 c5).2 c7).1 c8) (fun y9_0 y9_1 h9 g9 => ⟨fun c10 => ih.2.2 _ _ _ g9 (h9.1 c10), fun c11 => ih.2.2 _ _ _ g9 (h9.2 c11)⟩), fun c12 => ih.2.1 _ _ _ g ((((h1.2 c3).2 c5).2 c7).2 c12)⟩⟩⟩⟩)
    · intro t li lj g hR
      have hR : wbX11_torsion_1 (wpX11_torsion k) k t li lj Q := hR
      show wbX11_torsion_1 (wpX11_torsion k) k t li lj (fun r t => Q r t ∧ G t)
      unfold wbX11_torsion_1 at hR ⊢
      exact ⟨hR, g⟩
    · intro t li lj g hR
      have hR : wbX11_torsion_2 (wpX11_torsion k) k t li lj Q := hR
      show wbX11_torsion_2 (wpX11_torsion k) k t li lj (fun r t => Q r t ∧ G t)
      unfold wbX11_torsion_2 at hR ⊢
      exact ztX0_torsionsOf hk g hR (fun y1_0 y1_1 h1 g1 => ⟨fun c2 => ⟨fun c3 => ⟨((h1.1 c2).1 c3), g1⟩, fun c4 => ⟨((h1.1 c2).2 c4).1, fun x5 e5 => ⟨(((h1.1 c2).2 c4).2 x5 e5), g1⟩⟩⟩, fun c6 => fun x7 e7 => ⟨((h1.2 c6) x7 e7), g1⟩⟩)
theorem zgX11_torsion {G : XT → Prop} {k : Nat} {t : XT} {a1 : Int32} {a2 : Int32} {a3 : Int32} {Q : Int64 → XT → Prop} (hk : kpP G) (g : G t) (hR : wqX11_torsion k t a1 a2 a3 Q) : wqX11_torsion k t a1 a2 a3 (fun r t => Q r t ∧ G t) := (zfX11_torsion hk Q k).1 t _ _ g hR
theorem ztX11_torsion {G : XT → Prop} {k : Nat} {t : XT} {a1 : Int32} {a2 : Int32} {a3 : Int32} {Q Q' : Int64 → XT → Prop} (hk : kpP G) (g : G t) (hR : wqX11_torsion k t a1 a2 a3 Q) (hQ : (∀ r t, Q r t → G t → Q' r t)) : wqX11_torsion k t a1 a2 a3 Q' := wmX11_torsion (Nat.le_refl k) (fun r t h => hQ r t h.1 h.2) (zgX11_torsion hk g hR)
set_option maxHeartbeats 4000000 in
set_option maxRecDepth 100000 in
theorem zfX11_slack {G : XT → Prop} (hk : kpP G) (Q : Int32 → XT → Prop) : ∀ k : Nat, (∀ (t : XT) (li : Nat → Int32) (lj : Nat → Int64), G t → wpX11_slack k 0 t li lj Q → wpX11_slack k 0 t li lj (fun r t => Q r t ∧ G t)) ∧ (∀ (t : XT) (li : Nat → Int32) (lj : Nat → Int64), G t → wpX11_slack k 1 t li lj Q → wpX11_slack k 1 t li lj (fun r t => Q r t ∧ G t)) := by
  intro k
  induction k with
  | zero => exact ⟨fun _ _ _ _ hR => False.elim hR, fun _ _ _ _ hR => False.elim hR⟩
  | succ k ih =>
    refine ⟨?_, ?_⟩
    · intro t li lj g hR
      have hR : wbX11_slack_0 (wpX11_slack k) k t li lj Q := hR
      show wbX11_slack_0 (wpX11_slack k) k t li lj (fun r t => Q r t ∧ G t)
      unfold wbX11_slack_0 at hR ⊢
      exact wcX11_isDim hR (fun y1_0 h1 => ⟨fun c2 => ih.2 _ _ _ g (h1.1 c2), fun c3 => ⟨(h1.2 c3), g⟩⟩)
    · intro t li lj g hR
      have hR : wbX11_slack_1 (wpX11_slack k) k t li lj Q := hR
      show wbX11_slack_1 (wpX11_slack k) k t li lj (fun r t => Q r t ∧ G t)
      unfold wbX11_slack_1 at hR ⊢
      exact ⟨fun c1 => ⟨(hR.1 c1), g⟩, fun c2 => ztX6_unpaired hk g (hR.2 c2) (fun y3_0 y3_1 h3 g3 => ⟨h3.1, fun x4 e4 => fun x5 e5 => wcJ13_bitCount_95d88 ((h3.2 x4 e4) x5 e5) (fun y6_0 h6 => ztX0_bettiOf hk g3 h6 (fun y7_0 y7_1 h7 g7 => fun x8 e8 => fun x9 e9 => fun x10 e10 => ih.2 _ _ _ g7 (((h7 x8 e8) x9 e9) x10 e10)))⟩)⟩
theorem zgX11_slack {G : XT → Prop} {k : Nat} {t : XT} {a1 : Int32} {Q : Int32 → XT → Prop} (hk : kpP G) (g : G t) (hR : wqX11_slack k t a1 Q) : wqX11_slack k t a1 (fun r t => Q r t ∧ G t) := (zfX11_slack hk Q k).1 t _ _ g hR
theorem ztX11_slack {G : XT → Prop} {k : Nat} {t : XT} {a1 : Int32} {Q Q' : Int32 → XT → Prop} (hk : kpP G) (g : G t) (hR : wqX11_slack k t a1 Q) (hQ : (∀ r t, Q r t → G t → Q' r t)) : wqX11_slack k t a1 Q' := wmX11_slack (Nat.le_refl k) (fun r t h => hQ r t h.1 h.2) (zgX11_slack hk g hR)
set_option maxHeartbeats 4000000 in
set_option maxRecDepth 100000 in
theorem zfX11_free {G : XT → Prop} (hk : kpP G) (Q : Int32 → XT → Prop) : ∀ k : Nat, (∀ (t : XT) (li : Nat → Int32) (lj : Nat → Int64), G t → wpX11_free k 0 t li lj Q → wpX11_free k 0 t li lj (fun r t => Q r t ∧ G t)) ∧ (∀ (t : XT) (li : Nat → Int32) (lj : Nat → Int64), G t → wpX11_free k 1 t li lj Q → wpX11_free k 1 t li lj (fun r t => Q r t ∧ G t)) ∧ (∀ (t : XT) (li : Nat → Int32) (lj : Nat → Int64), G t → wpX11_free k 2 t li lj Q → wpX11_free k 2 t li lj (fun r t => Q r t ∧ G t)) := by
  intro k
  induction k with
  | zero => exact ⟨fun _ _ _ _ hR => False.elim hR, fun _ _ _ _ hR => False.elim hR, fun _ _ _ _ hR => False.elim hR⟩
  | succ k ih =>
    refine ⟨?_, ?_, ?_⟩
    · intro t li lj g hR
      have hR : wbX11_free_0 (wpX11_free k) k t li lj Q := hR
      show wbX11_free_0 (wpX11_free k) k t li lj (fun r t => Q r t ∧ G t)
      unfold wbX11_free_0 at hR ⊢
      exact ⟨fun c1 => ih.2.1 _ _ _ g (hR.1 c1), fun c2 => ⟨(hR.2 c2), g⟩⟩
    · intro t li lj g hR
      have hR : wbX11_free_1 (wpX11_free k) k t li lj Q := hR
      show wbX11_free_1 (wpX11_free k) k t li lj (fun r t => Q r t ∧ G t)
      unfold wbX11_free_1 at hR ⊢
      exact ⟨fun c1 => wcX11_listed (hR.1 c1) (fun y2_0 h2 => ⟨h2, g⟩), fun c3 => ztX11_isThere hk g (hR.2 c3) (fun y4_0 y4_1 h4 g4 => ⟨fun c5 => ih.2.2 _ _ _ g4 (h4.1 c5), fun c6 => ztX11_isFree hk g4 (h4.2 c6) (fun y7_0 y7_1 h7 g7 => ⟨fun c8 => ih.2.2 _ _ _ g7 (h7.1 c8), fun c9 => wcX11_bit (h7.2 c9) (fun y10_0 h10 => fun x11 e11 => ih.2.2 _ _ _ g7 (h10 x11 e11))⟩)⟩)⟩
    · intro t li lj g hR
      have hR : wbX11_free_2 (wpX11_free k) k t li lj Q := hR
      show wbX11_free_2 (wpX11_free k) k t li lj (fun r t => Q r t ∧ G t)
      unfold wbX11_free_2 at hR ⊢
      exact fun x1 e1 => ih.2.1 _ _ _ g (hR x1 e1)
theorem zgX11_free {G : XT → Prop} {k : Nat} {t : XT} {a1 : Int32} {Q : Int32 → XT → Prop} (hk : kpP G) (g : G t) (hR : wqX11_free k t a1 Q) : wqX11_free k t a1 (fun r t => Q r t ∧ G t) := (zfX11_free hk Q k).1 t _ _ g hR
theorem ztX11_free {G : XT → Prop} {k : Nat} {t : XT} {a1 : Int32} {Q Q' : Int32 → XT → Prop} (hk : kpP G) (g : G t) (hR : wqX11_free k t a1 Q) (hQ : (∀ r t, Q r t → G t → Q' r t)) : wqX11_free k t a1 Q' := wmX11_free (Nat.le_refl k) (fun r t h => hQ r t h.1 h.2) (zgX11_free hk g hR)
set_option maxHeartbeats 4000000 in
set_option maxRecDepth 100000 in
theorem zfX11_facet {G : XT → Prop} (hk : kpP G) (Q : Int32 → XT → Prop) : ∀ k : Nat, (∀ (t : XT) (li : Nat → Int32) (lj : Nat → Int64), G t → wpX11_facet k 0 t li lj Q → wpX11_facet k 0 t li lj (fun r t => Q r t ∧ G t)) ∧ (∀ (t : XT) (li : Nat → Int32) (lj : Nat → Int64), G t → wpX11_facet k 1 t li lj Q → wpX11_facet k 1 t li lj (fun r t => Q r t ∧ G t)) ∧ (∀ (t : XT) (li : Nat → Int32) (lj : Nat → Int64), G t → wpX11_facet k 2 t li lj Q → wpX11_facet k 2 t li lj (fun r t => Q r t ∧ G t)) := by
  intro k
  induction k with
  | zero => exact ⟨fun _ _ _ _ hR => False.elim hR, fun _ _ _ _ hR => False.elim hR, fun _ _ _ _ hR => False.elim hR⟩
  | succ k ih =>
    refine ⟨?_, ?_, ?_⟩
    · intro t li lj g hR
      have hR : wbX11_facet_0 (wpX11_facet k) k t li lj Q := hR
      show wbX11_facet_0 (wpX11_facet k) k t li lj (fun r t => Q r t ∧ G t)
      unfold wbX11_facet_0 at hR ⊢
      exact ⟨fun c1 => ih.2.1 _ _ _ g (hR.1 c1), fun c2 => ⟨(hR.2 c2), g⟩⟩
    · intro t li lj g hR
      have hR : wbX11_facet_1 (wpX11_facet k) k t li lj Q := hR
      show wbX11_facet_1 (wpX11_facet k) k t li lj (fun r t => Q r t ∧ G t)
      unfold wbX11_facet_1 at hR ⊢
      exact ⟨fun c1 => wcX11_listed (hR.1 c1) (fun y2_0 h2 => ⟨h2, g⟩), fun c3 => ztX11_isThere hk g (hR.2 c3) (fun y4_0 y4_1 h4 g4 => ⟨fun c5 => ih.2.2 _ _ _ g4 (h4.1 c5), fun c6 => ⟨(h4.2 c6).1, fun x7 e7 => fun x8 e8 => fun x9 e9 => ⟨fun c10 => ih.2.2 _ _ _ g4 (((((h4.2 c6).2 x7 e7) x8 e8) x9 e9).1 c10), fun c11 => wcX11_bit (((((h4.2 c6).2 x7 e7) x8 e8) x9 e9).2 c11) (fun y12_0 h12 => fun x13 e13 => ih.2.2 _ _ _ g4 (h12 x13 e13))⟩⟩⟩)⟩
    · intro t li lj g hR
      have hR : wbX11_facet_2 (wpX11_facet k) k t li lj Q := hR
      show wbX11_facet_2 (wpX11_facet k) k t li lj (fun r t => Q r t ∧ G t)
      unfold wbX11_facet_2 at hR ⊢
      exact fun x1 e1 => ih.2.1 _ _ _ g (hR x1 e1)
theorem zgX11_facet {G : XT → Prop} {k : Nat} {t : XT} {a1 : Int32} {Q : Int32 → XT → Prop} (hk : kpP G) (g : G t) (hR : wqX11_facet k t a1 Q) : wqX11_facet k t a1 (fun r t => Q r t ∧ G t) := (zfX11_facet hk Q k).1 t _ _ g hR
theorem ztX11_facet {G : XT → Prop} {k : Nat} {t : XT} {a1 : Int32} {Q Q' : Int32 → XT → Prop} (hk : kpP G) (g : G t) (hR : wqX11_facet k t a1 Q) (hQ : (∀ r t, Q r t → G t → Q' r t)) : wqX11_facet k t a1 Q' := wmX11_facet (Nat.le_refl k) (fun r t h => hQ r t h.1 h.2) (zgX11_facet hk g hR)
