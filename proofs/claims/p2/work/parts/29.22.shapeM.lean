set_option maxHeartbeats 4000000 in
set_option maxRecDepth 100000 in
theorem yfX12_undo {G : XT → Prop} (hk : kpM G) (Q : Int32 → XT → Prop) : ∀ k : Nat, (∀ (t : XT) (li : Nat → Int32) (lj : Nat → Int64), G t → wpX12_undo k 0 t li lj Q → wpX12_undo k 0 t li lj (fun r t => Q r t ∧ G t)) ∧ (∀ (t : XT) (li : Nat → Int32) (lj : Nat → Int64), G t → wpX12_undo k 1 t li lj Q → wpX12_undo k 1 t li lj (fun r t => Q r t ∧ G t)) ∧ (∀ (t : XT) (li : Nat → Int32) (lj : Nat → Int64), G t → wpX12_undo k 2 t li lj Q → wpX12_undo k 2 t li lj (fun r t => Q r t ∧ G t)) := by
  intro k
  induction k with
  | zero => exact ⟨fun _ _ _ _ hR => False.elim hR, fun _ _ _ _ hR => False.elim hR, fun _ _ _ _ hR => False.elim hR⟩
  | succ k ih =>
    refine ⟨?_, ?_, ?_⟩
    · intro t li lj g hR
      have hR : wbX12_undo_0 (wpX12_undo k) k t li lj Q := hR
      show wbX12_undo_0 (wpX12_undo k) k t li lj (fun r t => Q r t ∧ G t)
      unfold wbX12_undo_0 at hR ⊢
      exact ⟨fun c1 => fun x2 e2 => fun x3 e3 => have g3 : G x3 := (by rw [e3]; exact hk.1 _ _ _ (by decide) g); fun x4 e4 => ih.2.1 _ _ _ g3 ((((hR.1 c1) x2 e2) x3 e3) x4 e4), fun c5 => ⟨(hR.2 c5), g⟩⟩
    · intro t li lj g hR
      have hR : wbX12_undo_1 (wpX12_undo k) k t li lj Q := hR
      show wbX12_undo_1 (wpX12_undo k) k t li lj (fun r t => Q r t ∧ G t)
      unfold wbX12_undo_1 at hR ⊢
      exact ⟨fun c1 => ⟨(hR.1 c1), g⟩, fun c2 => fun x3 e3 => ⟨((hR.2 c2) x3 e3).1, fun x4 e4 => ⟨(((hR.2 c2) x3 e3).2 x4 e4).1, fun x5 e5 => have g5 : G x5 := (by rw [e5]; exact hk.2.2.1 _ _ _ (by decide) (by decide) g); fun x6 e6 => fun x7 e7 => ⟨((((((hR.2 c2) x3 e3).2 x4 e4).2 x5 e5) x6 e6) x7 e7).1, fun x8 e8 => ⟨fun c9 => ih.2.2 _ _ _ g5 ((((((((hR.2 c2) x3 e3).2 x4 e4).2 x5 e5) x6 e6) x7 e7).2 x8 e8).1 c9), fun c10 => ih.2.2 _ _ _ g5 ((((((((hR.2 c2) x3 e3).2 x4 e4).2 x5 e5) x6 e6) x7 e7).2 x8 e8).2 c10)⟩⟩⟩⟩⟩
    · intro t li lj g hR
      have hR : wbX12_undo_2 (wpX12_undo k) k t li lj Q := hR
      show wbX12_undo_2 (wpX12_undo k) k t li lj (fun r t => Q r t ∧ G t)
      unfold wbX12_undo_2 at hR ⊢
      exact ⟨hR.1, fun x1 e1 => have g1 : G x1 := (by rw [e1]; exact hk.2.2.1 _ _ _ (by decide) (by decide) g); fun x2 e2 => ih.2.1 _ _ _ g1 ((hR.2 x1 e1) x2 e2)⟩
theorem ygX12_undo {G : XT → Prop} {k : Nat} {t : XT}  {Q : Int32 → XT → Prop} (hk : kpM G) (g : G t) (hR : wqX12_undo k t  Q) : wqX12_undo k t  (fun r t => Q r t ∧ G t) := (yfX12_undo hk Q k).1 t _ _ g hR
theorem ytX12_undo {G : XT → Prop} {k : Nat} {t : XT}  {Q Q' : Int32 → XT → Prop} (hk : kpM G) (g : G t) (hR : wqX12_undo k t  Q) (hQ : (∀ r t, Q r t → G t → Q' r t)) : wqX12_undo k t  Q' := wmX12_undo (Nat.le_refl k) (fun r t h => hQ r t h.1 h.2) (ygX12_undo hk g hR)
set_option maxHeartbeats 4000000 in
set_option maxRecDepth 100000 in
theorem yfX12_critical {G : XT → Prop} (hk : kpM G) (Q : Int32 → XT → Prop) : ∀ k : Nat, (∀ (t : XT) (li : Nat → Int32) (lj : Nat → Int64), G t → wpX12_critical k 0 t li lj Q → wpX12_critical k 0 t li lj (fun r t => Q r t ∧ G t)) ∧ (∀ (t : XT) (li : Nat → Int32) (lj : Nat → Int64), G t → wpX12_critical k 1 t li lj Q → wpX12_critical k 1 t li lj (fun r t => Q r t ∧ G t)) ∧ (∀ (t : XT) (li : Nat → Int32) (lj : Nat → Int64), G t → wpX12_critical k 2 t li lj Q → wpX12_critical k 2 t li lj (fun r t => Q r t ∧ G t)) ∧ (∀ (t : XT) (li : Nat → Int32) (lj : Nat → Int64), G t → wpX12_critical k 3 t li lj Q → wpX12_critical k 3 t li lj (fun r t => Q r t ∧ G t)) := by
  intro k
  induction k with
  | zero => exact ⟨fun _ _ _ _ hR => False.elim hR, fun _ _ _ _ hR => False.elim hR, fun _ _ _ _ hR => False.elim hR, fun _ _ _ _ hR => False.elim hR⟩
  | succ k ih =>
    refine ⟨?_, ?_, ?_, ?_⟩
    · intro t li lj g hR
      have hR : wbX12_critical_0 (wpX12_critical k) k t li lj Q := hR
      show wbX12_critical_0 (wpX12_critical k) k t li lj (fun r t => Q r t ∧ G t)
      unfold wbX12_critical_0 at hR ⊢
      exact wcX12_in hR (fun y1_0 h1 => ⟨fun c2 => ih.2.1 _ _ _ g (h1.1 c2), fun c3 => ⟨fun c4 => ih.2.2.1 _ _ _ g ((h1.2 c3).1 c4), fun c5 => ih.2.1 _ _ _ g ((h1.2 c3).2 c5)⟩⟩)
    · intro t li lj g hR
      have hR : wbX12_critical_1 (wpX12_critical k) k t li lj Q := hR
      show wbX12_critical_1 (wpX12_critical k) k t li lj (fun r t => Q r t ∧ G t)
      unfold wbX12_critical_1 at hR ⊢
      exact ⟨hR, g⟩
    · intro t li lj g hR
      have hR : wbX12_critical_2 (wpX12_critical k) k t li lj Q := hR
      show wbX12_critical_2 (wpX12_critical k) k t li lj (fun r t => Q r t ∧ G t)
      unfold wbX12_critical_2 at hR ⊢
      exact ⟨fun c1 => ⟨fun c2 => ⟨((hR.1 c1).1 c2), g⟩, fun c3 => ⟨((hR.1 c1).2 c3), g⟩⟩, fun c4 => ytX12_isCritical hk g (hR.2 c4) (fun y5_0 y5_1 h5 g5 => ⟨fun c6 => ih.2.2.2 _ _ _ g5 (h5.1 c6), fun c7 => ytX12_dimOf hk g5 (h5.2 c7) (fun y8_0 y8_1 h8 g8 => ⟨fun c9 => ih.2.2.2 _ _ _ g8 (h8.1 c9), fun c10 => ⟨fun c11 => fun x12 e12 => ih.2.2.2 _ _ _ g8 (((h8.2 c10).1 c11) x12 e12), fun c13 => ⟨((h8.2 c10).2 c13), g8⟩⟩⟩)⟩)⟩
    · intro t li lj g hR
      have hR : wbX12_critical_3 (wpX12_critical k) k t li lj Q := hR
      show wbX12_critical_3 (wpX12_critical k) k t li lj (fun r t => Q r t ∧ G t)
      unfold wbX12_critical_3 at hR ⊢
      exact fun x1 e1 => ih.2.2.1 _ _ _ g (hR x1 e1)
theorem ygX12_critical {G : XT → Prop} {k : Nat} {t : XT} {a1 : Int32} {a2 : Int32} {Q : Int32 → XT → Prop} (hk : kpM G) (g : G t) (hR : wqX12_critical k t a1 a2 Q) : wqX12_critical k t a1 a2 (fun r t => Q r t ∧ G t) := (yfX12_critical hk Q k).1 t _ _ g hR
theorem ytX12_critical {G : XT → Prop} {k : Nat} {t : XT} {a1 : Int32} {a2 : Int32} {Q Q' : Int32 → XT → Prop} (hk : kpM G) (g : G t) (hR : wqX12_critical k t a1 a2 Q) (hQ : (∀ r t, Q r t → G t → Q' r t)) : wqX12_critical k t a1 a2 Q' := wmX12_critical (Nat.le_refl k) (fun r t h => hQ r t h.1 h.2) (ygX12_critical hk g hR)
set_option maxHeartbeats 4000000 in
set_option maxRecDepth 100000 in
theorem yfX12_paths {G : XT → Prop} (hk : kpM G) (Q : Int64 → XT → Prop) : ∀ k : Nat, (∀ (t : XT) (li : Nat → Int32) (lj : Nat → Int64), G t → wpX12_paths k 0 t li lj Q → wpX12_paths k 0 t li lj (fun r t => Q r t ∧ G t)) := by
  intro k
  induction k with
  | zero => exact fun _ _ _ _ hR => False.elim hR
  | succ k ih =>
    intro t li lj g hR
    have hR : wbX12_paths_0 (wpX12_paths k) k t li lj Q := hR
    show wbX12_paths_0 (wpX12_paths k) k t li lj (fun r t => Q r t ∧ G t)
    unfold wbX12_paths_0 at hR ⊢
    exact ytX12_areEnds hk g hR (fun y1_0 y1_1 h1 g1 => ⟨fun c2 => ⟨(h1.1 c2), g1⟩, fun c3 => ytX12_waysFrom hk g1 (h1.2 c3) (fun y4_0 y4_1 h4 g4 => ⟨h4, g4⟩)⟩)
theorem ygX12_paths {G : XT → Prop} {k : Nat} {t : XT} {a1 : Int32} {a2 : Int32} {Q : Int64 → XT → Prop} (hk : kpM G) (g : G t) (hR : wqX12_paths k t a1 a2 Q) : wqX12_paths k t a1 a2 (fun r t => Q r t ∧ G t) := (yfX12_paths hk Q k) t _ _ g hR
theorem ytX12_paths {G : XT → Prop} {k : Nat} {t : XT} {a1 : Int32} {a2 : Int32} {Q Q' : Int64 → XT → Prop} (hk : kpM G) (g : G t) (hR : wqX12_paths k t a1 a2 Q) (hQ : (∀ r t, Q r t → G t → Q' r t)) : wqX12_paths k t a1 a2 Q' := wmX12_paths (Nat.le_refl k) (fun r t h => hQ r t h.1 h.2) (ygX12_paths hk g hR)
set_option maxHeartbeats 4000000 in
set_option maxRecDepth 100000 in
theorem yfX12_path {G : XT → Prop} (hk : kpM G) (Q : Int32 → XT → Prop) : ∀ k : Nat, (∀ (t : XT) (li : Nat → Int32) (lj : Nat → Int64), G t → wpX12_path k 0 t li lj Q → wpX12_path k 0 t li lj (fun r t => Q r t ∧ G t)) ∧ (∀ (t : XT) (li : Nat → Int32) (lj : Nat → Int64), G t → wpX12_path k 1 t li lj Q → wpX12_path k 1 t li lj (fun r t => Q r t ∧ G t)) := by
  intro k
  induction k with
  | zero => exact ⟨fun _ _ _ _ hR => False.elim hR, fun _ _ _ _ hR => False.elim hR⟩
  | succ k ih =>
    refine ⟨?_, ?_⟩
    · intro t li lj g hR
      have hR : wbX12_path_0 (wpX12_path k) k t li lj Q := hR
      show wbX12_path_0 (wpX12_path k) k t li lj (fun r t => Q r t ∧ G t)
      unfold wbX12_path_0 at hR ⊢
      exact ytX12_areEnds hk g hR (fun y1_0 y1_1 h1 g1 => ⟨fun c2 => ih.2 _ _ _ g1 (h1.1 c2), fun c3 => ⟨fun c4 => ih.2 _ _ _ g1 ((h1.2 c3).1 c4), fun c5 => ⟨fun c6 => fun x7 e7 => ytX12_laysPath hk g1 ((((h1.2 c3).2 c5).1 c6) x7 e7) (fun y8_0 y8_1 h8 g8 => ⟨fun c9 => ⟨fun c10 => ⟨fun c11 => ⟨(((h8.1 c9).1 c10).1 c11), g8⟩, fun c12 => ⟨(((h8.1 c9).1 c10).2 c12).1, fun x13 e13 => ⟨((((h8.1 c9).1 c10).2 c12).2 x13 e13), g8⟩⟩⟩, fun c14 => ⟨((h8.1 c9).2 c14), g8⟩⟩, fun c15 => ⟨(h8.2 c15), g8⟩⟩), fun c16 => ih.2 _ _ _ g1 (((h1.2 c3).2 c5).2 c16)⟩⟩⟩)
    · intro t li lj g hR
      have hR : wbX12_path_1 (wpX12_path k) k t li lj Q := hR
      show wbX12_path_1 (wpX12_path k) k t li lj (fun r t => Q r t ∧ G t)
      unfold wbX12_path_1 at hR ⊢
      exact ⟨hR, g⟩
theorem ygX12_path {G : XT → Prop} {k : Nat} {t : XT} {a1 : Int32} {a2 : Int32} {a3 : Int32} {a4 : Int32} {Q : Int32 → XT → Prop} (hk : kpM G) (g : G t) (hR : wqX12_path k t a1 a2 a3 a4 Q) : wqX12_path k t a1 a2 a3 a4 (fun r t => Q r t ∧ G t) := (yfX12_path hk Q k).1 t _ _ g hR
theorem ytX12_path {G : XT → Prop} {k : Nat} {t : XT} {a1 : Int32} {a2 : Int32} {a3 : Int32} {a4 : Int32} {Q Q' : Int32 → XT → Prop} (hk : kpM G) (g : G t) (hR : wqX12_path k t a1 a2 a3 a4 Q) (hQ : (∀ r t, Q r t → G t → Q' r t)) : wqX12_path k t a1 a2 a3 a4 Q' := wmX12_path (Nat.le_refl k) (fun r t h => hQ r t h.1 h.2) (ygX12_path hk g hR)
set_option maxHeartbeats 4000000 in
set_option maxRecDepth 100000 in
theorem yfX12_incidenceOf {G : XT → Prop} (hk : kpM G) (Q : Int64 → XT → Prop) : ∀ k : Nat, (∀ (t : XT) (li : Nat → Int32) (lj : Nat → Int64), G t → wpX12_incidenceOf k 0 t li lj Q → wpX12_incidenceOf k 0 t li lj (fun r t => Q r t ∧ G t)) ∧ (∀ (t : XT) (li : Nat → Int32) (lj : Nat → Int64), G t → wpX12_incidenceOf k 1 t li lj Q → wpX12_incidenceOf k 1 t li lj (fun r t => Q r t ∧ G t)) ∧ (∀ (t : XT) (li : Nat → Int32) (lj : Nat → Int64), G t → wpX12_incidenceOf k 2 t li lj Q → wpX12_incidenceOf k 2 t li lj (fun r t => Q r t ∧ G t)) := by
  intro k
  induction k with
  | zero => exact ⟨fun _ _ _ _ hR => False.elim hR, fun _ _ _ _ hR => False.elim hR, fun _ _ _ _ hR => False.elim hR⟩
  | succ k ih =>
    refine ⟨?_, ?_, ?_⟩
    · intro t li lj g hR
      have hR : wbX12_incidenceOf_0 (wpX12_incidenceOf k) k t li lj Q := hR
      show wbX12_incidenceOf_0 (wpX12_incidenceOf k) k t li lj (fun r t => Q r t ∧ G t)
      unfold wbX12_incidenceOf_0 at hR ⊢
      exact ytX12_laysWays hk g hR (fun y1_0 h1 g1 => ih.2.1 _ _ _ g1 h1)
    · intro t li lj g hR
      have hR : wbX12_incidenceOf_1 (wpX12_incidenceOf k) k t li lj Q := hR
      show wbX12_incidenceOf_1 (wpX12_incidenceOf k) k t li lj (fun r t => Q r t ∧ G t)
      unfold wbX12_incidenceOf_1 at hR ⊢
      exact ⟨fun c1 => ⟨(hR.1 c1), g⟩, fun c2 => ytX12_isFaceThere hk g (hR.2 c2) (fun y3_0 y3_1 h3 g3 => ⟨fun c4 => ih.2.2 _ _ _ g3 (h3.1 c4), fun c5 => ytX12_signOf hk g3 (h3.2 c5) (fun y6_0 y6_1 h6 g6 => fun x7 e7 => ⟨(h6 x7 e7).1, fun x8 e8 => fun x9 e9 => ih.2.2 _ _ _ g6 (((h6 x7 e7).2 x8 e8) x9 e9)⟩)⟩)⟩
    · intro t li lj g hR
      have hR : wbX12_incidenceOf_2 (wpX12_incidenceOf k) k t li lj Q := hR
      show wbX12_incidenceOf_2 (wpX12_incidenceOf k) k t li lj (fun r t => Q r t ∧ G t)
      unfold wbX12_incidenceOf_2 at hR ⊢
      exact fun x1 e1 => fun x2 e2 => ih.2.1 _ _ _ g ((hR x1 e1) x2 e2)
theorem ygX12_incidenceOf {G : XT → Prop} {k : Nat} {t : XT} {a1 : Int32} {a2 : Int32} {Q : Int64 → XT → Prop} (hk : kpM G) (g : G t) (hR : wqX12_incidenceOf k t a1 a2 Q) : wqX12_incidenceOf k t a1 a2 (fun r t => Q r t ∧ G t) := (yfX12_incidenceOf hk Q k).1 t _ _ g hR
theorem ytX12_incidenceOf {G : XT → Prop} {k : Nat} {t : XT} {a1 : Int32} {a2 : Int32} {Q Q' : Int64 → XT → Prop} (hk : kpM G) (g : G t) (hR : wqX12_incidenceOf k t a1 a2 Q) (hQ : (∀ r t, Q r t → G t → Q' r t)) : wqX12_incidenceOf k t a1 a2 Q' := wmX12_incidenceOf (Nat.le_refl k) (fun r t h => hQ r t h.1 h.2) (ygX12_incidenceOf hk g hR)
set_option maxHeartbeats 4000000 in
set_option maxRecDepth 100000 in
theorem yfX12_incidence {G : XT → Prop} (hk : kpM G) (Q : Int64 → XT → Prop) : ∀ k : Nat, (∀ (t : XT) (li : Nat → Int32) (lj : Nat → Int64), G t → wpX12_incidence k 0 t li lj Q → wpX12_incidence k 0 t li lj (fun r t => Q r t ∧ G t)) := by
  intro k
  induction k with
  | zero => exact fun _ _ _ _ hR => False.elim hR
  | succ k ih =>
    intro t li lj g hR
    have hR : wbX12_incidence_0 (wpX12_incidence k) k t li lj Q := hR
    show wbX12_incidence_0 (wpX12_incidence k) k t li lj (fun r t => Q r t ∧ G t)
    unfold wbX12_incidence_0 at hR ⊢
    exact ytX12_areEnds hk g hR (fun y1_0 y1_1 h1 g1 => ⟨fun c2 => ⟨(h1.1 c2), g1⟩, fun c3 => ytX12_incidenceOf hk g1 (h1.2 c3) (fun y4_0 y4_1 h4 g4 => ⟨h4, g4⟩)⟩)
theorem ygX12_incidence {G : XT → Prop} {k : Nat} {t : XT} {a1 : Int32} {a2 : Int32} {Q : Int64 → XT → Prop} (hk : kpM G) (g : G t) (hR : wqX12_incidence k t a1 a2 Q) : wqX12_incidence k t a1 a2 (fun r t => Q r t ∧ G t) := (yfX12_incidence hk Q k) t _ _ g hR
theorem ytX12_incidence {G : XT → Prop} {k : Nat} {t : XT} {a1 : Int32} {a2 : Int32} {Q Q' : Int64 → XT → Prop} (hk : kpM G) (g : G t) (hR : wqX12_incidence k t a1 a2 Q) (hQ : (∀ r t, Q r t → G t → Q' r t)) : wqX12_incidence k t a1 a2 Q' := wmX12_incidence (Nat.le_refl k) (fun r t h => hQ r t h.1 h.2) (ygX12_incidence hk g hR)
set_option maxHeartbeats 4000000 in
set_option maxRecDepth 100000 in
theorem yfX12_laysLink {G : XT → Prop} (hk : kpM G) (Q : Int32 → XT → Prop) : ∀ k : Nat, (∀ (t : XT) (li : Nat → Int32) (lj : Nat → Int64), G t → wpX12_laysLink k 0 t li lj Q → wpX12_laysLink k 0 t li lj (fun r t => Q r t ∧ G t)) ∧ (∀ (t : XT) (li : Nat → Int32) (lj : Nat → Int64), G t → wpX12_laysLink k 1 t li lj Q → wpX12_laysLink k 1 t li lj (fun r t => Q r t ∧ G t)) ∧ (∀ (t : XT) (li : Nat → Int32) (lj : Nat → Int64), G t → wpX12_laysLink k 2 t li lj Q → wpX12_laysLink k 2 t li lj (fun r t => Q r t ∧ G t)) := by
  intro k
  induction k with
  | zero => exact ⟨fun _ _ _ _ hR => False.elim hR, fun _ _ _ _ hR => False.elim hR, fun _ _ _ _ hR => False.elim hR⟩
  | succ k ih =>
    refine ⟨?_, ?_, ?_⟩
    · intro t li lj g hR
      have hR : wbX12_laysLink_0 (wpX12_laysLink k) k t li lj Q := hR
      show wbX12_laysLink_0 (wpX12_laysLink k) k t li lj (fun r t => Q r t ∧ G t)
      unfold wbX12_laysLink_0 at hR ⊢
      exact ⟨hR.1, fun x1 e1 => ih.2.1 _ _ _ g (hR.2 x1 e1)⟩
    · intro t li lj g hR
      have hR : wbX12_laysLink_1 (wpX12_laysLink k) k t li lj Q := hR
      show wbX12_laysLink_1 (wpX12_laysLink k) k t li lj (fun r t => Q r t ∧ G t)
      unfold wbX12_laysLink_1 at hR ⊢
      exact ⟨fun c1 => ytX12_signOf hk g (hR.1 c1) (fun y2_0 y2_1 h2 g2 => fun x3 e3 => fun x4 e4 => fun x5 e5 => ⟨(((h2 x3 e3) x4 e4) x5 e5).1, fun x6 e6 => have g6 : G x6 := (by rw [e6]; exact hk.2.2.2 _ _ _ g2); ⟨((((h2 x3 e3) x4 e4) x5 e5).2 x6 e6), g6⟩⟩), fun c7 => ⟨fun c8 => ih.2.2 _ _ _ g ((hR.2 c7).1 c8), fun c9 => ytX12_isFaceThere hk g ((hR.2 c7).2 c9) (fun y10_0 y10_1 h10 g10 => ⟨fun c11 => ⟨(h10.1 c11).1, fun x12 e12 => fun x13 e13 => ⟨fun c14 => ytX12_signOf hk g10 ((((h10.1 c11).2 x12 e12) x13 e13).1 c14) (fun y15_0 y15_1 h15 g15 => fun x16 e16 => ⟨(h15 x16 e16).1, fun x17 e17 => fun x18 e18 => fun x19 e19 => ih.2.2 _ _ _ g15 ((((h15 x16 e16).2 x17 e17) x18 e18) x19 e19)⟩), fun c20 => ⟨((((h10.1 c11).2 x12 e12) x13 e13).2 c20), g10⟩⟩⟩, fun c21 => ih.2.2 _ _ _ g10 (h10.2 c21)⟩)⟩⟩
    · intro t li lj g hR
      have hR : wbX12_laysLink_2 (wpX12_laysLink k) k t li lj Q := hR
      show wbX12_laysLink_2 (wpX12_laysLink k) k t li lj (fun r t => Q r t ∧ G t)
      unfold wbX12_laysLink_2 at hR ⊢
      exact fun x1 e1 => ih.2.1 _ _ _ g (hR x1 e1)
theorem ygX12_laysLink {G : XT → Prop} {k : Nat} {t : XT} {a1 : Int32} {Q : Int32 → XT → Prop} (hk : kpM G) (g : G t) (hR : wqX12_laysLink k t a1 Q) : wqX12_laysLink k t a1 (fun r t => Q r t ∧ G t) := (yfX12_laysLink hk Q k).1 t _ _ g hR
theorem ytX12_laysLink {G : XT → Prop} {k : Nat} {t : XT} {a1 : Int32} {Q Q' : Int32 → XT → Prop} (hk : kpM G) (g : G t) (hR : wqX12_laysLink k t a1 Q) (hQ : (∀ r t, Q r t → G t → Q' r t)) : wqX12_laysLink k t a1 Q' := wmX12_laysLink (Nat.le_refl k) (fun r t h => hQ r t h.1 h.2) (ygX12_laysLink hk g hR)
set_option maxHeartbeats 4000000 in
set_option maxRecDepth 100000 in
theorem yfX12_chain {G : XT → Prop} (hk : kpM G) (Q : Int64 → XT → Prop) : ∀ k : Nat, (∀ (t : XT) (li : Nat → Int32) (lj : Nat → Int64), G t → wpX12_chain k 0 t li lj Q → wpX12_chain k 0 t li lj (fun r t => Q r t ∧ G t)) ∧ (∀ (t : XT) (li : Nat → Int32) (lj : Nat → Int64), G t → wpX12_chain k 1 t li lj Q → wpX12_chain k 1 t li lj (fun r t => Q r t ∧ G t)) ∧ (∀ (t : XT) (li : Nat → Int32) (lj : Nat → Int64), G t → wpX12_chain k 2 t li lj Q → wpX12_chain k 2 t li lj (fun r t => Q r t ∧ G t)) ∧ (∀ (t : XT) (li : Nat → Int32) (lj : Nat → Int64), G t → wpX12_chain k 3 t li lj Q → wpX12_chain k 3 t li lj (fun r t => Q r t ∧ G t)) ∧ (∀ (t : XT) (li : Nat → Int32) (lj : Nat → Int64), G t → wpX12_chain k 4 t li lj Q → wpX12_chain k 4 t li lj (fun r t => Q r t ∧ G t)) ∧ (∀ (t : XT) (li : Nat → Int32) (lj : Nat → Int64), G t → wpX12_chain k 5 t li lj Q → wpX12_chain k 5 t li lj (fun r t => Q r t ∧ G t)) ∧ (∀ (t : XT) (li : Nat → Int32) (lj : Nat → Int64), G t → wpX12_chain k 6 t li lj Q → wpX12_chain k 6 t li lj (fun r t => Q r t ∧ G t)) ∧ (∀ (t : XT) (li : Nat → Int32) (lj : Nat → Int64), G t → wpX12_chain k 7 t li lj Q → wpX12_chain k 7 t li lj (fun r t => Q r t ∧ G t)) ∧ (∀ (t : XT) (li : Nat → Int32) (lj : Nat → Int64), G t → wpX12_chain k 8 t li lj Q → wpX12_chain k 8 t li lj (fun r t => Q r t ∧ G t)) ∧ (∀ (t : XT) (li : Nat → Int32) (lj : Nat → Int64), G t → wpX12_chain k 9 t li lj Q → wpX12_chain k 9 t li lj (fun r t => Q r t ∧ G t)) ∧ (∀ (t : XT) (li : Nat → Int32) (lj : Nat → Int64), G t → wpX12_chain k 10 t li lj Q → wpX12_chain k 10 t li lj (fun r t => Q r t ∧ G t)) ∧ (∀ (t : XT) (li : Nat → Int32) (lj : Nat → Int64), G t → wpX12_chain k 11 t li lj Q → wpX12_chain k 11 t li lj (fun r t => Q r t ∧ G t)) := by
  intro k
  induction k with
  | zero => exact ⟨fun _ _ _ _ hR => False.elim hR, fun _ _ _ _ hR => False.elim hR, fun _ _ _ _ hR => False.elim hR, fun _ _ _ _ hR => False.elim hR, fun _ _ _ _ hR => False.elim hR, fun _ _ _ _ hR => False.elim hR, fun _ _ _ _ hR => False.elim hR, fun _ _ _ _ hR => False.elim hR, fun _ _ _ _ hR => False.elim hR, fun _ _ _ _ hR => False.elim hR, fun _ _ _ _ hR => False.elim hR, fun _ _ _ _ hR => False.elim hR⟩
  | succ k ih =>
    refine ⟨?_, ?_, ?_, ?_, ?_, ?_, ?_, ?_, ?_, ?_, ?_, ?_⟩
    · intro t li lj g hR
      have hR : wbX12_chain_0 (wpX12_chain k) k t li lj Q := hR
      show wbX12_chain_0 (wpX12_chain k) k t li lj (fun r t => Q r t ∧ G t)
      unfold wbX12_chain_0 at hR ⊢
      exact ytX12_isCritical hk g hR (fun y1_0 y1_1 h1 g1 => ⟨fun c2 => ih.2.1 _ _ _ g1 (h1.1 c2), fun c3 => ytX12_isThere hk g1 (h1.2 c3) (fun y4_0 y4_1 h4 g4 => ⟨fun c5 => ih.2.1 _ _ _ g4 (h4.1 c5), fun c6 => ytX12_dimOf hk g4 (h4.2 c6) (fun y7_0 y7_1 h7 g7 => ytX12_dimOf hk g7 h7 (fun y8_0 y8_1 h8 g8 => ⟨fun c9 => ih.2.2.1 _ _ _ g8 (h8.1 c9), fun c10 => ih.2.1 _ _ _ g8 (h8.2 c10)⟩))⟩)⟩)
    · intro t li lj g hR
      have hR : wbX12_chain_1 (wpX12_chain k) k t li lj Q := hR
      show wbX12_chain_1 (wpX12_chain k) k t li lj (fun r t => Q r t ∧ G t)
      unfold wbX12_chain_1 at hR ⊢
      exact ⟨hR, g⟩
    · intro t li lj g hR
      have hR : wbX12_chain_2 (wpX12_chain k) k t li lj Q := hR
      show wbX12_chain_2 (wpX12_chain k) k t li lj (fun r t => Q r t ∧ G t)
      unfold wbX12_chain_2 at hR ⊢
      exact ⟨fun c1 => ih.2.2.2.2.2.2.2.1 _ _ _ g (hR.1 c1), fun c2 => ytX12_isThere hk g (hR.2 c2) (fun y3_0 y3_1 h3 g3 => ⟨fun c4 => ih.2.2.2.1 _ _ _ g3 (h3.1 c4), fun c5 => ⟨(h3.2 c5).1, fun x6 e6 => ⟨fun c7 => ih.2.2.2.1 _ _ _ g3 (((h3.2 c5).2 x6 e6).1 c7), fun c8 => ytX12_isLower hk g3 (((h3.2 c5).2 x6 e6).2 c8) (fun y9_0 y9_1 h9 g9 => ⟨fun c10 => ih.2.2.2.1 _ _ _ g9 (h9.1 c10), fun c11 => ytX12_dimOf hk g9 (h9.2 c11) (fun y12_0 y12_1 h12 g12 => ytX12_dimOf hk g12 h12 (fun y13_0 y13_1 h13 g13 => ⟨fun c14 => ih.2.2.2.1 _ _ _ g13 (h13.1 c14), fun c15 => ih.2.2.2.2.1 _ _ _ g13 (h13.2 c15)⟩))⟩)⟩⟩⟩)⟩
    · intro t li lj g hR
      have hR : wbX12_chain_3 (wpX12_chain k) k t li lj Q := hR
      show wbX12_chain_3 (wpX12_chain k) k t li lj (fun r t => Q r t ∧ G t)
      unfold wbX12_chain_3 at hR ⊢
      exact ih.2.2.2.2.1 _ _ _ g hR
    · intro t li lj g hR
      have hR : wbX12_chain_4 (wpX12_chain k) k t li lj Q := hR
      show wbX12_chain_4 (wpX12_chain k) k t li lj (fun r t => Q r t ∧ G t)
      unfold wbX12_chain_4 at hR ⊢
      exact ⟨fun c1 => ⟨fun c2 => ih.2.2.2.2.2.1 _ _ _ g ((hR.1 c1).1 c2), fun c3 => ih.2.2.2.2.2.1 _ _ _ g ((hR.1 c1).2 c3)⟩, fun c4 => ih.2.2.2.2.2.2.1 _ _ _ g (hR.2 c4)⟩
    · intro t li lj g hR
      have hR : wbX12_chain_5 (wpX12_chain k) k t li lj Q := hR
      show wbX12_chain_5 (wpX12_chain k) k t li lj (fun r t => Q r t ∧ G t)
      unfold wbX12_chain_5 at hR ⊢
      exact wcX12_truth hR (fun y1_0 h1 => fun x2 e2 => ih.2.2.2.2.2.2.1 _ _ _ g (h1 x2 e2))
    · intro t li lj g hR
      have hR : wbX12_chain_6 (wpX12_chain k) k t li lj Q := hR
      show wbX12_chain_6 (wpX12_chain k) k t li lj (fun r t => Q r t ∧ G t)
      unfold wbX12_chain_6 at hR ⊢
      exact ⟨hR.1, fun x1 e1 => have g1 : G x1 := (by rw [e1]; exact hk.2.2.2 _ _ _ g); fun x2 e2 => ih.2.2.1 _ _ _ g1 ((hR.2 x1 e1) x2 e2)⟩
    · intro t li lj g hR
      have hR : wbX12_chain_7 (wpX12_chain k) k t li lj Q := hR
      show wbX12_chain_7 (wpX12_chain k) k t li lj (fun r t => Q r t ∧ G t)
      unfold wbX12_chain_7 at hR ⊢
      exact ⟨fun c1 => ⟨(hR.1 c1).1, fun x2 e2 => ⟨((hR.1 c1).2 x2 e2), g⟩⟩, fun c3 => ih.2.2.2.2.2.2.2.2.1 _ _ _ g (hR.2 c3)⟩
    · intro t li lj g hR
      have hR : wbX12_chain_8 (wpX12_chain k) k t li lj Q := hR
      show wbX12_chain_8 (wpX12_chain k) k t li lj (fun r t => Q r t ∧ G t)
      unfold wbX12_chain_8 at hR ⊢
      exact ⟨fun c1 => ih.2.2.2.2.2.2.2.1 _ _ _ g (hR.1 c1), fun c2 => ⟨(hR.2 c2).1, fun x3 e3 => fun x4 e4 => ⟨fun c5 => ih.2.2.2.2.2.2.2.2.2.2.2 _ _ _ g ((((hR.2 c2).2 x3 e3) x4 e4).1 c5), fun c6 => ytX12_laysLink hk g ((((hR.2 c2).2 x3 e3) x4 e4).2 c6) (fun y7_0 y7_1 h7 g7 => ⟨fun c8 => ih.2.2.2.2.2.2.2.2.2.1 _ _ _ g7 (h7.1 c8), fun c9 => ⟨fun c10 => ih.2.2.2.2.2.2.2.2.2.2.1 _ _ _ g7 ((h7.2 c9).1 c10), fun c11 => ih.2.2.2.2.2.2.2.2.2.1 _ _ _ g7 ((h7.2 c9).2 c11)⟩⟩)⟩⟩⟩
    · intro t li lj g hR
      have hR : wbX12_chain_9 (wpX12_chain k) k t li lj Q := hR
      show wbX12_chain_9 (wpX12_chain k) k t li lj (fun r t => Q r t ∧ G t)
      unfold wbX12_chain_9 at hR ⊢
      exact ih.2.2.2.2.2.2.2.2.2.2.1 _ _ _ g hR
    · intro t li lj g hR
      have hR : wbX12_chain_10 (wpX12_chain k) k t li lj Q := hR
      show wbX12_chain_10 (wpX12_chain k) k t li lj (fun r t => Q r t ∧ G t)
      unfold wbX12_chain_10 at hR ⊢
      exact ih.2.2.2.2.2.2.2.2.2.2.2 _ _ _ g hR
    · intro t li lj g hR
      have hR : wbX12_chain_11 (wpX12_chain k) k t li lj Q := hR
      show wbX12_chain_11 (wpX12_chain k) k t li lj (fun r t => Q r t ∧ G t)
      unfold wbX12_chain_11 at hR ⊢
      exact fun x1 e1 => ih.2.2.2.2.2.2.2.2.1 _ _ _ g (hR x1 e1)
theorem ygX12_chain {G : XT → Prop} {k : Nat} {t : XT} {a1 : Int32} {a2 : Int32} {Q : Int64 → XT → Prop} (hk : kpM G) (g : G t) (hR : wqX12_chain k t a1 a2 Q) : wqX12_chain k t a1 a2 (fun r t => Q r t ∧ G t) := (yfX12_chain hk Q k).1 t _ _ g hR
theorem ytX12_chain {G : XT → Prop} {k : Nat} {t : XT} {a1 : Int32} {a2 : Int32} {Q Q' : Int64 → XT → Prop} (hk : kpM G) (g : G t) (hR : wqX12_chain k t a1 a2 Q) (hQ : (∀ r t, Q r t → G t → Q' r t)) : wqX12_chain k t a1 a2 Q' := wmX12_chain (Nat.le_refl k) (fun r t h => hQ r t h.1 h.2) (ygX12_chain hk g hR)
set_option maxHeartbeats 4000000 in
set_option maxRecDepth 100000 in
theorem yfX12_root {G : XT → Prop} (hk : kpM G) (Q : Int32 → XT → Prop) : ∀ k : Nat, (∀ (t : XT) (li : Nat → Int32) (lj : Nat → Int64), G t → wpX12_root k 0 t li lj Q → wpX12_root k 0 t li lj (fun r t => Q r t ∧ G t)) ∧ (∀ (t : XT) (li : Nat → Int32) (lj : Nat → Int64), G t → wpX12_root k 1 t li lj Q → wpX12_root k 1 t li lj (fun r t => Q r t ∧ G t)) ∧ (∀ (t : XT) (li : Nat → Int32) (lj : Nat → Int64), G t → wpX12_root k 2 t li lj Q → wpX12_root k 2 t li lj (fun r t => Q r t ∧ G t)) := by
  intro k
  induction k with
  | zero => exact ⟨fun _ _ _ _ hR => False.elim hR, fun _ _ _ _ hR => False.elim hR, fun _ _ _ _ hR => False.elim hR⟩
  | succ k ih =>
    refine ⟨?_, ?_, ?_⟩
    · intro t li lj g hR
      have hR : wbX12_root_0 (wpX12_root k) k t li lj Q := hR
      show wbX12_root_0 (wpX12_root k) k t li lj (fun r t => Q r t ∧ G t)
      unfold wbX12_root_0 at hR ⊢
      exact ytX12_isThere hk g hR (fun y1_0 y1_1 h1 g1 => ⟨fun c2 => ih.2.1 _ _ _ g1 (h1.1 c2), fun c3 => ytX12_dimOf hk g1 (h1.2 c3) (fun y4_0 y4_1 h4 g4 => ⟨fun c5 => ih.2.1 _ _ _ g4 (h4.1 c5), fun c6 => wcX12_in (h4.2 c6) (fun y7_0 h7 => ⟨fun c8 => ih.2.2 _ _ _ g4 (h7.1 c8), fun c9 => ih.2.1 _ _ _ g4 (h7.2 c9)⟩)⟩)⟩)
    · intro t li lj g hR
      have hR : wbX12_root_1 (wpX12_root k) k t li lj Q := hR
      show wbX12_root_1 (wpX12_root k) k t li lj (fun r t => Q r t ∧ G t)
      unfold wbX12_root_1 at hR ⊢
      exact ⟨hR, g⟩
    · intro t li lj g hR
      have hR : wbX12_root_2 (wpX12_root k) k t li lj Q := hR
      show wbX12_root_2 (wpX12_root k) k t li lj (fun r t => Q r t ∧ G t)
      unfold wbX12_root_2 at hR ⊢
      exact ⟨hR.1, fun x1 e1 => ⟨fun c2 => ⟨fun c3 => ⟨(((hR.2 x1 e1).1 c2).1 c3), g⟩, fun c4 => ⟨(((hR.2 x1 e1).1 c2).2 c4), g⟩⟩, fun c5 => ⟨((hR.2 x1 e1).2 c5).1, fun x6 e6 => ⟨(((hR.2 x1 e1).2 c5).2 x6 e6).1, fun x7 e7 => ⟨((((hR.2 x1 e1).2 c5).2 x6 e6).2 x7 e7).1, fun x8 e8 => fun x9 e9 => fun x10 e10 => ⟨(((((((hR.2 x1 e1).2 c5).2 x6 e6).2 x7 e7).2 x8 e8) x9 e9) x10 e10).1, fun x11 e11 => fun x12 e12 => ih.2.2 _ _ _ g (((((((((hR.2 x1 e1).2 c5).2 x6 e6).2 x7 e7).2 x8 e8) x9 e9) x10 e10).2 x11 e11) x12 e12)⟩⟩⟩⟩⟩⟩
theorem ygX12_root {G : XT → Prop} {k : Nat} {t : XT} {a1 : Int32} {a2 : Int32} {Q : Int32 → XT → Prop} (hk : kpM G) (g : G t) (hR : wqX12_root k t a1 a2 Q) : wqX12_root k t a1 a2 (fun r t => Q r t ∧ G t) := (yfX12_root hk Q k).1 t _ _ g hR
theorem ytX12_root {G : XT → Prop} {k : Nat} {t : XT} {a1 : Int32} {a2 : Int32} {Q Q' : Int32 → XT → Prop} (hk : kpM G) (g : G t) (hR : wqX12_root k t a1 a2 Q) (hQ : (∀ r t, Q r t → G t → Q' r t)) : wqX12_root k t a1 a2 Q' := wmX12_root (Nat.le_refl k) (fun r t h => hQ r t h.1 h.2) (ygX12_root hk g hR)
set_option maxHeartbeats 4000000 in
set_option maxRecDepth 100000 in
theorem yfX12_laysReach {G : XT → Prop} (hk : kpM G) (Q : Int32 → XT → Prop) : ∀ k : Nat, (∀ (t : XT) (li : Nat → Int32) (lj : Nat → Int64), G t → wpX12_laysReach k 0 t li lj Q → wpX12_laysReach k 0 t li lj (fun r t => Q r t ∧ G t)) ∧ (∀ (t : XT) (li : Nat → Int32) (lj : Nat → Int64), G t → wpX12_laysReach k 1 t li lj Q → wpX12_laysReach k 1 t li lj (fun r t => Q r t ∧ G t)) ∧ (∀ (t : XT) (li : Nat → Int32) (lj : Nat → Int64), G t → wpX12_laysReach k 2 t li lj Q → wpX12_laysReach k 2 t li lj (fun r t => Q r t ∧ G t)) := by
  intro k
  induction k with
  | zero => exact ⟨fun _ _ _ _ hR => False.elim hR, fun _ _ _ _ hR => False.elim hR, fun _ _ _ _ hR => False.elim hR⟩
  | succ k ih =>
    refine ⟨?_, ?_, ?_⟩
    · intro t li lj g hR
      have hR : wbX12_laysReach_0 (wpX12_laysReach k) k t li lj Q := hR
      show wbX12_laysReach_0 (wpX12_laysReach k) k t li lj (fun r t => Q r t ∧ G t)
      unfold wbX12_laysReach_0 at hR ⊢
      exact ytX12_isFaceThere hk g hR (fun y1_0 y1_1 h1 g1 => wcX12_truth h1 (fun y2_0 h2 => fun x3 e3 => ih.2.1 _ _ _ g1 (h2 x3 e3)))
    · intro t li lj g hR
      have hR : wbX12_laysReach_1 (wpX12_laysReach k) k t li lj Q := hR
      show wbX12_laysReach_1 (wpX12_laysReach k) k t li lj (fun r t => Q r t ∧ G t)
      unfold wbX12_laysReach_1 at hR ⊢
      exact ⟨fun c1 => ⟨(hR.1 c1).1, fun x2 e2 => have g2 : G x2 := (by rw [e2]; exact hk.2.2.2 _ _ _ g); ⟨((hR.1 c1).2 x2 e2), g2⟩⟩, fun c3 => ⟨fun c4 => ih.2.2 _ _ _ g ((hR.2 c3).1 c4), fun c5 => ytX12_isThere hk g ((hR.2 c3).2 c5) (fun y6_0 y6_1 h6 g6 => ⟨fun c7 => ih.2.2 _ _ _ g6 (h6.1 c7), fun c8 => ytX12_isLower hk g6 (h6.2 c8) (fun y9_0 y9_1 h9 g9 => ⟨fun c10 => ih.2.2 _ _ _ g9 (h9.1 c10), fun c11 => ytX12_dimOf hk g9 (h9.2 c11) (fun y12_0 y12_1 h12 g12 => ytX12_dimOf hk g12 h12 (fun y13_0 y13_1 h13 g13 => ⟨fun c14 => ih.2.2 _ _ _ g13 (h13.1 c14), fun c15 => ⟨(h13.2 c15).1, fun x16 e16 => ytX12_isFaceThere hk g13 ((h13.2 c15).2 x16 e16) (fun y17_0 y17_1 h17 g17 => ⟨fun c18 => ⟨(h17.1 c18).1, fun x19 e19 => fun x20 e20 => ⟨fun c21 => ⟨((((h17.1 c18).2 x19 e19) x20 e20).1 c21).1, fun x22 e22 => fun x23 e23 => ih.2.2 _ _ _ g17 ((((((h17.1 c18).2 x19 e19) x20 e20).1 c21).2 x22 e22) x23 e23)⟩, fun c24 => ⟨((((h17.1 c18).2 x19 e19) x20 e20).2 c24), g17⟩⟩⟩, fun c25 => ih.2.2 _ _ _ g17 (h17.2 c25)⟩)⟩⟩))⟩)⟩)⟩⟩
    · intro t li lj g hR
      have hR : wbX12_laysReach_2 (wpX12_laysReach k) k t li lj Q := hR
      show wbX12_laysReach_2 (wpX12_laysReach k) k t li lj (fun r t => Q r t ∧ G t)
      unfold wbX12_laysReach_2 at hR ⊢
      exact fun x1 e1 => ih.2.1 _ _ _ g (hR x1 e1)
theorem ygX12_laysReach {G : XT → Prop} {k : Nat} {t : XT} {a1 : Int32} {a2 : Int32} {Q : Int32 → XT → Prop} (hk : kpM G) (g : G t) (hR : wqX12_laysReach k t a1 a2 Q) : wqX12_laysReach k t a1 a2 (fun r t => Q r t ∧ G t) := (yfX12_laysReach hk Q k).1 t _ _ g hR
theorem ytX12_laysReach {G : XT → Prop} {k : Nat} {t : XT} {a1 : Int32} {a2 : Int32} {Q Q' : Int32 → XT → Prop} (hk : kpM G) (g : G t) (hR : wqX12_laysReach k t a1 a2 Q) (hQ : (∀ r t, Q r t → G t → Q' r t)) : wqX12_laysReach k t a1 a2 Q' := wmX12_laysReach (Nat.le_refl k) (fun r t h => hQ r t h.1 h.2) (ygX12_laysReach hk g hR)
set_option maxHeartbeats 4000000 in
set_option maxRecDepth 100000 in
theorem yfX12_through {G : XT → Prop} (hk : kpM G) (Q : Int64 → XT → Prop) : ∀ k : Nat, (∀ (t : XT) (li : Nat → Int32) (lj : Nat → Int64), G t → wpX12_through k 0 t li lj Q → wpX12_through k 0 t li lj (fun r t => Q r t ∧ G t)) ∧ (∀ (t : XT) (li : Nat → Int32) (lj : Nat → Int64), G t → wpX12_through k 1 t li lj Q → wpX12_through k 1 t li lj (fun r t => Q r t ∧ G t)) ∧ (∀ (t : XT) (li : Nat → Int32) (lj : Nat → Int64), G t → wpX12_through k 2 t li lj Q → wpX12_through k 2 t li lj (fun r t => Q r t ∧ G t)) ∧ (∀ (t : XT) (li : Nat → Int32) (lj : Nat → Int64), G t → wpX12_through k 3 t li lj Q → wpX12_through k 3 t li lj (fun r t => Q r t ∧ G t)) ∧ (∀ (t : XT) (li : Nat → Int32) (lj : Nat → Int64), G t → wpX12_through k 4 t li lj Q → wpX12_through k 4 t li lj (fun r t => Q r t ∧ G t)) ∧ (∀ (t : XT) (li : Nat → Int32) (lj : Nat → Int64), G t → wpX12_through k 5 t li lj Q → wpX12_through k 5 t li lj (fun r t => Q r t ∧ G t)) ∧ (∀ (t : XT) (li : Nat → Int32) (lj : Nat → Int64), G t → wpX12_through k 6 t li lj Q → wpX12_through k 6 t li lj (fun r t => Q r t ∧ G t)) ∧ (∀ (t : XT) (li : Nat → Int32) (lj : Nat → Int64), G t → wpX12_through k 7 t li lj Q → wpX12_through k 7 t li lj (fun r t => Q r t ∧ G t)) ∧ (∀ (t : XT) (li : Nat → Int32) (lj : Nat → Int64), G t → wpX12_through k 8 t li lj Q → wpX12_through k 8 t li lj (fun r t => Q r t ∧ G t)) := by
  intro k
  induction k with
  | zero => exact ⟨fun _ _ _ _ hR => False.elim hR, fun _ _ _ _ hR => False.elim hR, fun _ _ _ _ hR => False.elim hR, fun _ _ _ _ hR => False.elim hR, fun _ _ _ _ hR => False.elim hR, fun _ _ _ _ hR => False.elim hR, fun _ _ _ _ hR => False.elim hR, fun _ _ _ _ hR => False.elim hR, fun _ _ _ _ hR => False.elim hR⟩
  | succ k ih =>
    refine ⟨?_, ?_, ?_, ?_, ?_, ?_, ?_, ?_, ?_⟩
    · intro t li lj g hR
      have hR : wbX12_through_0 (wpX12_through k) k t li lj Q := hR
      show wbX12_through_0 (wpX12_through k) k t li lj (fun r t => Q r t ∧ G t)
      unfold wbX12_through_0 at hR ⊢
      exact ytX12_areEnds hk g hR (fun y1_0 y1_1 h1 g1 => ⟨fun c2 => ih.2.1 _ _ _ g1 (h1.1 c2), fun c3 => ytX12_isThere hk g1 (h1.2 c3) (fun y4_0 y4_1 h4 g4 => ⟨fun c5 => ytX12_waysFrom hk g4 (h4.1 c5) (fun y6_0 y6_1 h6 g6 => ⟨fun c7 => ih.2.2.1 _ _ _ g6 (h6.1 c7), fun c8 => ⟨fun c9 => ytX12_dimOf hk g6 ((h6.2 c8).1 c9) (fun y10_0 y10_1 h10 g10 => ytX12_dimOf hk g10 h10 (fun y11_0 y11_1 h11 g11 => ⟨fun c12 => ⟨(h11.1 c12).1, fun x13 e13 => ih.2.2.2.1 _ _ _ g11 ((h11.1 c12).2 x13 e13)⟩, fun c14 => ih.2.2.2.1 _ _ _ g11 (h11.2 c14)⟩)), fun c15 => ih.2.2.1 _ _ _ g6 ((h6.2 c8).2 c15)⟩⟩), fun c16 => ih.2.1 _ _ _ g4 (h4.2 c16)⟩)⟩)
    · intro t li lj g hR
      have hR : wbX12_through_1 (wpX12_through k) k t li lj Q := hR
      show wbX12_through_1 (wpX12_through k) k t li lj (fun r t => Q r t ∧ G t)
      unfold wbX12_through_1 at hR ⊢
      exact ⟨hR, g⟩
    · intro t li lj g hR
      have hR : wbX12_through_2 (wpX12_through k) k t li lj Q := hR
      show wbX12_through_2 (wpX12_through k) k t li lj (fun r t => Q r t ∧ G t)
      unfold wbX12_through_2 at hR ⊢
      exact ⟨hR, g⟩
    · intro t li lj g hR
      have hR : wbX12_through_3 (wpX12_through k) k t li lj Q := hR
      show wbX12_through_3 (wpX12_through k) k t li lj (fun r t => Q r t ∧ G t)
      unfold wbX12_through_3 at hR ⊢
      exact ⟨fun c1 => ih.2.2.2.2.1 _ _ _ g (hR.1 c1), fun c2 => ytX12_dimOf hk g (hR.2 c2) (fun y3_0 y3_1 h3 g3 => ytX12_dimOf hk g3 h3 (fun y4_0 y4_1 h4 g4 => ⟨fun c5 => ih.2.2.2.2.1 _ _ _ g4 (h4.1 c5), fun c6 => ytX12_isLower hk g4 (h4.2 c6) (fun y7_0 y7_1 h7 g7 => ⟨fun c8 => ih.2.2.2.2.2.1 _ _ _ g7 (h7.1 c8), fun c9 => ih.2.2.2.2.1 _ _ _ g7 (h7.2 c9)⟩)⟩))⟩
    · intro t li lj g hR
      have hR : wbX12_through_4 (wpX12_through k) k t li lj Q := hR
      show wbX12_through_4 (wpX12_through k) k t li lj (fun r t => Q r t ∧ G t)
      unfold wbX12_through_4 at hR ⊢
      exact ⟨hR, g⟩
    · intro t li lj g hR
      have hR : wbX12_through_5 (wpX12_through k) k t li lj Q := hR
      show wbX12_through_5 (wpX12_through k) k t li lj (fun r t => Q r t ∧ G t)
      unfold wbX12_through_5 at hR ⊢
      exact ⟨fun c1 => ih.2.2.2.2.2.2.1 _ _ _ g (hR.1 c1), fun c2 => ⟨(hR.2 c2).1, fun x3 e3 => have g3 : G x3 := (by rw [e3]; exact hk.2.2.2 _ _ _ g); fun x4 e4 => ih.2.2.2.2.2.1 _ _ _ g3 (((hR.2 c2).2 x3 e3) x4 e4)⟩⟩
    · intro t li lj g hR
      have hR : wbX12_through_6 (wpX12_through k) k t li lj Q := hR
      show wbX12_through_6 (wpX12_through k) k t li lj (fun r t => Q r t ∧ G t)
      unfold wbX12_through_6 at hR ⊢
      exact ⟨hR.1, fun x1 e1 => fun x2 e2 => ⟨fun c3 => ⟨(((hR.2 x1 e1) x2 e2).1 c3).1, fun x4 e4 => ⟨((((hR.2 x1 e1) x2 e2).1 c3).2 x4 e4).1, fun x5 e5 => fun x6 e6 => ⟨((((((hR.2 x1 e1) x2 e2).1 c3).2 x4 e4).2 x5 e5) x6 e6), g⟩⟩⟩, fun c7 => ih.2.2.2.2.2.2.2.1 _ _ _ g (((hR.2 x1 e1) x2 e2).2 c7)⟩⟩
    · intro t li lj g hR
      have hR : wbX12_through_7 (wpX12_through k) k t li lj Q := hR
      show wbX12_through_7 (wpX12_through k) k t li lj (fun r t => Q r t ∧ G t)
      unfold wbX12_through_7 at hR ⊢
      exact ⟨fun c1 => ih.2.2.2.2.2.2.1 _ _ _ g (hR.1 c1), fun c2 => ⟨(hR.2 c2).1, fun x3 e3 => fun x4 e4 => ⟨fun c5 => ih.2.2.2.2.2.2.2.2 _ _ _ g ((((hR.2 c2).2 x3 e3) x4 e4).1 c5), fun c6 => ytX12_isThere hk g ((((hR.2 c2).2 x3 e3) x4 e4).2 c6) (fun y7_0 y7_1 h7 g7 => ⟨fun c8 => ih.2.2.2.2.2.2.2.2 _ _ _ g7 (h7.1 c8), fun c9 => ytX12_dimOf hk g7 (h7.2 c9) (fun y10_0 y10_1 h10 g10 => ytX12_dimOf hk g10 h10 (fun y11_0 y11_1 h11 g11 => ⟨fun c12 => ih.2.2.2.2.2.2.2.2 _ _ _ g11 (h11.1 c12), fun c13 => ytX12_laysReach hk g11 (h11.2 c13) (fun y14_0 y14_1 h14 g14 => ih.2.2.2.2.2.2.2.2 _ _ _ g14 h14)⟩))⟩)⟩⟩⟩
    · intro t li lj g hR
      have hR : wbX12_through_8 (wpX12_through k) k t li lj Q := hR
      show wbX12_through_8 (wpX12_through k) k t li lj (fun r t => Q r t ∧ G t)
      unfold wbX12_through_8 at hR ⊢
      exact fun x1 e1 => ih.2.2.2.2.2.2.2.1 _ _ _ g (hR x1 e1)
theorem ygX12_through {G : XT → Prop} {k : Nat} {t : XT} {a1 : Int32} {a2 : Int32} {a3 : Int32} {Q : Int64 → XT → Prop} (hk : kpM G) (g : G t) (hR : wqX12_through k t a1 a2 a3 Q) : wqX12_through k t a1 a2 a3 (fun r t => Q r t ∧ G t) := (yfX12_through hk Q k).1 t _ _ g hR
theorem ytX12_through {G : XT → Prop} {k : Nat} {t : XT} {a1 : Int32} {a2 : Int32} {a3 : Int32} {Q Q' : Int64 → XT → Prop} (hk : kpM G) (g : G t) (hR : wqX12_through k t a1 a2 a3 Q) (hQ : (∀ r t, Q r t → G t → Q' r t)) : wqX12_through k t a1 a2 a3 Q' := wmX12_through (Nat.le_refl k) (fun r t h => hQ r t h.1 h.2) (ygX12_through hk g hR)
set_option maxHeartbeats 4000000 in
set_option maxRecDepth 100000 in
theorem yfX12_squareOf {G : XT → Prop} (hk : kpM G) (Q : Int64 → XT → Prop) : ∀ k : Nat, (∀ (t : XT) (li : Nat → Int32) (lj : Nat → Int64), G t → wpX12_squareOf k 0 t li lj Q → wpX12_squareOf k 0 t li lj (fun r t => Q r t ∧ G t)) ∧ (∀ (t : XT) (li : Nat → Int32) (lj : Nat → Int64), G t → wpX12_squareOf k 1 t li lj Q → wpX12_squareOf k 1 t li lj (fun r t => Q r t ∧ G t)) ∧ (∀ (t : XT) (li : Nat → Int32) (lj : Nat → Int64), G t → wpX12_squareOf k 2 t li lj Q → wpX12_squareOf k 2 t li lj (fun r t => Q r t ∧ G t)) := by
  intro k
  induction k with
  | zero => exact ⟨fun _ _ _ _ hR => False.elim hR, fun _ _ _ _ hR => False.elim hR, fun _ _ _ _ hR => False.elim hR⟩
  | succ k ih =>
    refine ⟨?_, ?_, ?_⟩
    · intro t li lj g hR
      have hR : wbX12_squareOf_0 (wpX12_squareOf k) k t li lj Q := hR
      show wbX12_squareOf_0 (wpX12_squareOf k) k t li lj (fun r t => Q r t ∧ G t)
      unfold wbX12_squareOf_0 at hR ⊢
      exact ih.2.1 _ _ _ g hR
    · intro t li lj g hR
      have hR : wbX12_squareOf_1 (wpX12_squareOf k) k t li lj Q := hR
      show wbX12_squareOf_1 (wpX12_squareOf k) k t li lj (fun r t => Q r t ∧ G t)
      unfold wbX12_squareOf_1 at hR ⊢
      exact ⟨fun c1 => ⟨(hR.1 c1), g⟩, fun c2 => ytX12_areEnds hk g (hR.2 c2) (fun y3_0 y3_1 h3 g3 => ⟨fun c4 => ih.2.2 _ _ _ g3 (h3.1 c4), fun c5 => ytX12_areEnds hk g3 (h3.2 c5) (fun y6_0 y6_1 h6 g6 => ⟨fun c7 => ih.2.2 _ _ _ g6 (h6.1 c7), fun c8 => ytX12_incidenceOf hk g6 (h6.2 c8) (fun y9_0 y9_1 h9 g9 => ytX12_incidenceOf hk g9 h9 (fun y10_0 y10_1 h10 g10 => fun x11 e11 => fun x12 e12 => ih.2.2 _ _ _ g10 ((h10 x11 e11) x12 e12)))⟩)⟩)⟩
    · intro t li lj g hR
      have hR : wbX12_squareOf_2 (wpX12_squareOf k) k t li lj Q := hR
      show wbX12_squareOf_2 (wpX12_squareOf k) k t li lj (fun r t => Q r t ∧ G t)
      unfold wbX12_squareOf_2 at hR ⊢
      exact fun x1 e1 => ih.2.1 _ _ _ g (hR x1 e1)
theorem ygX12_squareOf {G : XT → Prop} {k : Nat} {t : XT} {a1 : Int32} {a2 : Int32} {Q : Int64 → XT → Prop} (hk : kpM G) (g : G t) (hR : wqX12_squareOf k t a1 a2 Q) : wqX12_squareOf k t a1 a2 (fun r t => Q r t ∧ G t) := (yfX12_squareOf hk Q k).1 t _ _ g hR
theorem ytX12_squareOf {G : XT → Prop} {k : Nat} {t : XT} {a1 : Int32} {a2 : Int32} {Q Q' : Int64 → XT → Prop} (hk : kpM G) (g : G t) (hR : wqX12_squareOf k t a1 a2 Q) (hQ : (∀ r t, Q r t → G t → Q' r t)) : wqX12_squareOf k t a1 a2 Q' := wmX12_squareOf (Nat.le_refl k) (fun r t h => hQ r t h.1 h.2) (ygX12_squareOf hk g hR)
set_option maxHeartbeats 4000000 in
set_option maxRecDepth 100000 in
theorem yfX12_squares {G : XT → Prop} (hk : kpM G) (Q : Int32 → XT → Prop) : ∀ k : Nat, (∀ (t : XT) (li : Nat → Int32) (lj : Nat → Int64), G t → wpX12_squares k 0 t li lj Q → wpX12_squares k 0 t li lj (fun r t => Q r t ∧ G t)) ∧ (∀ (t : XT) (li : Nat → Int32) (lj : Nat → Int64), G t → wpX12_squares k 1 t li lj Q → wpX12_squares k 1 t li lj (fun r t => Q r t ∧ G t)) ∧ (∀ (t : XT) (li : Nat → Int32) (lj : Nat → Int64), G t → wpX12_squares k 2 t li lj Q → wpX12_squares k 2 t li lj (fun r t => Q r t ∧ G t)) ∧ (∀ (t : XT) (li : Nat → Int32) (lj : Nat → Int64), G t → wpX12_squares k 3 t li lj Q → wpX12_squares k 3 t li lj (fun r t => Q r t ∧ G t)) ∧ (∀ (t : XT) (li : Nat → Int32) (lj : Nat → Int64), G t → wpX12_squares k 4 t li lj Q → wpX12_squares k 4 t li lj (fun r t => Q r t ∧ G t)) := by
  intro k
  induction k with
  | zero => exact ⟨fun _ _ _ _ hR => False.elim hR, fun _ _ _ _ hR => False.elim hR, fun _ _ _ _ hR => False.elim hR, fun _ _ _ _ hR => False.elim hR, fun _ _ _ _ hR => False.elim hR⟩
  | succ k ih =>
    refine ⟨?_, ?_, ?_, ?_, ?_⟩
    · intro t li lj g hR
      have hR : wbX12_squares_0 (wpX12_squares k) k t li lj Q := hR
      show wbX12_squares_0 (wpX12_squares k) k t li lj (fun r t => Q r t ∧ G t)
      unfold wbX12_squares_0 at hR ⊢
      exact ih.2.1 _ _ _ g hR
    · intro t li lj g hR
      have hR : wbX12_squares_1 (wpX12_squares k) k t li lj Q := hR
      show wbX12_squares_1 (wpX12_squares k) k t li lj (fun r t => Q r t ∧ G t)
      unfold wbX12_squares_1 at hR ⊢
      exact ⟨fun c1 => ⟨(hR.1 c1), g⟩, fun c2 => ih.2.2.1 _ _ _ g (hR.2 c2)⟩
    · intro t li lj g hR
      have hR : wbX12_squares_2 (wpX12_squares k) k t li lj Q := hR
      show wbX12_squares_2 (wpX12_squares k) k t li lj (fun r t => Q r t ∧ G t)
      unfold wbX12_squares_2 at hR ⊢
      exact ⟨fun c1 => fun x2 e2 => ih.2.1 _ _ _ g ((hR.1 c1) x2 e2), fun c3 => ytX12_isCritical hk g (hR.2 c3) (fun y4_0 y4_1 h4 g4 => ⟨fun c5 => ih.2.2.2.2 _ _ _ g4 (h4.1 c5), fun c6 => ytX12_isCritical hk g4 (h4.2 c6) (fun y7_0 y7_1 h7 g7 => ⟨fun c8 => ih.2.2.2.2 _ _ _ g7 (h7.1 c8), fun c9 => ytX12_dimOf hk g7 (h7.2 c9) (fun y10_0 y10_1 h10 g10 => ytX12_dimOf hk g10 h10 (fun y11_0 y11_1 h11 g11 => fun x12 e12 => ⟨fun c13 => ih.2.2.2.2 _ _ _ g11 ((h11 x12 e12).1 c13), fun c14 => ytX12_squareOf hk g11 ((h11 x12 e12).2 c14) (fun y15_0 y15_1 h15 g15 => fun x16 e16 => ⟨fun c17 => ih.2.2.2.1 _ _ _ g15 ((h15 x16 e16).1 c17), fun c18 => ih.2.2.2.1 _ _ _ g15 ((h15 x16 e16).2 c18)⟩)⟩))⟩)⟩)⟩
    · intro t li lj g hR
      have hR : wbX12_squares_3 (wpX12_squares k) k t li lj Q := hR
      show wbX12_squares_3 (wpX12_squares k) k t li lj (fun r t => Q r t ∧ G t)
      unfold wbX12_squares_3 at hR ⊢
      exact wcX12_truth hR (fun y1_0 h1 => fun x2 e2 => ih.2.2.2.2 _ _ _ g (h1 x2 e2))
    · intro t li lj g hR
      have hR : wbX12_squares_4 (wpX12_squares k) k t li lj Q := hR
      show wbX12_squares_4 (wpX12_squares k) k t li lj (fun r t => Q r t ∧ G t)
      unfold wbX12_squares_4 at hR ⊢
      exact fun x1 e1 => ih.2.2.1 _ _ _ g (hR x1 e1)
theorem ygX12_squares {G : XT → Prop} {k : Nat} {t : XT}  {Q : Int32 → XT → Prop} (hk : kpM G) (g : G t) (hR : wqX12_squares k t  Q) : wqX12_squares k t  (fun r t => Q r t ∧ G t) := (yfX12_squares hk Q k).1 t _ _ g hR
theorem ytX12_squares {G : XT → Prop} {k : Nat} {t : XT}  {Q Q' : Int32 → XT → Prop} (hk : kpM G) (g : G t) (hR : wqX12_squares k t  Q) (hQ : (∀ r t, Q r t → G t → Q' r t)) : wqX12_squares k t  Q' := wmX12_squares (Nat.le_refl k) (fun r t h => hQ r t h.1 h.2) (ygX12_squares hk g hR)
set_option maxHeartbeats 4000000 in
set_option maxRecDepth 100000 in
theorem yfX12_takes {G : XT → Prop} (hk : kpM G) (Q : XT → Prop) : ∀ k : Nat, (∀ (t : XT) (li : Nat → Int32) (lj : Nat → Int64), G t → wpX12_takes k 0 t li lj Q → wpX12_takes k 0 t li lj (fun t => Q t ∧ G t)) ∧ (∀ (t : XT) (li : Nat → Int32) (lj : Nat → Int64), G t → wpX12_takes k 1 t li lj Q → wpX12_takes k 1 t li lj (fun t => Q t ∧ G t)) ∧ (∀ (t : XT) (li : Nat → Int32) (lj : Nat → Int64), G t → wpX12_takes k 2 t li lj Q → wpX12_takes k 2 t li lj (fun t => Q t ∧ G t)) := by
  intro k
  induction k with
  | zero => exact ⟨fun _ _ _ _ hR => False.elim hR, fun _ _ _ _ hR => False.elim hR, fun _ _ _ _ hR => False.elim hR⟩
  | succ k ih =>
    refine ⟨?_, ?_, ?_⟩
    · intro t li lj g hR
      have hR : wbX12_takes_0 (wpX12_takes k) k t li lj Q := hR
      show wbX12_takes_0 (wpX12_takes k) k t li lj (fun t => Q t ∧ G t)
      unfold wbX12_takes_0 at hR ⊢
      exact ih.2.1 _ _ _ g hR
    · intro t li lj g hR
      have hR : wbX12_takes_1 (wpX12_takes k) k t li lj Q := hR
      show wbX12_takes_1 (wpX12_takes k) k t li lj (fun t => Q t ∧ G t)
      unfold wbX12_takes_1 at hR ⊢
      exact ⟨fun c1 => ⟨(hR.1 c1), g⟩, fun c2 => ⟨fun c3 => ytX12_isCritical hk g ((hR.2 c2).1 c3) (fun y4_0 y4_1 h4 g4 => ih.2.2 _ _ _ g4 h4), fun c5 => ⟨((hR.2 c2).2 c5).1, fun x6 e6 => ⟨fun c7 => ih.2.2 _ _ _ g ((((hR.2 c2).2 c5).2 x6 e6).1 c7), fun c8 => ih.2.2 _ _ _ g ((((hR.2 c2).2 c5).2 x6 e6).2 c8)⟩⟩⟩⟩
    · intro t li lj g hR
      have hR : wbX12_takes_2 (wpX12_takes k) k t li lj Q := hR
      show wbX12_takes_2 (wpX12_takes k) k t li lj (fun t => Q t ∧ G t)
      unfold wbX12_takes_2 at hR ⊢
      exact ⟨hR.1, fun x1 e1 => have g1 : G x1 := (by rw [e1]; exact hk.2.2.1 _ _ _ (by decide) (by decide) g); fun x2 e2 => ih.2.1 _ _ _ g1 ((hR.2 x1 e1) x2 e2)⟩
theorem ygX12_takes {G : XT → Prop} {k : Nat} {t : XT} {a1 : Int32} {Q : XT → Prop} (hk : kpM G) (g : G t) (hR : wqX12_takes k t a1 Q) : wqX12_takes k t a1 (fun t => Q t ∧ G t) := (yfX12_takes hk Q k).1 t _ _ g hR
theorem ytX12_takes {G : XT → Prop} {k : Nat} {t : XT} {a1 : Int32} {Q Q' : XT → Prop} (hk : kpM G) (g : G t) (hR : wqX12_takes k t a1 Q) (hQ : (∀ t, Q t → G t → Q' t)) : wqX12_takes k t a1 Q' := wmX12_takes (Nat.le_refl k) (fun t h => hQ t h.1 h.2) (ygX12_takes hk g hR)
set_option maxHeartbeats 4000000 in
set_option maxRecDepth 100000 in
theorem yfX12_takenOf {G : XT → Prop} (hk : kpM G) (Q : Int32 → XT → Prop) : ∀ k : Nat, (∀ (t : XT) (li : Nat → Int32) (lj : Nat → Int64), G t → wpX12_takenOf k 0 t li lj Q → wpX12_takenOf k 0 t li lj (fun r t => Q r t ∧ G t)) ∧ (∀ (t : XT) (li : Nat → Int32) (lj : Nat → Int64), G t → wpX12_takenOf k 1 t li lj Q → wpX12_takenOf k 1 t li lj (fun r t => Q r t ∧ G t)) ∧ (∀ (t : XT) (li : Nat → Int32) (lj : Nat → Int64), G t → wpX12_takenOf k 2 t li lj Q → wpX12_takenOf k 2 t li lj (fun r t => Q r t ∧ G t)) ∧ (∀ (t : XT) (li : Nat → Int32) (lj : Nat → Int64), G t → wpX12_takenOf k 3 t li lj Q → wpX12_takenOf k 3 t li lj (fun r t => Q r t ∧ G t)) := by
  intro k
  induction k with
  | zero => exact ⟨fun _ _ _ _ hR => False.elim hR, fun _ _ _ _ hR => False.elim hR, fun _ _ _ _ hR => False.elim hR, fun _ _ _ _ hR => False.elim hR⟩
  | succ k ih =>
    refine ⟨?_, ?_, ?_, ?_⟩
    · intro t li lj g hR
      have hR : wbX12_takenOf_0 (wpX12_takenOf k) k t li lj Q := hR
      show wbX12_takenOf_0 (wpX12_takenOf k) k t li lj (fun r t => Q r t ∧ G t)
      unfold wbX12_takenOf_0 at hR ⊢
      exact ih.2.1 _ _ _ g hR
    · intro t li lj g hR
      have hR : wbX12_takenOf_1 (wpX12_takenOf k) k t li lj Q := hR
      show wbX12_takenOf_1 (wpX12_takenOf k) k t li lj (fun r t => Q r t ∧ G t)
      unfold wbX12_takenOf_1 at hR ⊢
      exact ⟨fun c1 => ⟨(hR.1 c1), g⟩, fun c2 => ⟨(hR.2 c2).1, fun x3 e3 => ⟨fun c4 => ih.2.2.1 _ _ _ g (((hR.2 c2).2 x3 e3).1 c4), fun c5 => ytX12_dimOf hk g (((hR.2 c2).2 x3 e3).2 c5) (fun y6_0 y6_1 h6 g6 => ⟨fun c7 => ih.2.2.1 _ _ _ g6 (h6.1 c7), fun c8 => ih.2.2.2 _ _ _ g6 (h6.2 c8)⟩)⟩⟩⟩
    · intro t li lj g hR
      have hR : wbX12_takenOf_2 (wpX12_takenOf k) k t li lj Q := hR
      show wbX12_takenOf_2 (wpX12_takenOf k) k t li lj (fun r t => Q r t ∧ G t)
      unfold wbX12_takenOf_2 at hR ⊢
      exact ih.2.2.2 _ _ _ g hR
    · intro t li lj g hR
      have hR : wbX12_takenOf_3 (wpX12_takenOf k) k t li lj Q := hR
      show wbX12_takenOf_3 (wpX12_takenOf k) k t li lj (fun r t => Q r t ∧ G t)
      unfold wbX12_takenOf_3 at hR ⊢
      exact wcX12_truth hR (fun y1_0 h1 => fun x2 e2 => fun x3 e3 => ih.2.1 _ _ _ g ((h1 x2 e2) x3 e3))
theorem ygX12_takenOf {G : XT → Prop} {k : Nat} {t : XT} {a1 : Int32} {Q : Int32 → XT → Prop} (hk : kpM G) (g : G t) (hR : wqX12_takenOf k t a1 Q) : wqX12_takenOf k t a1 (fun r t => Q r t ∧ G t) := (yfX12_takenOf hk Q k).1 t _ _ g hR
theorem ytX12_takenOf {G : XT → Prop} {k : Nat} {t : XT} {a1 : Int32} {Q Q' : Int32 → XT → Prop} (hk : kpM G) (g : G t) (hR : wqX12_takenOf k t a1 Q) (hQ : (∀ r t, Q r t → G t → Q' r t)) : wqX12_takenOf k t a1 Q' := wmX12_takenOf (Nat.le_refl k) (fun r t h => hQ r t h.1 h.2) (ygX12_takenOf hk g hR)
set_option maxHeartbeats 4000000 in
set_option maxRecDepth 100000 in
theorem yfX12_laysTable {G : XT → Prop} (hk : kpM G) (Q : XT → Prop) : ∀ k : Nat, (∀ (t : XT) (li : Nat → Int32) (lj : Nat → Int64), G t → wpX12_laysTable k 0 t li lj Q → wpX12_laysTable k 0 t li lj (fun t => Q t ∧ G t)) ∧ (∀ (t : XT) (li : Nat → Int32) (lj : Nat → Int64), G t → wpX12_laysTable k 1 t li lj Q → wpX12_laysTable k 1 t li lj (fun t => Q t ∧ G t)) ∧ (∀ (t : XT) (li : Nat → Int32) (lj : Nat → Int64), G t → wpX12_laysTable k 2 t li lj Q → wpX12_laysTable k 2 t li lj (fun t => Q t ∧ G t)) ∧ (∀ (t : XT) (li : Nat → Int32) (lj : Nat → Int64), G t → wpX12_laysTable k 3 t li lj Q → wpX12_laysTable k 3 t li lj (fun t => Q t ∧ G t)) ∧ (∀ (t : XT) (li : Nat → Int32) (lj : Nat → Int64), G t → wpX12_laysTable k 4 t li lj Q → wpX12_laysTable k 4 t li lj (fun t => Q t ∧ G t)) ∧ (∀ (t : XT) (li : Nat → Int32) (lj : Nat → Int64), G t → wpX12_laysTable k 5 t li lj Q → wpX12_laysTable k 5 t li lj (fun t => Q t ∧ G t)) := by
  intro k
  induction k with
  | zero => exact ⟨fun _ _ _ _ hR => False.elim hR, fun _ _ _ _ hR => False.elim hR, fun _ _ _ _ hR => False.elim hR, fun _ _ _ _ hR => False.elim hR, fun _ _ _ _ hR => False.elim hR, fun _ _ _ _ hR => False.elim hR⟩
  | succ k ih =>
    refine ⟨?_, ?_, ?_, ?_, ?_, ?_⟩
    · intro t li lj g hR
      have hR : wbX12_laysTable_0 (wpX12_laysTable k) k t li lj Q := hR
      show wbX12_laysTable_0 (wpX12_laysTable k) k t li lj (fun t => Q t ∧ G t)
      unfold wbX12_laysTable_0 at hR ⊢
      exact ytX12_takenOf hk g hR (fun y1_0 y1_1 h1 g1 => fun x2 e2 => have g2 : G x2 := (by rw [e2]; exact hk.1 _ _ _ (by decide) g1); fun x3 e3 => ytX12_takenOf hk g2 ((h1 x2 e2) x3 e3) (fun y4_0 y4_1 h4 g4 => fun x5 e5 => have g5 : G x5 := (by rw [e5]; exact hk.1 _ _ _ (by decide) g4); ih.2.1 _ _ _ g5 (h4 x5 e5)))
    · intro t li lj g hR
      have hR : wbX12_laysTable_1 (wpX12_laysTable k) k t li lj Q := hR
      show wbX12_laysTable_1 (wpX12_laysTable k) k t li lj (fun t => Q t ∧ G t)
      unfold wbX12_laysTable_1 at hR ⊢
      exact ⟨fun c1 => ⟨(hR.1 c1), g⟩, fun c2 => ⟨(hR.2 c2).1, fun x3 e3 => ⟨fun c4 => ih.2.2.2.2.2 _ _ _ g (((hR.2 c2).2 x3 e3).1 c4), fun c5 => ytX12_dimOf hk g (((hR.2 c2).2 x3 e3).2 c5) (fun y6_0 y6_1 h6 g6 => ⟨fun c7 => ih.2.2.1 _ _ _ g6 (h6.1 c7), fun c8 => ih.2.2.2.2.2 _ _ _ g6 (h6.2 c8)⟩)⟩⟩⟩
    · intro t li lj g hR
      have hR : wbX12_laysTable_2 (wpX12_laysTable k) k t li lj Q := hR
      show wbX12_laysTable_2 (wpX12_laysTable k) k t li lj (fun t => Q t ∧ G t)
      unfold wbX12_laysTable_2 at hR ⊢
      exact ⟨fun c1 => fun x2 e2 => ih.2.2.2.2.2 _ _ _ g ((hR.1 c1) x2 e2), fun c3 => ⟨(hR.2 c3).1, fun x4 e4 => ⟨fun c5 => ih.2.2.2.2.1 _ _ _ g (((hR.2 c3).2 x4 e4).1 c5), fun c6 => ytX12_dimOf hk g (((hR.2 c3).2 x4 e4).2 c6) (fun y7_0 y7_1 h7 g7 => fun x8 e8 => ⟨fun c9 => ih.2.2.2.2.1 _ _ _ g7 ((h7 x8 e8).1 c9), fun c10 => fun x11 e11 => fun x12 e12 => ⟨fun c13 => ytX12_isFace hk g7 (((((h7 x8 e8).2 c10) x11 e11) x12 e12).1 c13) (fun y14_0 y14_1 h14 g14 => ⟨fun c15 => ih.2.2.2.1 _ _ _ g14 (h14.1 c15), fun c16 => ytX12_signOf hk g14 (h14.2 c16) (fun y17_0 y17_1 h17 g17 => fun x18 e18 => ih.2.2.2.1 _ _ _ g17 (h17 x18 e18))⟩), fun c19 => ytX12_incidenceOf hk g7 (((((h7 x8 e8).2 c10) x11 e11) x12 e12).2 c19) (fun y20_0 y20_1 h20 g20 => ih.2.2.2.1 _ _ _ g20 h20)⟩⟩)⟩⟩⟩
    · intro t li lj g hR
      have hR : wbX12_laysTable_3 (wpX12_laysTable k) k t li lj Q := hR
      show wbX12_laysTable_3 (wpX12_laysTable k) k t li lj (fun t => Q t ∧ G t)
      unfold wbX12_laysTable_3 at hR ⊢
      exact ⟨hR.1, fun x1 e1 => have g1 : G x1 := (by rw [e1]; exact hk.2.2.2 _ _ _ g); fun x2 e2 => ih.2.2.2.2.1 _ _ _ g1 ((hR.2 x1 e1) x2 e2)⟩
    · intro t li lj g hR
      have hR : wbX12_laysTable_4 (wpX12_laysTable k) k t li lj Q := hR
      show wbX12_laysTable_4 (wpX12_laysTable k) k t li lj (fun t => Q t ∧ G t)
      unfold wbX12_laysTable_4 at hR ⊢
      exact fun x1 e1 => ih.2.2.1 _ _ _ g (hR x1 e1)
    · intro t li lj g hR
      have hR : wbX12_laysTable_5 (wpX12_laysTable k) k t li lj Q := hR
      show wbX12_laysTable_5 (wpX12_laysTable k) k t li lj (fun t => Q t ∧ G t)
      unfold wbX12_laysTable_5 at hR ⊢
      exact fun x1 e1 => ih.2.1 _ _ _ g (hR x1 e1)
theorem ygX12_laysTable {G : XT → Prop} {k : Nat} {t : XT} {a1 : Int32} {a2 : Int32} {Q : XT → Prop} (hk : kpM G) (g : G t) (hR : wqX12_laysTable k t a1 a2 Q) : wqX12_laysTable k t a1 a2 (fun t => Q t ∧ G t) := (yfX12_laysTable hk Q k).1 t _ _ g hR
theorem ytX12_laysTable {G : XT → Prop} {k : Nat} {t : XT} {a1 : Int32} {a2 : Int32} {Q Q' : XT → Prop} (hk : kpM G) (g : G t) (hR : wqX12_laysTable k t a1 a2 Q) (hQ : (∀ t, Q t → G t → Q' t)) : wqX12_laysTable k t a1 a2 Q' := wmX12_laysTable (Nat.le_refl k) (fun t h => hQ t h.1 h.2) (ygX12_laysTable hk g hR)
set_option maxHeartbeats 4000000 in
set_option maxRecDepth 100000 in
theorem yfX12_cell {G : XT → Prop} (hk : kpM G) (Q : Int64 → XT → Prop) : ∀ k : Nat, (∀ (t : XT) (li : Nat → Int32) (lj : Nat → Int64), G t → wpX12_cell k 0 t li lj Q → wpX12_cell k 0 t li lj (fun r t => Q r t ∧ G t)) := by
  intro k
  induction k with
  | zero => exact fun _ _ _ _ hR => False.elim hR
  | succ k ih =>
    intro t li lj g hR
    have hR : wbX12_cell_0 (wpX12_cell k) k t li lj Q := hR
    show wbX12_cell_0 (wpX12_cell k) k t li lj (fun r t => Q r t ∧ G t)
    unfold wbX12_cell_0 at hR ⊢
    exact fun x1 e1 => fun x2 e2 => ⟨((hR x1 e1) x2 e2).1, fun x3 e3 => ⟨(((hR x1 e1) x2 e2).2 x3 e3), g⟩⟩
theorem ygX12_cell {G : XT → Prop} {k : Nat} {t : XT} {a1 : Int32} {a2 : Int32} {Q : Int64 → XT → Prop} (hk : kpM G) (g : G t) (hR : wqX12_cell k t a1 a2 Q) : wqX12_cell k t a1 a2 (fun r t => Q r t ∧ G t) := (yfX12_cell hk Q k) t _ _ g hR
theorem ytX12_cell {G : XT → Prop} {k : Nat} {t : XT} {a1 : Int32} {a2 : Int32} {Q Q' : Int64 → XT → Prop} (hk : kpM G) (g : G t) (hR : wqX12_cell k t a1 a2 Q) (hQ : (∀ r t, Q r t → G t → Q' r t)) : wqX12_cell k t a1 a2 Q' := wmX12_cell (Nat.le_refl k) (fun r t h => hQ r t h.1 h.2) (ygX12_cell hk g hR)
set_option maxHeartbeats 4000000 in
set_option maxRecDepth 100000 in
theorem yfX12_swapsRows {G : XT → Prop} (hk : kpM G) (Q : XT → Prop) : ∀ k : Nat, (∀ (t : XT) (li : Nat → Int32) (lj : Nat → Int64), G t → wpX12_swapsRows k 0 t li lj Q → wpX12_swapsRows k 0 t li lj (fun t => Q t ∧ G t)) ∧ (∀ (t : XT) (li : Nat → Int32) (lj : Nat → Int64), G t → wpX12_swapsRows k 1 t li lj Q → wpX12_swapsRows k 1 t li lj (fun t => Q t ∧ G t)) := by
  intro k
  induction k with
  | zero => exact ⟨fun _ _ _ _ hR => False.elim hR, fun _ _ _ _ hR => False.elim hR⟩
  | succ k ih =>
    refine ⟨?_, ?_⟩
    · intro t li lj g hR
      have hR : wbX12_swapsRows_0 (wpX12_swapsRows k) k t li lj Q := hR
      show wbX12_swapsRows_0 (wpX12_swapsRows k) k t li lj (fun t => Q t ∧ G t)
      unfold wbX12_swapsRows_0 at hR ⊢
      exact ih.2 _ _ _ g hR
    · intro t li lj g hR
      have hR : wbX12_swapsRows_1 (wpX12_swapsRows k) k t li lj Q := hR
      show wbX12_swapsRows_1 (wpX12_swapsRows k) k t li lj (fun t => Q t ∧ G t)
      unfold wbX12_swapsRows_1 at hR ⊢
      exact ⟨fun c1 => ⟨(hR.1 c1), g⟩, fun c2 => ytX12_cell hk g (hR.2 c2) (fun y3_0 y3_1 h3 g3 => fun x4 e4 => fun x5 e5 => ytX12_cell hk g3 ((h3 x4 e4) x5 e5) (fun y6_0 y6_1 h6 g6 => ⟨h6.1, fun x7 e7 => have g7 : G x7 := (by rw [e7]; exact hk.2.2.2 _ _ _ g6); fun x8 e8 => fun x9 e9 => ⟨(((h6.2 x7 e7) x8 e8) x9 e9).1, fun x10 e10 => have g10 : G x10 := (by rw [e10]; exact hk.2.2.2 _ _ _ g7); fun x11 e11 => ih.2 _ _ _ g10 (((((h6.2 x7 e7) x8 e8) x9 e9).2 x10 e10) x11 e11)⟩⟩))⟩
theorem ygX12_swapsRows {G : XT → Prop} {k : Nat} {t : XT} {a1 : Int32} {a2 : Int32} {Q : XT → Prop} (hk : kpM G) (g : G t) (hR : wqX12_swapsRows k t a1 a2 Q) : wqX12_swapsRows k t a1 a2 (fun t => Q t ∧ G t) := (yfX12_swapsRows hk Q k).1 t _ _ g hR
theorem ytX12_swapsRows {G : XT → Prop} {k : Nat} {t : XT} {a1 : Int32} {a2 : Int32} {Q Q' : XT → Prop} (hk : kpM G) (g : G t) (hR : wqX12_swapsRows k t a1 a2 Q) (hQ : (∀ t, Q t → G t → Q' t)) : wqX12_swapsRows k t a1 a2 Q' := wmX12_swapsRows (Nat.le_refl k) (fun t h => hQ t h.1 h.2) (ygX12_swapsRows hk g hR)
set_option maxHeartbeats 4000000 in
set_option maxRecDepth 100000 in
theorem yfX12_swapsColumns {G : XT → Prop} (hk : kpM G) (Q : XT → Prop) : ∀ k : Nat, (∀ (t : XT) (li : Nat → Int32) (lj : Nat → Int64), G t → wpX12_swapsColumns k 0 t li lj Q → wpX12_swapsColumns k 0 t li lj (fun t => Q t ∧ G t)) ∧ (∀ (t : XT) (li : Nat → Int32) (lj : Nat → Int64), G t → wpX12_swapsColumns k 1 t li lj Q → wpX12_swapsColumns k 1 t li lj (fun t => Q t ∧ G t)) := by
  intro k
  induction k with
  | zero => exact ⟨fun _ _ _ _ hR => False.elim hR, fun _ _ _ _ hR => False.elim hR⟩
  | succ k ih =>
    refine ⟨?_, ?_⟩
    · intro t li lj g hR
      have hR : wbX12_swapsColumns_0 (wpX12_swapsColumns k) k t li lj Q := hR
      show wbX12_swapsColumns_0 (wpX12_swapsColumns k) k t li lj (fun t => Q t ∧ G t)
      unfold wbX12_swapsColumns_0 at hR ⊢
      exact ih.2 _ _ _ g hR
    · intro t li lj g hR
      have hR : wbX12_swapsColumns_1 (wpX12_swapsColumns k) k t li lj Q := hR
      show wbX12_swapsColumns_1 (wpX12_swapsColumns k) k t li lj (fun t => Q t ∧ G t)
      unfold wbX12_swapsColumns_1 at hR ⊢
      exact ⟨fun c1 => ⟨(hR.1 c1), g⟩, fun c2 => ytX12_cell hk g (hR.2 c2) (fun y3_0 y3_1 h3 g3 => fun x4 e4 => fun x5 e5 => ytX12_cell hk g3 ((h3 x4 e4) x5 e5) (fun y6_0 y6_1 h6 g6 => ⟨h6.1, fun x7 e7 => have g7 : G x7 := (by rw [e7]; exact hk.2.2.2 _ _ _ g6); fun x8 e8 => fun x9 e9 => ⟨(((h6.2 x7 e7) x8 e8) x9 e9).1, fun x10 e10 => have g10 : G x10 := (by rw [e10]; exact hk.2.2.2 _ _ _ g7); fun x11 e11 => ih.2 _ _ _ g10 (((((h6.2 x7 e7) x8 e8) x9 e9).2 x10 e10) x11 e11)⟩⟩))⟩
theorem ygX12_swapsColumns {G : XT → Prop} {k : Nat} {t : XT} {a1 : Int32} {a2 : Int32} {Q : XT → Prop} (hk : kpM G) (g : G t) (hR : wqX12_swapsColumns k t a1 a2 Q) : wqX12_swapsColumns k t a1 a2 (fun t => Q t ∧ G t) := (yfX12_swapsColumns hk Q k).1 t _ _ g hR
theorem ytX12_swapsColumns {G : XT → Prop} {k : Nat} {t : XT} {a1 : Int32} {a2 : Int32} {Q Q' : XT → Prop} (hk : kpM G) (g : G t) (hR : wqX12_swapsColumns k t a1 a2 Q) (hQ : (∀ t, Q t → G t → Q' t)) : wqX12_swapsColumns k t a1 a2 Q' := wmX12_swapsColumns (Nat.le_refl k) (fun t h => hQ t h.1 h.2) (ygX12_swapsColumns hk g hR)
set_option maxHeartbeats 4000000 in
set_option maxRecDepth 100000 in
theorem yfX12_bringsLeast {G : XT → Prop} (hk : kpM G) (Q : Int32 → XT → Prop) : ∀ k : Nat, (∀ (t : XT) (li : Nat → Int32) (lj : Nat → Int64), G t → wpX12_bringsLeast k 0 t li lj Q → wpX12_bringsLeast k 0 t li lj (fun r t => Q r t ∧ G t)) ∧ (∀ (t : XT) (li : Nat → Int32) (lj : Nat → Int64), G t → wpX12_bringsLeast k 1 t li lj Q → wpX12_bringsLeast k 1 t li lj (fun r t => Q r t ∧ G t)) ∧ (∀ (t : XT) (li : Nat → Int32) (lj : Nat → Int64), G t → wpX12_bringsLeast k 2 t li lj Q → wpX12_bringsLeast k 2 t li lj (fun r t => Q r t ∧ G t)) ∧ (∀ (t : XT) (li : Nat → Int32) (lj : Nat → Int64), G t → wpX12_bringsLeast k 3 t li lj Q → wpX12_bringsLeast k 3 t li lj (fun r t => Q r t ∧ G t)) ∧ (∀ (t : XT) (li : Nat → Int32) (lj : Nat → Int64), G t → wpX12_bringsLeast k 4 t li lj Q → wpX12_bringsLeast k 4 t li lj (fun r t => Q r t ∧ G t)) ∧ (∀ (t : XT) (li : Nat → Int32) (lj : Nat → Int64), G t → wpX12_bringsLeast k 5 t li lj Q → wpX12_bringsLeast k 5 t li lj (fun r t => Q r t ∧ G t)) ∧ (∀ (t : XT) (li : Nat → Int32) (lj : Nat → Int64), G t → wpX12_bringsLeast k 6 t li lj Q → wpX12_bringsLeast k 6 t li lj (fun r t => Q r t ∧ G t)) ∧ (∀ (t : XT) (li : Nat → Int32) (lj : Nat → Int64), G t → wpX12_bringsLeast k 7 t li lj Q → wpX12_bringsLeast k 7 t li lj (fun r t => Q r t ∧ G t)) := by
  intro k
  induction k with
  | zero => exact ⟨fun _ _ _ _ hR => False.elim hR, fun _ _ _ _ hR => False.elim hR, fun _ _ _ _ hR => False.elim hR, fun _ _ _ _ hR => False.elim hR, fun _ _ _ _ hR => False.elim hR, fun _ _ _ _ hR => False.elim hR, fun _ _ _ _ hR => False.elim hR, fun _ _ _ _ hR => False.elim hR⟩
  | succ k ih =>
    refine ⟨?_, ?_, ?_, ?_, ?_, ?_, ?_, ?_⟩
    · intro t li lj g hR
      have hR : wbX12_bringsLeast_0 (wpX12_bringsLeast k) k t li lj Q := hR
      show wbX12_bringsLeast_0 (wpX12_bringsLeast k) k t li lj (fun r t => Q r t ∧ G t)
      unfold wbX12_bringsLeast_0 at hR ⊢
      exact ih.2.1 _ _ _ g hR
    · intro t li lj g hR
      have hR : wbX12_bringsLeast_1 (wpX12_bringsLeast k) k t li lj Q := hR
      show wbX12_bringsLeast_1 (wpX12_bringsLeast k) k t li lj (fun r t => Q r t ∧ G t)
      unfold wbX12_bringsLeast_1 at hR ⊢
      exact ⟨fun c1 => ⟨fun c2 => ytX12_swapsRows hk g ((hR.1 c1).1 c2) (fun y3_0 h3 g3 => ytX12_swapsColumns hk g3 h3 (fun y4_0 h4 g4 => ⟨h4, g4⟩)), fun c5 => ⟨((hR.1 c1).2 c5), g⟩⟩, fun c6 => ih.2.2.1 _ _ _ g (hR.2 c6)⟩
    · intro t li lj g hR
      have hR : wbX12_bringsLeast_2 (wpX12_bringsLeast k) k t li lj Q := hR
      show wbX12_bringsLeast_2 (wpX12_bringsLeast k) k t li lj (fun r t => Q r t ∧ G t)
      unfold wbX12_bringsLeast_2 at hR ⊢
      exact ⟨fun c1 => fun x2 e2 => ih.2.1 _ _ _ g ((hR.1 c1) x2 e2), fun c3 => ytX12_cell hk g (hR.2 c3) (fun y4_0 y4_1 h4 g4 => fun x5 e5 => ⟨fun c6 => ih.2.2.2.2.1 _ _ _ g4 ((h4 x5 e5).1 c6), fun c7 => ⟨fun c8 => ih.2.2.2.1 _ _ _ g4 (((h4 x5 e5).2 c7).1 c8), fun c9 => ytX12_cell hk g4 (((h4 x5 e5).2 c7).2 c9) (fun y10_0 y10_1 h10 g10 => fun x11 e11 => ytX12_cell hk g10 (h10 x11 e11) (fun y12_0 y12_1 h12 g12 => fun x13 e13 => fun x14 e14 => ⟨fun c15 => ih.2.2.2.2.1 _ _ _ g12 (((h12 x13 e13) x14 e14).1 c15), fun c16 => ih.2.2.2.1 _ _ _ g12 (((h12 x13 e13) x14 e14).2 c16)⟩))⟩⟩)⟩
    · intro t li lj g hR
      have hR : wbX12_bringsLeast_3 (wpX12_bringsLeast k) k t li lj Q := hR
      show wbX12_bringsLeast_3 (wpX12_bringsLeast k) k t li lj (fun r t => Q r t ∧ G t)
      unfold wbX12_bringsLeast_3 at hR ⊢
      exact ih.2.2.2.2.2.1 _ _ _ g hR
    · intro t li lj g hR
      have hR : wbX12_bringsLeast_4 (wpX12_bringsLeast k) k t li lj Q := hR
      show wbX12_bringsLeast_4 (wpX12_bringsLeast k) k t li lj (fun r t => Q r t ∧ G t)
      unfold wbX12_bringsLeast_4 at hR ⊢
      exact ih.2.2.2.2.2.1 _ _ _ g hR
    · intro t li lj g hR
      have hR : wbX12_bringsLeast_5 (wpX12_bringsLeast k) k t li lj Q := hR
      show wbX12_bringsLeast_5 (wpX12_bringsLeast k) k t li lj (fun r t => Q r t ∧ G t)
      unfold wbX12_bringsLeast_5 at hR ⊢
      exact ⟨fun c1 => ih.2.2.2.2.2.2.1 _ _ _ g (hR.1 c1), fun c2 => ih.2.2.2.2.2.2.1 _ _ _ g (hR.2 c2)⟩
    · intro t li lj g hR
      have hR : wbX12_bringsLeast_6 (wpX12_bringsLeast k) k t li lj Q := hR
      show wbX12_bringsLeast_6 (wpX12_bringsLeast k) k t li lj (fun r t => Q r t ∧ G t)
      unfold wbX12_bringsLeast_6 at hR ⊢
      exact ⟨fun c1 => ih.2.2.2.2.2.2.2 _ _ _ g (hR.1 c1), fun c2 => ih.2.2.2.2.2.2.2 _ _ _ g (hR.2 c2)⟩
    · intro t li lj g hR
      have hR : wbX12_bringsLeast_7 (wpX12_bringsLeast k) k t li lj Q := hR
      show wbX12_bringsLeast_7 (wpX12_bringsLeast k) k t li lj (fun r t => Q r t ∧ G t)
      unfold wbX12_bringsLeast_7 at hR ⊢
      exact fun x1 e1 => ih.2.2.1 _ _ _ g (hR x1 e1)
theorem ygX12_bringsLeast {G : XT → Prop} {k : Nat} {t : XT} {a1 : Int32} {Q : Int32 → XT → Prop} (hk : kpM G) (g : G t) (hR : wqX12_bringsLeast k t a1 Q) : wqX12_bringsLeast k t a1 (fun r t => Q r t ∧ G t) := (yfX12_bringsLeast hk Q k).1 t _ _ g hR
theorem ytX12_bringsLeast {G : XT → Prop} {k : Nat} {t : XT} {a1 : Int32} {Q Q' : Int32 → XT → Prop} (hk : kpM G) (g : G t) (hR : wqX12_bringsLeast k t a1 Q) (hQ : (∀ r t, Q r t → G t → Q' r t)) : wqX12_bringsLeast k t a1 Q' := wmX12_bringsLeast (Nat.le_refl k) (fun r t h => hQ r t h.1 h.2) (ygX12_bringsLeast hk g hR)
