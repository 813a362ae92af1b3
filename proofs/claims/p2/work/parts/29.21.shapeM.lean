set_option maxHeartbeats 4000000 in
set_option maxRecDepth 100000 in
theorem yfX12_isCritical {G : XT → Prop} (hk : kpM G) (Q : Int32 → XT → Prop) : ∀ k : Nat, (∀ (t : XT) (li : Nat → Int32) (lj : Nat → Int64), G t → wpX12_isCritical k 0 t li lj Q → wpX12_isCritical k 0 t li lj (fun r t => Q r t ∧ G t)) ∧ (∀ (t : XT) (li : Nat → Int32) (lj : Nat → Int64), G t → wpX12_isCritical k 1 t li lj Q → wpX12_isCritical k 1 t li lj (fun r t => Q r t ∧ G t)) := by
  intro k
  induction k with
  | zero => exact ⟨fun _ _ _ _ hR => False.elim hR, fun _ _ _ _ hR => False.elim hR⟩
  | succ k ih =>
    refine ⟨?_, ?_⟩
    · intro t li lj g hR
      have hR : wbX12_isCritical_0 (wpX12_isCritical k) k t li lj Q := hR
      show wbX12_isCritical_0 (wpX12_isCritical k) k t li lj (fun r t => Q r t ∧ G t)
      unfold wbX12_isCritical_0 at hR ⊢
      exact ytX12_isThere hk g hR (fun y1_0 y1_1 h1 g1 => ⟨fun c2 => ih.2 _ _ _ g1 (h1.1 c2), fun c3 => ⟨(h1.2 c3).1, fun x4 e4 => ⟨fun c5 => ih.2 _ _ _ g1 (((h1.2 c3).2 x4 e4).1 c5), fun c6 => ⟨(((h1.2 c3).2 x4 e4).2 c6), g1⟩⟩⟩⟩)
    · intro t li lj g hR
      have hR : wbX12_isCritical_1 (wpX12_isCritical k) k t li lj Q := hR
      show wbX12_isCritical_1 (wpX12_isCritical k) k t li lj (fun r t => Q r t ∧ G t)
      unfold wbX12_isCritical_1 at hR ⊢
      exact ⟨hR, g⟩
theorem ygX12_isCritical {G : XT → Prop} {k : Nat} {t : XT} {a1 : Int32} {Q : Int32 → XT → Prop} (hk : kpM G) (g : G t) (hR : wqX12_isCritical k t a1 Q) : wqX12_isCritical k t a1 (fun r t => Q r t ∧ G t) := (yfX12_isCritical hk Q k).1 t _ _ g hR
theorem ytX12_isCritical {G : XT → Prop} {k : Nat} {t : XT} {a1 : Int32} {Q Q' : Int32 → XT → Prop} (hk : kpM G) (g : G t) (hR : wqX12_isCritical k t a1 Q) (hQ : (∀ r t, Q r t → G t → Q' r t)) : wqX12_isCritical k t a1 Q' := wmX12_isCritical (Nat.le_refl k) (fun r t h => hQ r t h.1 h.2) (ygX12_isCritical hk g hR)
set_option maxHeartbeats 4000000 in
set_option maxRecDepth 100000 in
theorem yfX12_criticalMany {G : XT → Prop} (hk : kpM G) (Q : Int32 → XT → Prop) : ∀ k : Nat, (∀ (t : XT) (li : Nat → Int32) (lj : Nat → Int64), G t → wpX12_criticalMany k 0 t li lj Q → wpX12_criticalMany k 0 t li lj (fun r t => Q r t ∧ G t)) ∧ (∀ (t : XT) (li : Nat → Int32) (lj : Nat → Int64), G t → wpX12_criticalMany k 1 t li lj Q → wpX12_criticalMany k 1 t li lj (fun r t => Q r t ∧ G t)) := by
  intro k
  induction k with
  | zero => exact ⟨fun _ _ _ _ hR => False.elim hR, fun _ _ _ _ hR => False.elim hR⟩
  | succ k ih =>
    refine ⟨?_, ?_⟩
    · intro t li lj g hR
      have hR : wbX12_criticalMany_0 (wpX12_criticalMany k) k t li lj Q := hR
      show wbX12_criticalMany_0 (wpX12_criticalMany k) k t li lj (fun r t => Q r t ∧ G t)
      unfold wbX12_criticalMany_0 at hR ⊢
      exact ih.2 _ _ _ g hR
    · intro t li lj g hR
      have hR : wbX12_criticalMany_1 (wpX12_criticalMany k) k t li lj Q := hR
      show wbX12_criticalMany_1 (wpX12_criticalMany k) k t li lj (fun r t => Q r t ∧ G t)
      unfold wbX12_criticalMany_1 at hR ⊢
      exact ⟨fun c1 => ⟨(hR.1 c1), g⟩, fun c2 => ytX12_isCritical hk g (hR.2 c2) (fun y3_0 y3_1 h3 g3 => wcX12_truth h3 (fun y4_0 h4 => fun x5 e5 => fun x6 e6 => ih.2 _ _ _ g3 ((h4 x5 e5) x6 e6)))⟩
theorem ygX12_criticalMany {G : XT → Prop} {k : Nat} {t : XT}  {Q : Int32 → XT → Prop} (hk : kpM G) (g : G t) (hR : wqX12_criticalMany k t  Q) : wqX12_criticalMany k t  (fun r t => Q r t ∧ G t) := (yfX12_criticalMany hk Q k).1 t _ _ g hR
theorem ytX12_criticalMany {G : XT → Prop} {k : Nat} {t : XT}  {Q Q' : Int32 → XT → Prop} (hk : kpM G) (g : G t) (hR : wqX12_criticalMany k t  Q) (hQ : (∀ r t, Q r t → G t → Q' r t)) : wqX12_criticalMany k t  Q' := wmX12_criticalMany (Nat.le_refl k) (fun r t h => hQ r t h.1 h.2) (ygX12_criticalMany hk g hR)
set_option maxHeartbeats 4000000 in
set_option maxRecDepth 100000 in
theorem yfX12_pair {G : XT → Prop} (hk : kpM G) (Q : Int32 → XT → Prop) : ∀ k : Nat, (∀ (t : XT) (li : Nat → Int32) (lj : Nat → Int64), G t → wpX12_pair k 0 t li lj Q → wpX12_pair k 0 t li lj (fun r t => Q r t ∧ G t)) ∧ (∀ (t : XT) (li : Nat → Int32) (lj : Nat → Int64), G t → wpX12_pair k 1 t li lj Q → wpX12_pair k 1 t li lj (fun r t => Q r t ∧ G t)) := by
  intro k
  induction k with
  | zero => exact ⟨fun _ _ _ _ hR => False.elim hR, fun _ _ _ _ hR => False.elim hR⟩
  | succ k ih =>
    refine ⟨?_, ?_⟩
    · intro t li lj g hR
      have hR : wbX12_pair_0 (wpX12_pair k) k t li lj Q := hR
      show wbX12_pair_0 (wpX12_pair k) k t li lj (fun r t => Q r t ∧ G t)
      unfold wbX12_pair_0 at hR ⊢
      exact ytX12_isThere hk g hR (fun y1_0 y1_1 h1 g1 => ⟨fun c2 => ih.2 _ _ _ g1 (h1.1 c2), fun c3 => ytX12_isThere hk g1 (h1.2 c3) (fun y4_0 y4_1 h4 g4 => ⟨fun c5 => ih.2 _ _ _ g4 (h4.1 c5), fun c6 => ytX12_isFace hk g4 (h4.2 c6) (fun y7_0 y7_1 h7 g7 => ⟨fun c8 => ih.2 _ _ _ g7 (h7.1 c8), fun c9 => ytX12_isFree hk g7 (h7.2 c9) (fun y10_0 y10_1 h10 g10 => ⟨fun c11 => ytX12_couples hk g10 (h10.1 c11) (fun y12_0 y12_1 h12 g12 => ⟨fun c13 => ytX12_frees hk g12 (h12.1 c13) (fun y14_0 h14 g14 => ytX12_remembers hk g14 h14 (fun y15_0 h15 g15 => ⟨h15.1, fun x16 e16 => have g16 : G x16 := (by rw [e16]; exact hk.2.2.1 _ _ _ (by decide) (by decide) g15); ⟨(h15.2 x16 e16).1, fun x17 e17 => have g17 : G x17 := (by rw [e17]; exact hk.2.2.1 _ _ _ (by decide) (by decide) g16); ytX12_criticalMany hk g17 ((h15.2 x16 e16).2 x17 e17) (fun y18_0 y18_1 h18 g18 => ⟨h18, g18⟩)⟩⟩)), fun c19 => ⟨(h12.2 c19), g12⟩⟩), fun c20 => ih.2 _ _ _ g10 (h10.2 c20)⟩)⟩)⟩)⟩)
    · intro t li lj g hR
      have hR : wbX12_pair_1 (wpX12_pair k) k t li lj Q := hR
      show wbX12_pair_1 (wpX12_pair k) k t li lj (fun r t => Q r t ∧ G t)
      unfold wbX12_pair_1 at hR ⊢
      exact ⟨hR, g⟩
theorem ygX12_pair {G : XT → Prop} {k : Nat} {t : XT} {a1 : Int32} {a2 : Int32} {Q : Int32 → XT → Prop} (hk : kpM G) (g : G t) (hR : wqX12_pair k t a1 a2 Q) : wqX12_pair k t a1 a2 (fun r t => Q r t ∧ G t) := (yfX12_pair hk Q k).1 t _ _ g hR
theorem ytX12_pair {G : XT → Prop} {k : Nat} {t : XT} {a1 : Int32} {a2 : Int32} {Q Q' : Int32 → XT → Prop} (hk : kpM G) (g : G t) (hR : wqX12_pair k t a1 a2 Q) (hQ : (∀ r t, Q r t → G t → Q' r t)) : wqX12_pair k t a1 a2 Q' := wmX12_pair (Nat.le_refl k) (fun r t h => hQ r t h.1 h.2) (ygX12_pair hk g hR)
set_option maxHeartbeats 4000000 in
set_option maxRecDepth 100000 in
theorem yfX12_part {G : XT → Prop} (hk : kpM G) (Q : Int32 → XT → Prop) : ∀ k : Nat, (∀ (t : XT) (li : Nat → Int32) (lj : Nat → Int64), G t → wpX12_part k 0 t li lj Q → wpX12_part k 0 t li lj (fun r t => Q r t ∧ G t)) ∧ (∀ (t : XT) (li : Nat → Int32) (lj : Nat → Int64), G t → wpX12_part k 1 t li lj Q → wpX12_part k 1 t li lj (fun r t => Q r t ∧ G t)) := by
  intro k
  induction k with
  | zero => exact ⟨fun _ _ _ _ hR => False.elim hR, fun _ _ _ _ hR => False.elim hR⟩
  | succ k ih =>
    refine ⟨?_, ?_⟩
    · intro t li lj g hR
      have hR : wbX12_part_0 (wpX12_part k) k t li lj Q := hR
      show wbX12_part_0 (wpX12_part k) k t li lj (fun r t => Q r t ∧ G t)
      unfold wbX12_part_0 at hR ⊢
      exact ytX12_isSimplex hk g hR (fun y1_0 y1_1 h1 g1 => ⟨fun c2 => ih.2 _ _ _ g1 (h1.1 c2), fun c3 => ⟨(h1.2 c3).1, fun x4 e4 => ⟨fun c5 => ytX12_remembers hk g1 (((h1.2 c3).2 x4 e4).1 c5) (fun y6_0 h6 g6 => ytX12_frees hk g6 h6 (fun y7_0 h7 g7 => ytX12_criticalMany hk g7 h7 (fun y8_0 y8_1 h8 g8 => ⟨h8, g8⟩))), fun c9 => ih.2 _ _ _ g1 (((h1.2 c3).2 x4 e4).2 c9)⟩⟩⟩)
    · intro t li lj g hR
      have hR : wbX12_part_1 (wpX12_part k) k t li lj Q := hR
      show wbX12_part_1 (wpX12_part k) k t li lj (fun r t => Q r t ∧ G t)
      unfold wbX12_part_1 at hR ⊢
      exact ⟨hR, g⟩
theorem ygX12_part {G : XT → Prop} {k : Nat} {t : XT} {a1 : Int32} {Q : Int32 → XT → Prop} (hk : kpM G) (g : G t) (hR : wqX12_part k t a1 Q) : wqX12_part k t a1 (fun r t => Q r t ∧ G t) := (yfX12_part hk Q k).1 t _ _ g hR
theorem ytX12_part {G : XT → Prop} {k : Nat} {t : XT} {a1 : Int32} {Q Q' : Int32 → XT → Prop} (hk : kpM G) (g : G t) (hR : wqX12_part k t a1 Q) (hQ : (∀ r t, Q r t → G t → Q' r t)) : wqX12_part k t a1 Q' := wmX12_part (Nat.le_refl k) (fun r t h => hQ r t h.1 h.2) (ygX12_part hk g hR)
set_option maxHeartbeats 4000000 in
set_option maxRecDepth 100000 in
theorem yfX12_clearsPairs {G : XT → Prop} (hk : kpM G) (Q : XT → Prop) : ∀ k : Nat, (∀ (t : XT) (li : Nat → Int32) (lj : Nat → Int64), G t → wpX12_clearsPairs k 0 t li lj Q → wpX12_clearsPairs k 0 t li lj (fun t => Q t ∧ G t)) ∧ (∀ (t : XT) (li : Nat → Int32) (lj : Nat → Int64), G t → wpX12_clearsPairs k 1 t li lj Q → wpX12_clearsPairs k 1 t li lj (fun t => Q t ∧ G t)) := by
  intro k
  induction k with
  | zero => exact ⟨fun _ _ _ _ hR => False.elim hR, fun _ _ _ _ hR => False.elim hR⟩
  | succ k ih =>
    refine ⟨?_, ?_⟩
    · intro t li lj g hR
      have hR : wbX12_clearsPairs_0 (wpX12_clearsPairs k) k t li lj Q := hR
      show wbX12_clearsPairs_0 (wpX12_clearsPairs k) k t li lj (fun t => Q t ∧ G t)
      unfold wbX12_clearsPairs_0 at hR ⊢
      exact ih.2 _ _ _ g hR
    · intro t li lj g hR
      have hR : wbX12_clearsPairs_1 (wpX12_clearsPairs k) k t li lj Q := hR
      show wbX12_clearsPairs_1 (wpX12_clearsPairs k) k t li lj (fun t => Q t ∧ G t)
      unfold wbX12_clearsPairs_1 at hR ⊢
      exact ⟨fun c1 => ⟨(hR.1 c1), g⟩, fun c2 => ⟨(hR.2 c2).1, fun x3 e3 => have g3 : G x3 := (by rw [e3]; exact hk.2.2.1 _ _ _ (by decide) (by decide) g); fun x4 e4 => ih.2 _ _ _ g3 (((hR.2 c2).2 x3 e3) x4 e4)⟩⟩
theorem ygX12_clearsPairs {G : XT → Prop} {k : Nat} {t : XT}  {Q : XT → Prop} (hk : kpM G) (g : G t) (hR : wqX12_clearsPairs k t  Q) : wqX12_clearsPairs k t  (fun t => Q t ∧ G t) := (yfX12_clearsPairs hk Q k).1 t _ _ g hR
theorem ytX12_clearsPairs {G : XT → Prop} {k : Nat} {t : XT}  {Q Q' : XT → Prop} (hk : kpM G) (g : G t) (hR : wqX12_clearsPairs k t  Q) (hQ : (∀ t, Q t → G t → Q' t)) : wqX12_clearsPairs k t  Q' := wmX12_clearsPairs (Nat.le_refl k) (fun t h => hQ t h.1 h.2) (ygX12_clearsPairs hk g hR)
set_option maxHeartbeats 4000000 in
set_option maxRecDepth 100000 in
theorem yfX12_opensAll {G : XT → Prop} (hk : kpM G) (Q : XT → Prop) : ∀ k : Nat, (∀ (t : XT) (li : Nat → Int32) (lj : Nat → Int64), G t → wpX12_opensAll k 0 t li lj Q → wpX12_opensAll k 0 t li lj (fun t => Q t ∧ G t)) ∧ (∀ (t : XT) (li : Nat → Int32) (lj : Nat → Int64), G t → wpX12_opensAll k 1 t li lj Q → wpX12_opensAll k 1 t li lj (fun t => Q t ∧ G t)) ∧ (∀ (t : XT) (li : Nat → Int32) (lj : Nat → Int64), G t → wpX12_opensAll k 2 t li lj Q → wpX12_opensAll k 2 t li lj (fun t => Q t ∧ G t)) := by
  intro k
  induction k with
  | zero => exact ⟨fun _ _ _ _ hR => False.elim hR, fun _ _ _ _ hR => False.elim hR, fun _ _ _ _ hR => False.elim hR⟩
  | succ k ih =>
    refine ⟨?_, ?_, ?_⟩
    · intro t li lj g hR
      have hR : wbX12_opensAll_0 (wpX12_opensAll k) k t li lj Q := hR
      show wbX12_opensAll_0 (wpX12_opensAll k) k t li lj (fun t => Q t ∧ G t)
      unfold wbX12_opensAll_0 at hR ⊢
      exact ytX12_clearsPairs hk g hR (fun y1_0 h1 g1 => ih.2.1 _ _ _ g1 h1)
    · intro t li lj g hR
      have hR : wbX12_opensAll_1 (wpX12_opensAll k) k t li lj Q := hR
      show wbX12_opensAll_1 (wpX12_opensAll k) k t li lj (fun t => Q t ∧ G t)
      unfold wbX12_opensAll_1 at hR ⊢
      exact ⟨fun c1 => ⟨(hR.1 c1), g⟩, fun c2 => ⟨(hR.2 c2).1, fun x3 e3 => ⟨fun c4 => ih.2.2 _ _ _ g (((hR.2 c2).2 x3 e3).1 c4), fun c5 => ih.2.2 _ _ _ g (((hR.2 c2).2 x3 e3).2 c5)⟩⟩⟩
    · intro t li lj g hR
      have hR : wbX12_opensAll_2 (wpX12_opensAll k) k t li lj Q := hR
      show wbX12_opensAll_2 (wpX12_opensAll k) k t li lj (fun t => Q t ∧ G t)
      unfold wbX12_opensAll_2 at hR ⊢
      exact ⟨hR.1, fun x1 e1 => have g1 : G x1 := (by rw [e1]; exact hk.2.2.1 _ _ _ (by decide) (by decide) g); fun x2 e2 => ih.2.1 _ _ _ g1 ((hR.2 x1 e1) x2 e2)⟩
theorem ygX12_opensAll {G : XT → Prop} {k : Nat} {t : XT}  {Q : XT → Prop} (hk : kpM G) (g : G t) (hR : wqX12_opensAll k t  Q) : wqX12_opensAll k t  (fun t => Q t ∧ G t) := (yfX12_opensAll hk Q k).1 t _ _ g hR
theorem ytX12_opensAll {G : XT → Prop} {k : Nat} {t : XT}  {Q Q' : XT → Prop} (hk : kpM G) (g : G t) (hR : wqX12_opensAll k t  Q) (hQ : (∀ t, Q t → G t → Q' t)) : wqX12_opensAll k t  Q' := wmX12_opensAll (Nat.le_refl k) (fun t h => hQ t h.1 h.2) (ygX12_opensAll hk g hR)
set_option maxHeartbeats 4000000 in
set_option maxRecDepth 100000 in
theorem yfX12_onlyOver {G : XT → Prop} (hk : kpM G) (Q : Int32 → XT → Prop) : ∀ k : Nat, (∀ (t : XT) (li : Nat → Int32) (lj : Nat → Int64), G t → wpX12_onlyOver k 0 t li lj Q → wpX12_onlyOver k 0 t li lj (fun r t => Q r t ∧ G t)) ∧ (∀ (t : XT) (li : Nat → Int32) (lj : Nat → Int64), G t → wpX12_onlyOver k 1 t li lj Q → wpX12_onlyOver k 1 t li lj (fun r t => Q r t ∧ G t)) ∧ (∀ (t : XT) (li : Nat → Int32) (lj : Nat → Int64), G t → wpX12_onlyOver k 2 t li lj Q → wpX12_onlyOver k 2 t li lj (fun r t => Q r t ∧ G t)) := by
  intro k
  induction k with
  | zero => exact ⟨fun _ _ _ _ hR => False.elim hR, fun _ _ _ _ hR => False.elim hR, fun _ _ _ _ hR => False.elim hR⟩
  | succ k ih =>
    refine ⟨?_, ?_, ?_⟩
    · intro t li lj g hR
      have hR : wbX12_onlyOver_0 (wpX12_onlyOver k) k t li lj Q := hR
      show wbX12_onlyOver_0 (wpX12_onlyOver k) k t li lj (fun r t => Q r t ∧ G t)
      unfold wbX12_onlyOver_0 at hR ⊢
      exact ih.2.1 _ _ _ g hR
    · intro t li lj g hR
      have hR : wbX12_onlyOver_1 (wpX12_onlyOver k) k t li lj Q := hR
      show wbX12_onlyOver_1 (wpX12_onlyOver k) k t li lj (fun r t => Q r t ∧ G t)
      unfold wbX12_onlyOver_1 at hR ⊢
      exact ⟨fun c1 => ⟨(hR.1 c1), g⟩, fun c2 => ⟨(hR.2 c2).1, fun x3 e3 => ⟨fun c4 => ih.2.2 _ _ _ g (((hR.2 c2).2 x3 e3).1 c4), fun c5 => ytX12_isFace hk g (((hR.2 c2).2 x3 e3).2 c5) (fun y6_0 y6_1 h6 g6 => ⟨fun c7 => ih.2.2 _ _ _ g6 (h6.1 c7), fun c8 => ⟨fun c9 => ih.2.2 _ _ _ g6 ((h6.2 c8).1 c9), fun c10 => ⟨((h6.2 c8).2 c10), g6⟩⟩⟩)⟩⟩⟩
    · intro t li lj g hR
      have hR : wbX12_onlyOver_2 (wpX12_onlyOver k) k t li lj Q := hR
      show wbX12_onlyOver_2 (wpX12_onlyOver k) k t li lj (fun r t => Q r t ∧ G t)
      unfold wbX12_onlyOver_2 at hR ⊢
      exact fun x1 e1 => ih.2.1 _ _ _ g (hR x1 e1)
theorem ygX12_onlyOver {G : XT → Prop} {k : Nat} {t : XT} {a1 : Int32} {Q : Int32 → XT → Prop} (hk : kpM G) (g : G t) (hR : wqX12_onlyOver k t a1 Q) : wqX12_onlyOver k t a1 (fun r t => Q r t ∧ G t) := (yfX12_onlyOver hk Q k).1 t _ _ g hR
theorem ytX12_onlyOver {G : XT → Prop} {k : Nat} {t : XT} {a1 : Int32} {Q Q' : Int32 → XT → Prop} (hk : kpM G) (g : G t) (hR : wqX12_onlyOver k t a1 Q) (hQ : (∀ r t, Q r t → G t → Q' r t)) : wqX12_onlyOver k t a1 Q' := wmX12_onlyOver (Nat.le_refl k) (fun r t h => hQ r t h.1 h.2) (ygX12_onlyOver hk g hR)
set_option maxHeartbeats 4000000 in
set_option maxRecDepth 100000 in
theorem yfX12_closes {G : XT → Prop} (hk : kpM G) (Q : XT → Prop) : ∀ k : Nat, (∀ (t : XT) (li : Nat → Int32) (lj : Nat → Int64), G t → wpX12_closes k 0 t li lj Q → wpX12_closes k 0 t li lj (fun t => Q t ∧ G t)) := by
  intro k
  induction k with
  | zero => exact fun _ _ _ _ hR => False.elim hR
  | succ k ih =>
    intro t li lj g hR
    have hR : wbX12_closes_0 (wpX12_closes k) k t li lj Q := hR
    show wbX12_closes_0 (wpX12_closes k) k t li lj (fun t => Q t ∧ G t)
    unfold wbX12_closes_0 at hR ⊢
    exact ⟨hR.1, fun x1 e1 => have g1 : G x1 := (by rw [e1]; exact hk.2.2.1 _ _ _ (by decide) (by decide) g); ⟨(hR.2 x1 e1).1, fun x2 e2 => have g2 : G x2 := (by rw [e2]; exact hk.2.2.1 _ _ _ (by decide) (by decide) g1); ⟨((hR.2 x1 e1).2 x2 e2).1, fun x3 e3 => have g3 : G x3 := (by rw [e3]; exact hk.2.2.1 _ _ _ (by decide) (by decide) g2); ⟨(((hR.2 x1 e1).2 x2 e2).2 x3 e3).1, fun x4 e4 => have g4 : G x4 := (by rw [e4]; exact hk.2.2.1 _ _ _ (by decide) (by decide) g3); ⟨((((hR.2 x1 e1).2 x2 e2).2 x3 e3).2 x4 e4), g4⟩⟩⟩⟩⟩
theorem ygX12_closes {G : XT → Prop} {k : Nat} {t : XT} {a1 : Int32} {a2 : Int32} {Q : XT → Prop} (hk : kpM G) (g : G t) (hR : wqX12_closes k t a1 a2 Q) : wqX12_closes k t a1 a2 (fun t => Q t ∧ G t) := (yfX12_closes hk Q k) t _ _ g hR
theorem ytX12_closes {G : XT → Prop} {k : Nat} {t : XT} {a1 : Int32} {a2 : Int32} {Q Q' : XT → Prop} (hk : kpM G) (g : G t) (hR : wqX12_closes k t a1 a2 Q) (hQ : (∀ t, Q t → G t → Q' t)) : wqX12_closes k t a1 a2 Q' := wmX12_closes (Nat.le_refl k) (fun t h => hQ t h.1 h.2) (ygX12_closes hk g hR)
set_option maxHeartbeats 4000000 in
set_option maxRecDepth 100000 in
theorem yfX12_auto2 {G : XT → Prop} (hk : kpM G) (Q : XT → Prop) : ∀ k : Nat, (∀ (t : XT) (li : Nat → Int32) (lj : Nat → Int64), G t → wpX12_auto2 k 0 t li lj Q → wpX12_auto2 k 0 t li lj (fun t => Q t ∧ G t)) ∧ (∀ (t : XT) (li : Nat → Int32) (lj : Nat → Int64), G t → wpX12_auto2 k 1 t li lj Q → wpX12_auto2 k 1 t li lj (fun t => Q t ∧ G t)) ∧ (∀ (t : XT) (li : Nat → Int32) (lj : Nat → Int64), G t → wpX12_auto2 k 2 t li lj Q → wpX12_auto2 k 2 t li lj (fun t => Q t ∧ G t)) ∧ (∀ (t : XT) (li : Nat → Int32) (lj : Nat → Int64), G t → wpX12_auto2 k 3 t li lj Q → wpX12_auto2 k 3 t li lj (fun t => Q t ∧ G t)) ∧ (∀ (t : XT) (li : Nat → Int32) (lj : Nat → Int64), G t → wpX12_auto2 k 4 t li lj Q → wpX12_auto2 k 4 t li lj (fun t => Q t ∧ G t)) ∧ (∀ (t : XT) (li : Nat → Int32) (lj : Nat → Int64), G t → wpX12_auto2 k 5 t li lj Q → wpX12_auto2 k 5 t li lj (fun t => Q t ∧ G t)) := by
  intro k
  induction k with
  | zero => exact ⟨fun _ _ _ _ hR => False.elim hR, fun _ _ _ _ hR => False.elim hR, fun _ _ _ _ hR => False.elim hR, fun _ _ _ _ hR => False.elim hR, fun _ _ _ _ hR => False.elim hR, fun _ _ _ _ hR => False.elim hR⟩
  | succ k ih =>
    refine ⟨?_, ?_, ?_, ?_, ?_, ?_⟩
    · intro t li lj g hR
      have hR : wbX12_auto2_0 (wpX12_auto2 k) k t li lj Q := hR
      show wbX12_auto2_0 (wpX12_auto2 k) k t li lj (fun t => Q t ∧ G t)
      unfold wbX12_auto2_0 at hR ⊢
      exact ytX12_opensAll hk g hR (fun y1_0 h1 g1 => ih.2.1 _ _ _ g1 h1)
    · intro t li lj g hR
      have hR : wbX12_auto2_1 (wpX12_auto2 k) k t li lj Q := hR
      show wbX12_auto2_1 (wpX12_auto2 k) k t li lj (fun t => Q t ∧ G t)
      unfold wbX12_auto2_1 at hR ⊢
      exact ⟨fun c1 => ⟨(hR.1 c1), g⟩, fun c2 => ih.2.2.1 _ _ _ g (hR.2 c2)⟩
    · intro t li lj g hR
      have hR : wbX12_auto2_2 (wpX12_auto2 k) k t li lj Q := hR
      show wbX12_auto2_2 (wpX12_auto2 k) k t li lj (fun t => Q t ∧ G t)
      unfold wbX12_auto2_2 at hR ⊢
      exact ⟨fun c1 => ih.2.2.2.2.1 _ _ _ g (hR.1 c1), fun c2 => ⟨fun c3 => ih.2.2.2.2.1 _ _ _ g ((hR.2 c2).1 c3), fun c4 => ⟨((hR.2 c2).2 c4).1, fun x5 e5 => ⟨fun c6 => ih.2.2.2.1 _ _ _ g ((((hR.2 c2).2 c4).2 x5 e5).1 c6), fun c7 => ytX12_onlyOver hk g ((((hR.2 c2).2 c4).2 x5 e5).2 c7) (fun y8_0 y8_1 h8 g8 => ⟨fun c9 => ih.2.2.2.1 _ _ _ g8 (h8.1 c9), fun c10 => ytX12_closes hk g8 (h8.2 c10) (fun y11_0 h11 g11 => ih.2.2.2.1 _ _ _ g11 h11)⟩)⟩⟩⟩⟩
    · intro t li lj g hR
      have hR : wbX12_auto2_3 (wpX12_auto2 k) k t li lj Q := hR
      show wbX12_auto2_3 (wpX12_auto2 k) k t li lj (fun t => Q t ∧ G t)
      unfold wbX12_auto2_3 at hR ⊢
      exact fun x1 e1 => ih.2.2.1 _ _ _ g (hR x1 e1)
    · intro t li lj g hR
      have hR : wbX12_auto2_4 (wpX12_auto2 k) k t li lj Q := hR
      show wbX12_auto2_4 (wpX12_auto2 k) k t li lj (fun t => Q t ∧ G t)
      unfold wbX12_auto2_4 at hR ⊢
      exact ⟨fun c1 => ih.2.2.2.2.2 _ _ _ g (hR.1 c1), fun c2 => ⟨fun c3 => ih.2.2.2.2.2 _ _ _ g ((hR.2 c2).1 c3), fun c4 => ⟨((hR.2 c2).2 c4).1, fun x5 e5 => have g5 : G x5 := (by rw [e5]; exact hk.2.2.1 _ _ _ (by decide) (by decide) g); ih.2.2.2.2.2 _ _ _ g5 (((hR.2 c2).2 c4).2 x5 e5)⟩⟩⟩
    · intro t li lj g hR
      have hR : wbX12_auto2_5 (wpX12_auto2 k) k t li lj Q := hR
      show wbX12_auto2_5 (wpX12_auto2 k) k t li lj (fun t => Q t ∧ G t)
      unfold wbX12_auto2_5 at hR ⊢
      exact ih.2.1 _ _ _ g hR
theorem ygX12_auto2 {G : XT → Prop} {k : Nat} {t : XT}  {Q : XT → Prop} (hk : kpM G) (g : G t) (hR : wqX12_auto2 k t  Q) : wqX12_auto2 k t  (fun t => Q t ∧ G t) := (yfX12_auto2 hk Q k).1 t _ _ g hR
theorem ytX12_auto2 {G : XT → Prop} {k : Nat} {t : XT}  {Q Q' : XT → Prop} (hk : kpM G) (g : G t) (hR : wqX12_auto2 k t  Q) (hQ : (∀ t, Q t → G t → Q' t)) : wqX12_auto2 k t  Q' := wmX12_auto2 (Nat.le_refl k) (fun t h => hQ t h.1 h.2) (ygX12_auto2 hk g hR)
set_option maxHeartbeats 4000000 in
set_option maxRecDepth 100000 in
theorem yfX12_auto1 {G : XT → Prop} (hk : kpM G) (Q : XT → Prop) : ∀ k : Nat, (∀ (t : XT) (li : Nat → Int32) (lj : Nat → Int64), G t → wpX12_auto1 k 0 t li lj Q → wpX12_auto1 k 0 t li lj (fun t => Q t ∧ G t)) ∧ (∀ (t : XT) (li : Nat → Int32) (lj : Nat → Int64), G t → wpX12_auto1 k 1 t li lj Q → wpX12_auto1 k 1 t li lj (fun t => Q t ∧ G t)) ∧ (∀ (t : XT) (li : Nat → Int32) (lj : Nat → Int64), G t → wpX12_auto1 k 2 t li lj Q → wpX12_auto1 k 2 t li lj (fun t => Q t ∧ G t)) ∧ (∀ (t : XT) (li : Nat → Int32) (lj : Nat → Int64), G t → wpX12_auto1 k 3 t li lj Q → wpX12_auto1 k 3 t li lj (fun t => Q t ∧ G t)) ∧ (∀ (t : XT) (li : Nat → Int32) (lj : Nat → Int64), G t → wpX12_auto1 k 4 t li lj Q → wpX12_auto1 k 4 t li lj (fun t => Q t ∧ G t)) := by
  intro k
  induction k with
  | zero => exact ⟨fun _ _ _ _ hR => False.elim hR, fun _ _ _ _ hR => False.elim hR, fun _ _ _ _ hR => False.elim hR, fun _ _ _ _ hR => False.elim hR, fun _ _ _ _ hR => False.elim hR⟩
  | succ k ih =>
    refine ⟨?_, ?_, ?_, ?_, ?_⟩
    · intro t li lj g hR
      have hR : wbX12_auto1_0 (wpX12_auto1 k) k t li lj Q := hR
      show wbX12_auto1_0 (wpX12_auto1 k) k t li lj (fun t => Q t ∧ G t)
      unfold wbX12_auto1_0 at hR ⊢
      exact fun x1 e1 => ih.2.1 _ _ _ g (hR x1 e1)
    · intro t li lj g hR
      have hR : wbX12_auto1_1 (wpX12_auto1 k) k t li lj Q := hR
      show wbX12_auto1_1 (wpX12_auto1 k) k t li lj (fun t => Q t ∧ G t)
      unfold wbX12_auto1_1 at hR ⊢
      exact ⟨fun c1 => ⟨(hR.1 c1), g⟩, fun c2 => fun x3 e3 => ih.2.2.1 _ _ _ g ((hR.2 c2) x3 e3)⟩
    · intro t li lj g hR
      have hR : wbX12_auto1_2 (wpX12_auto1 k) k t li lj Q := hR
      show wbX12_auto1_2 (wpX12_auto1 k) k t li lj (fun t => Q t ∧ G t)
      unfold wbX12_auto1_2 at hR ⊢
      exact ⟨fun c1 => ih.2.2.2.2 _ _ _ g (hR.1 c1), fun c2 => ytX12_isCritical hk g (hR.2 c2) (fun y3_0 y3_1 h3 g3 => ⟨fun c4 => ih.2.2.2.2 _ _ _ g3 (h3.1 c4), fun c5 => ytX12_isFaceThere hk g3 (h3.2 c5) (fun y6_0 y6_1 h6 g6 => ⟨fun c7 => ih.2.2.2.1 _ _ _ g6 (h6.1 c7), fun c8 => ytX12_isFree hk g6 (h6.2 c8) (fun y9_0 y9_1 h9 g9 => ⟨fun c10 => ih.2.2.2.1 _ _ _ g9 (h9.1 c10), fun c11 => ytX12_couples hk g9 (h9.2 c11) (fun y12_0 y12_1 h12 g12 => ih.2.2.2.1 _ _ _ g12 h12)⟩)⟩)⟩)⟩
    · intro t li lj g hR
      have hR : wbX12_auto1_3 (wpX12_auto1 k) k t li lj Q := hR
      show wbX12_auto1_3 (wpX12_auto1 k) k t li lj (fun t => Q t ∧ G t)
      unfold wbX12_auto1_3 at hR ⊢
      exact fun x1 e1 => ih.2.2.1 _ _ _ g (hR x1 e1)
    · intro t li lj g hR
      have hR : wbX12_auto1_4 (wpX12_auto1 k) k t li lj Q := hR
      show wbX12_auto1_4 (wpX12_auto1 k) k t li lj (fun t => Q t ∧ G t)
      unfold wbX12_auto1_4 at hR ⊢
      exact fun x1 e1 => ih.2.1 _ _ _ g (hR x1 e1)
theorem ygX12_auto1 {G : XT → Prop} {k : Nat} {t : XT}  {Q : XT → Prop} (hk : kpM G) (g : G t) (hR : wqX12_auto1 k t  Q) : wqX12_auto1 k t  (fun t => Q t ∧ G t) := (yfX12_auto1 hk Q k).1 t _ _ g hR
theorem ytX12_auto1 {G : XT → Prop} {k : Nat} {t : XT}  {Q Q' : XT → Prop} (hk : kpM G) (g : G t) (hR : wqX12_auto1 k t  Q) (hQ : (∀ t, Q t → G t → Q' t)) : wqX12_auto1 k t  Q' := wmX12_auto1 (Nat.le_refl k) (fun t h => hQ t h.1 h.2) (ygX12_auto1 hk g hR)
set_option maxHeartbeats 4000000 in
set_option maxRecDepth 100000 in
theorem yfX12_auto0 {G : XT → Prop} (hk : kpM G) (Q : XT → Prop) : ∀ k : Nat, (∀ (t : XT) (li : Nat → Int32) (lj : Nat → Int64), G t → wpX12_auto0 k 0 t li lj Q → wpX12_auto0 k 0 t li lj (fun t => Q t ∧ G t)) ∧ (∀ (t : XT) (li : Nat → Int32) (lj : Nat → Int64), G t → wpX12_auto0 k 1 t li lj Q → wpX12_auto0 k 1 t li lj (fun t => Q t ∧ G t)) ∧ (∀ (t : XT) (li : Nat → Int32) (lj : Nat → Int64), G t → wpX12_auto0 k 2 t li lj Q → wpX12_auto0 k 2 t li lj (fun t => Q t ∧ G t)) ∧ (∀ (t : XT) (li : Nat → Int32) (lj : Nat → Int64), G t → wpX12_auto0 k 3 t li lj Q → wpX12_auto0 k 3 t li lj (fun t => Q t ∧ G t)) ∧ (∀ (t : XT) (li : Nat → Int32) (lj : Nat → Int64), G t → wpX12_auto0 k 4 t li lj Q → wpX12_auto0 k 4 t li lj (fun t => Q t ∧ G t)) := by
  intro k
  induction k with
  | zero => exact ⟨fun _ _ _ _ hR => False.elim hR, fun _ _ _ _ hR => False.elim hR, fun _ _ _ _ hR => False.elim hR, fun _ _ _ _ hR => False.elim hR, fun _ _ _ _ hR => False.elim hR⟩
  | succ k ih =>
    refine ⟨?_, ?_, ?_, ?_, ?_⟩
    · intro t li lj g hR
      have hR : wbX12_auto0_0 (wpX12_auto0 k) k t li lj Q := hR
      show wbX12_auto0_0 (wpX12_auto0 k) k t li lj (fun t => Q t ∧ G t)
      unfold wbX12_auto0_0 at hR ⊢
      exact ih.2.1 _ _ _ g hR
    · intro t li lj g hR
      have hR : wbX12_auto0_1 (wpX12_auto0 k) k t li lj Q := hR
      show wbX12_auto0_1 (wpX12_auto0 k) k t li lj (fun t => Q t ∧ G t)
      unfold wbX12_auto0_1 at hR ⊢
      exact ⟨fun c1 => ⟨(hR.1 c1), g⟩, fun c2 => fun x3 e3 => ih.2.2.1 _ _ _ g ((hR.2 c2) x3 e3)⟩
    · intro t li lj g hR
      have hR : wbX12_auto0_2 (wpX12_auto0 k) k t li lj Q := hR
      show wbX12_auto0_2 (wpX12_auto0 k) k t li lj (fun t => Q t ∧ G t)
      unfold wbX12_auto0_2 at hR ⊢
      exact ⟨fun c1 => ih.2.2.2.2 _ _ _ g (hR.1 c1), fun c2 => ytX12_isCritical hk g (hR.2 c2) (fun y3_0 y3_1 h3 g3 => ⟨fun c4 => ih.2.2.2.2 _ _ _ g3 (h3.1 c4), fun c5 => ytX12_isFaceThere hk g3 (h3.2 c5) (fun y6_0 y6_1 h6 g6 => ⟨fun c7 => ih.2.2.2.1 _ _ _ g6 (h6.1 c7), fun c8 => ytX12_isFree hk g6 (h6.2 c8) (fun y9_0 y9_1 h9 g9 => ⟨fun c10 => ih.2.2.2.1 _ _ _ g9 (h9.1 c10), fun c11 => ytX12_couples hk g9 (h9.2 c11) (fun y12_0 y12_1 h12 g12 => ih.2.2.2.1 _ _ _ g12 h12)⟩)⟩)⟩)⟩
    · intro t li lj g hR
      have hR : wbX12_auto0_3 (wpX12_auto0 k) k t li lj Q := hR
      show wbX12_auto0_3 (wpX12_auto0 k) k t li lj (fun t => Q t ∧ G t)
      unfold wbX12_auto0_3 at hR ⊢
      exact fun x1 e1 => ih.2.2.1 _ _ _ g (hR x1 e1)
    · intro t li lj g hR
      have hR : wbX12_auto0_4 (wpX12_auto0 k) k t li lj Q := hR
      show wbX12_auto0_4 (wpX12_auto0 k) k t li lj (fun t => Q t ∧ G t)
      unfold wbX12_auto0_4 at hR ⊢
      exact fun x1 e1 => ih.2.1 _ _ _ g (hR x1 e1)
theorem ygX12_auto0 {G : XT → Prop} {k : Nat} {t : XT}  {Q : XT → Prop} (hk : kpM G) (g : G t) (hR : wqX12_auto0 k t  Q) : wqX12_auto0 k t  (fun t => Q t ∧ G t) := (yfX12_auto0 hk Q k).1 t _ _ g hR
theorem ytX12_auto0 {G : XT → Prop} {k : Nat} {t : XT}  {Q Q' : XT → Prop} (hk : kpM G) (g : G t) (hR : wqX12_auto0 k t  Q) (hQ : (∀ t, Q t → G t → Q' t)) : wqX12_auto0 k t  Q' := wmX12_auto0 (Nat.le_refl k) (fun t h => hQ t h.1 h.2) (ygX12_auto0 hk g hR)
set_option maxHeartbeats 4000000 in
set_option maxRecDepth 100000 in
theorem yfX12_auto {G : XT → Prop} (hk : kpM G) (Q : Int32 → XT → Prop) : ∀ k : Nat, (∀ (t : XT) (li : Nat → Int32) (lj : Nat → Int64), G t → wpX12_auto k 0 t li lj Q → wpX12_auto k 0 t li lj (fun r t => Q r t ∧ G t)) ∧ (∀ (t : XT) (li : Nat → Int32) (lj : Nat → Int64), G t → wpX12_auto k 1 t li lj Q → wpX12_auto k 1 t li lj (fun r t => Q r t ∧ G t)) ∧ (∀ (t : XT) (li : Nat → Int32) (lj : Nat → Int64), G t → wpX12_auto k 2 t li lj Q → wpX12_auto k 2 t li lj (fun r t => Q r t ∧ G t)) := by
  intro k
  induction k with
  | zero => exact ⟨fun _ _ _ _ hR => False.elim hR, fun _ _ _ _ hR => False.elim hR, fun _ _ _ _ hR => False.elim hR⟩
  | succ k ih =>
    refine ⟨?_, ?_, ?_⟩
    · intro t li lj g hR
      have hR : wbX12_auto_0 (wpX12_auto k) k t li lj Q := hR
      show wbX12_auto_0 (wpX12_auto k) k t li lj (fun r t => Q r t ∧ G t)
      unfold wbX12_auto_0 at hR ⊢
      exact ⟨fun c1 => ih.2.1 _ _ _ g (hR.1 c1), fun c2 => wcX12_in (hR.2 c2) (fun y3_0 h3 => ⟨fun c4 => ytX12_remembers hk g (h3.1 c4) (fun y5_0 h5 g5 => ytX12_clearsPairs hk g5 h5 (fun y6_0 h6 g6 => ⟨fun c7 => ⟨fun c8 => ytX12_auto2 hk g6 ((h6.1 c7).1 c8) (fun y9_0 h9 g9 => ih.2.2 _ _ _ g9 h9), fun c10 => ytX12_auto1 hk g6 ((h6.1 c7).2 c10) (fun y11_0 h11 g11 => ih.2.2 _ _ _ g11 h11)⟩, fun c12 => ytX12_auto0 hk g6 (h6.2 c12) (fun y13_0 h13 g13 => ih.2.2 _ _ _ g13 h13)⟩)), fun c14 => ih.2.1 _ _ _ g (h3.2 c14)⟩)⟩
    · intro t li lj g hR
      have hR : wbX12_auto_1 (wpX12_auto k) k t li lj Q := hR
      show wbX12_auto_1 (wpX12_auto k) k t li lj (fun r t => Q r t ∧ G t)
      unfold wbX12_auto_1 at hR ⊢
      exact ⟨hR, g⟩
    · intro t li lj g hR
      have hR : wbX12_auto_2 (wpX12_auto k) k t li lj Q := hR
      show wbX12_auto_2 (wpX12_auto k) k t li lj (fun r t => Q r t ∧ G t)
      unfold wbX12_auto_2 at hR ⊢
      exact ytX12_criticalMany hk g hR (fun y1_0 y1_1 h1 g1 => ⟨h1, g1⟩)
theorem ygX12_auto {G : XT → Prop} {k : Nat} {t : XT} {a1 : Int32} {Q : Int32 → XT → Prop} (hk : kpM G) (g : G t) (hR : wqX12_auto k t a1 Q) : wqX12_auto k t a1 (fun r t => Q r t ∧ G t) := (yfX12_auto hk Q k).1 t _ _ g hR
theorem ytX12_auto {G : XT → Prop} {k : Nat} {t : XT} {a1 : Int32} {Q Q' : Int32 → XT → Prop} (hk : kpM G) (g : G t) (hR : wqX12_auto k t a1 Q) (hQ : (∀ r t, Q r t → G t → Q' r t)) : wqX12_auto k t a1 Q' := wmX12_auto (Nat.le_refl k) (fun r t h => hQ r t h.1 h.2) (ygX12_auto hk g hR)
set_option maxHeartbeats 4000000 in
set_option maxRecDepth 100000 in
theorem yfX12_areEnds {G : XT → Prop} (hk : kpM G) (Q : Int32 → XT → Prop) : ∀ k : Nat, (∀ (t : XT) (li : Nat → Int32) (lj : Nat → Int64), G t → wpX12_areEnds k 0 t li lj Q → wpX12_areEnds k 0 t li lj (fun r t => Q r t ∧ G t)) ∧ (∀ (t : XT) (li : Nat → Int32) (lj : Nat → Int64), G t → wpX12_areEnds k 1 t li lj Q → wpX12_areEnds k 1 t li lj (fun r t => Q r t ∧ G t)) := by
  intro k
  induction k with
  | zero => exact ⟨fun _ _ _ _ hR => False.elim hR, fun _ _ _ _ hR => False.elim hR⟩
  | succ k ih =>
    refine ⟨?_, ?_⟩
    · intro t li lj g hR
      have hR : wbX12_areEnds_0 (wpX12_areEnds k) k t li lj Q := hR
      show wbX12_areEnds_0 (wpX12_areEnds k) k t li lj (fun r t => Q r t ∧ G t)
      unfold wbX12_areEnds_0 at hR ⊢
      exact ytX12_isCritical hk g hR (fun y1_0 y1_1 h1 g1 => ⟨fun c2 => ih.2 _ _ _ g1 (h1.1 c2), fun c3 => ytX12_isCritical hk g1 (h1.2 c3) (fun y4_0 y4_1 h4 g4 => ⟨fun c5 => ih.2 _ _ _ g4 (h4.1 c5), fun c6 => ytX12_dimOf hk g4 (h4.2 c6) (fun y7_0 y7_1 h7 g7 => ytX12_dimOf hk g7 h7 (fun y8_0 y8_1 h8 g8 => fun x9 e9 => ⟨fun c10 => ih.2 _ _ _ g8 ((h8 x9 e9).1 c10), fun c11 => ⟨((h8 x9 e9).2 c11), g8⟩⟩))⟩)⟩)
    · intro t li lj g hR
      have hR : wbX12_areEnds_1 (wpX12_areEnds k) k t li lj Q := hR
      show wbX12_areEnds_1 (wpX12_areEnds k) k t li lj (fun r t => Q r t ∧ G t)
      unfold wbX12_areEnds_1 at hR ⊢
      exact ⟨hR, g⟩
theorem ygX12_areEnds {G : XT → Prop} {k : Nat} {t : XT} {a1 : Int32} {a2 : Int32} {Q : Int32 → XT → Prop} (hk : kpM G) (g : G t) (hR : wqX12_areEnds k t a1 a2 Q) : wqX12_areEnds k t a1 a2 (fun r t => Q r t ∧ G t) := (yfX12_areEnds hk Q k).1 t _ _ g hR
theorem ytX12_areEnds {G : XT → Prop} {k : Nat} {t : XT} {a1 : Int32} {a2 : Int32} {Q Q' : Int32 → XT → Prop} (hk : kpM G) (g : G t) (hR : wqX12_areEnds k t a1 a2 Q) (hQ : (∀ r t, Q r t → G t → Q' r t)) : wqX12_areEnds k t a1 a2 Q' := wmX12_areEnds (Nat.le_refl k) (fun r t h => hQ r t h.1 h.2) (ygX12_areEnds hk g hR)
set_option maxHeartbeats 4000000 in
set_option maxRecDepth 100000 in
theorem yfX12_laysWay {G : XT → Prop} (hk : kpM G) (Q : Int32 → XT → Prop) : ∀ k : Nat, (∀ (t : XT) (li : Nat → Int32) (lj : Nat → Int64), G t → wpX12_laysWay k 0 t li lj Q → wpX12_laysWay k 0 t li lj (fun r t => Q r t ∧ G t)) ∧ (∀ (t : XT) (li : Nat → Int32) (lj : Nat → Int64), G t → wpX12_laysWay k 1 t li lj Q → wpX12_laysWay k 1 t li lj (fun r t => Q r t ∧ G t)) ∧ (∀ (t : XT) (li : Nat → Int32) (lj : Nat → Int64), G t → wpX12_laysWay k 2 t li lj Q → wpX12_laysWay k 2 t li lj (fun r t => Q r t ∧ G t)) := by
  intro k
  induction k with
  | zero => exact ⟨fun _ _ _ _ hR => False.elim hR, fun _ _ _ _ hR => False.elim hR, fun _ _ _ _ hR => False.elim hR⟩
  | succ k ih =>
    refine ⟨?_, ?_, ?_⟩
    · intro t li lj g hR
      have hR : wbX12_laysWay_0 (wpX12_laysWay k) k t li lj Q := hR
      show wbX12_laysWay_0 (wpX12_laysWay k) k t li lj (fun r t => Q r t ∧ G t)
      unfold wbX12_laysWay_0 at hR ⊢
      exact ⟨hR.1, fun x1 e1 => ih.2.1 _ _ _ g (hR.2 x1 e1)⟩
    · intro t li lj g hR
      have hR : wbX12_laysWay_1 (wpX12_laysWay k) k t li lj Q := hR
      show wbX12_laysWay_1 (wpX12_laysWay k) k t li lj (fun r t => Q r t ∧ G t)
      unfold wbX12_laysWay_1 at hR ⊢
      exact ⟨fun c1 => ⟨(hR.1 c1).1, fun x2 e2 => have g2 : G x2 := (by rw [e2]; exact hk.2.2.2 _ _ _ g); ytX12_signOf hk g2 ((hR.1 c1).2 x2 e2) (fun y3_0 y3_1 h3 g3 => fun x4 e4 => fun x5 e5 => fun x6 e6 => ⟨(((h3 x4 e4) x5 e5) x6 e6).1, fun x7 e7 => have g7 : G x7 := (by rw [e7]; exact hk.2.2.2 _ _ _ g3); ⟨((((h3 x4 e4) x5 e5) x6 e6).2 x7 e7), g7⟩⟩)⟩, fun c8 => ⟨fun c9 => ih.2.2 _ _ _ g ((hR.2 c8).1 c9), fun c10 => ytX12_isFaceThere hk g ((hR.2 c8).2 c10) (fun y11_0 y11_1 h11 g11 => ⟨fun c12 => ⟨(h11.1 c12).1, fun x13 e13 => fun x14 e14 => ⟨fun c15 => ⟨((((h11.1 c12).2 x13 e13) x14 e14).1 c15).1, fun x16 e16 => fun x17 e17 => ytX12_signOf hk g11 ((((((h11.1 c12).2 x13 e13) x14 e14).1 c15).2 x16 e16) x17 e17) (fun y18_0 y18_1 h18 g18 => fun x19 e19 => ⟨(h18 x19 e19).1, fun x20 e20 => fun x21 e21 => fun x22 e22 => ih.2.2 _ _ _ g18 ((((h18 x19 e19).2 x20 e20) x21 e21) x22 e22)⟩)⟩, fun c23 => ⟨((((h11.1 c12).2 x13 e13) x14 e14).2 c23), g11⟩⟩⟩, fun c24 => ih.2.2 _ _ _ g11 (h11.2 c24)⟩)⟩⟩
    · intro t li lj g hR
      have hR : wbX12_laysWay_2 (wpX12_laysWay k) k t li lj Q := hR
      show wbX12_laysWay_2 (wpX12_laysWay k) k t li lj (fun r t => Q r t ∧ G t)
      unfold wbX12_laysWay_2 at hR ⊢
      exact fun x1 e1 => ih.2.1 _ _ _ g (hR x1 e1)
theorem ygX12_laysWay {G : XT → Prop} {k : Nat} {t : XT} {a1 : Int32} {Q : Int32 → XT → Prop} (hk : kpM G) (g : G t) (hR : wqX12_laysWay k t a1 Q) : wqX12_laysWay k t a1 (fun r t => Q r t ∧ G t) := (yfX12_laysWay hk Q k).1 t _ _ g hR
theorem ytX12_laysWay {G : XT → Prop} {k : Nat} {t : XT} {a1 : Int32} {Q Q' : Int32 → XT → Prop} (hk : kpM G) (g : G t) (hR : wqX12_laysWay k t a1 Q) (hQ : (∀ r t, Q r t → G t → Q' r t)) : wqX12_laysWay k t a1 Q' := wmX12_laysWay (Nat.le_refl k) (fun r t h => hQ r t h.1 h.2) (ygX12_laysWay hk g hR)
set_option maxHeartbeats 4000000 in
set_option maxRecDepth 100000 in
theorem yfX12_laysWays {G : XT → Prop} (hk : kpM G) (Q : XT → Prop) : ∀ k : Nat, (∀ (t : XT) (li : Nat → Int32) (lj : Nat → Int64), G t → wpX12_laysWays k 0 t li lj Q → wpX12_laysWays k 0 t li lj (fun t => Q t ∧ G t)) ∧ (∀ (t : XT) (li : Nat → Int32) (lj : Nat → Int64), G t → wpX12_laysWays k 1 t li lj Q → wpX12_laysWays k 1 t li lj (fun t => Q t ∧ G t)) ∧ (∀ (t : XT) (li : Nat → Int32) (lj : Nat → Int64), G t → wpX12_laysWays k 2 t li lj Q → wpX12_laysWays k 2 t li lj (fun t => Q t ∧ G t)) ∧ (∀ (t : XT) (li : Nat → Int32) (lj : Nat → Int64), G t → wpX12_laysWays k 3 t li lj Q → wpX12_laysWays k 3 t li lj (fun t => Q t ∧ G t)) ∧ (∀ (t : XT) (li : Nat → Int32) (lj : Nat → Int64), G t → wpX12_laysWays k 4 t li lj Q → wpX12_laysWays k 4 t li lj (fun t => Q t ∧ G t)) ∧ (∀ (t : XT) (li : Nat → Int32) (lj : Nat → Int64), G t → wpX12_laysWays k 5 t li lj Q → wpX12_laysWays k 5 t li lj (fun t => Q t ∧ G t)) ∧ (∀ (t : XT) (li : Nat → Int32) (lj : Nat → Int64), G t → wpX12_laysWays k 6 t li lj Q → wpX12_laysWays k 6 t li lj (fun t => Q t ∧ G t)) ∧ (∀ (t : XT) (li : Nat → Int32) (lj : Nat → Int64), G t → wpX12_laysWays k 7 t li lj Q → wpX12_laysWays k 7 t li lj (fun t => Q t ∧ G t)) ∧ (∀ (t : XT) (li : Nat → Int32) (lj : Nat → Int64), G t → wpX12_laysWays k 8 t li lj Q → wpX12_laysWays k 8 t li lj (fun t => Q t ∧ G t)) ∧ (∀ (t : XT) (li : Nat → Int32) (lj : Nat → Int64), G t → wpX12_laysWays k 9 t li lj Q → wpX12_laysWays k 9 t li lj (fun t => Q t ∧ G t)) ∧ (∀ (t : XT) (li : Nat → Int32) (lj : Nat → Int64), G t → wpX12_laysWays k 10 t li lj Q → wpX12_laysWays k 10 t li lj (fun t => Q t ∧ G t)) ∧ (∀ (t : XT) (li : Nat → Int32) (lj : Nat → Int64), G t → wpX12_laysWays k 11 t li lj Q → wpX12_laysWays k 11 t li lj (fun t => Q t ∧ G t)) := by
  intro k
  induction k with
  | zero => exact ⟨fun _ _ _ _ hR => False.elim hR, fun _ _ _ _ hR => False.elim hR, fun _ _ _ _ hR => False.elim hR, fun _ _ _ _ hR => False.elim hR, fun _ _ _ _ hR => False.elim hR, fun _ _ _ _ hR => False.elim hR, fun _ _ _ _ hR => False.elim hR, fun _ _ _ _ hR => False.elim hR, fun _ _ _ _ hR => False.elim hR, fun _ _ _ _ hR => False.elim hR, fun _ _ _ _ hR => False.elim hR, fun _ _ _ _ hR => False.elim hR⟩
  | succ k ih =>
    refine ⟨?_, ?_, ?_, ?_, ?_, ?_, ?_, ?_, ?_, ?_, ?_, ?_⟩
    · intro t li lj g hR
      have hR : wbX12_laysWays_0 (wpX12_laysWays k) k t li lj Q := hR
      show wbX12_laysWays_0 (wpX12_laysWays k) k t li lj (fun t => Q t ∧ G t)
      unfold wbX12_laysWays_0 at hR ⊢
      exact ih.2.1 _ _ _ g hR
    · intro t li lj g hR
      have hR : wbX12_laysWays_1 (wpX12_laysWays k) k t li lj Q := hR
      show wbX12_laysWays_1 (wpX12_laysWays k) k t li lj (fun t => Q t ∧ G t)
      unfold wbX12_laysWays_1 at hR ⊢
      exact ⟨fun c1 => ih.2.2.2.2.2.2.2.1 _ _ _ g (hR.1 c1), fun c2 => ytX12_isThere hk g (hR.2 c2) (fun y3_0 y3_1 h3 g3 => ⟨fun c4 => ih.2.2.1 _ _ _ g3 (h3.1 c4), fun c5 => ⟨fun c6 => ih.2.2.1 _ _ _ g3 ((h3.2 c5).1 c6), fun c7 => ytX12_isLower hk g3 ((h3.2 c5).2 c7) (fun y8_0 y8_1 h8 g8 => ⟨fun c9 => ih.2.2.1 _ _ _ g8 (h8.1 c9), fun c10 => ytX12_dimOf hk g8 (h8.2 c10) (fun y11_0 y11_1 h11 g11 => ytX12_dimOf hk g11 h11 (fun y12_0 y12_1 h12 g12 => ⟨fun c13 => ih.2.2.1 _ _ _ g12 (h12.1 c13), fun c14 => ih.2.2.2.1 _ _ _ g12 (h12.2 c14)⟩))⟩)⟩⟩)⟩
    · intro t li lj g hR
      have hR : wbX12_laysWays_2 (wpX12_laysWays k) k t li lj Q := hR
      show wbX12_laysWays_2 (wpX12_laysWays k) k t li lj (fun t => Q t ∧ G t)
      unfold wbX12_laysWays_2 at hR ⊢
      exact ih.2.2.2.1 _ _ _ g hR
    · intro t li lj g hR
      have hR : wbX12_laysWays_3 (wpX12_laysWays k) k t li lj Q := hR
      show wbX12_laysWays_3 (wpX12_laysWays k) k t li lj (fun t => Q t ∧ G t)
      unfold wbX12_laysWays_3 at hR ⊢
      exact ⟨fun c1 => ⟨fun c2 => ih.2.2.2.2.1 _ _ _ g ((hR.1 c1).1 c2), fun c3 => ih.2.2.2.2.1 _ _ _ g ((hR.1 c1).2 c3)⟩, fun c4 => ih.2.2.2.2.2.1 _ _ _ g (hR.2 c4)⟩
    · intro t li lj g hR
      have hR : wbX12_laysWays_4 (wpX12_laysWays k) k t li lj Q := hR
      show wbX12_laysWays_4 (wpX12_laysWays k) k t li lj (fun t => Q t ∧ G t)
      unfold wbX12_laysWays_4 at hR ⊢
      exact wcX12_truth hR (fun y1_0 h1 => fun x2 e2 => ih.2.2.2.2.2.1 _ _ _ g (h1 x2 e2))
    · intro t li lj g hR
      have hR : wbX12_laysWays_5 (wpX12_laysWays k) k t li lj Q := hR
      show wbX12_laysWays_5 (wpX12_laysWays k) k t li lj (fun t => Q t ∧ G t)
      unfold wbX12_laysWays_5 at hR ⊢
      exact ⟨hR.1, fun x1 e1 => have g1 : G x1 := (by rw [e1]; exact hk.2.2.2 _ _ _ g); ⟨fun c2 => ih.2.2.2.2.2.2.1 _ _ _ g1 ((hR.2 x1 e1).1 c2), fun c3 => ih.2.2.2.2.2.2.1 _ _ _ g1 ((hR.2 x1 e1).2 c3)⟩⟩
    · intro t li lj g hR
      have hR : wbX12_laysWays_6 (wpX12_laysWays k) k t li lj Q := hR
      show wbX12_laysWays_6 (wpX12_laysWays k) k t li lj (fun t => Q t ∧ G t)
      unfold wbX12_laysWays_6 at hR ⊢
      exact wcX12_truth hR (fun y1_0 h1 => fun x2 e2 => ⟨(h1 x2 e2).1, fun x3 e3 => have g3 : G x3 := (by rw [e3]; exact hk.2.2.2 _ _ _ g); fun x4 e4 => ih.2.1 _ _ _ g3 (((h1 x2 e2).2 x3 e3) x4 e4)⟩)
    · intro t li lj g hR
      have hR : wbX12_laysWays_7 (wpX12_laysWays k) k t li lj Q := hR
      show wbX12_laysWays_7 (wpX12_laysWays k) k t li lj (fun t => Q t ∧ G t)
      unfold wbX12_laysWays_7 at hR ⊢
      exact ⟨fun c1 => ⟨(hR.1 c1), g⟩, fun c2 => ih.2.2.2.2.2.2.2.2.1 _ _ _ g (hR.2 c2)⟩
    · intro t li lj g hR
      have hR : wbX12_laysWays_8 (wpX12_laysWays k) k t li lj Q := hR
      show wbX12_laysWays_8 (wpX12_laysWays k) k t li lj (fun t => Q t ∧ G t)
      unfold wbX12_laysWays_8 at hR ⊢
      exact ⟨fun c1 => ih.2.2.2.2.2.2.2.1 _ _ _ g (hR.1 c1), fun c2 => ⟨(hR.2 c2).1, fun x3 e3 => fun x4 e4 => ⟨fun c5 => ih.2.2.2.2.2.2.2.2.2.2.2 _ _ _ g ((((hR.2 c2).2 x3 e3) x4 e4).1 c5), fun c6 => ytX12_laysWay hk g ((((hR.2 c2).2 x3 e3) x4 e4).2 c6) (fun y7_0 y7_1 h7 g7 => ⟨fun c8 => ih.2.2.2.2.2.2.2.2.2.1 _ _ _ g7 (h7.1 c8), fun c9 => ⟨fun c10 => ih.2.2.2.2.2.2.2.2.2.2.1 _ _ _ g7 ((h7.2 c9).1 c10), fun c11 => ih.2.2.2.2.2.2.2.2.2.1 _ _ _ g7 ((h7.2 c9).2 c11)⟩⟩)⟩⟩⟩
    · intro t li lj g hR
      have hR : wbX12_laysWays_9 (wpX12_laysWays k) k t li lj Q := hR
      show wbX12_laysWays_9 (wpX12_laysWays k) k t li lj (fun t => Q t ∧ G t)
      unfold wbX12_laysWays_9 at hR ⊢
      exact ih.2.2.2.2.2.2.2.2.2.2.1 _ _ _ g hR
    · intro t li lj g hR
      have hR : wbX12_laysWays_10 (wpX12_laysWays k) k t li lj Q := hR
      show wbX12_laysWays_10 (wpX12_laysWays k) k t li lj (fun t => Q t ∧ G t)
      unfold wbX12_laysWays_10 at hR ⊢
      exact ih.2.2.2.2.2.2.2.2.2.2.2 _ _ _ g hR
    · intro t li lj g hR
      have hR : wbX12_laysWays_11 (wpX12_laysWays k) k t li lj Q := hR
      show wbX12_laysWays_11 (wpX12_laysWays k) k t li lj (fun t => Q t ∧ G t)
      unfold wbX12_laysWays_11 at hR ⊢
      exact fun x1 e1 => ih.2.2.2.2.2.2.2.2.1 _ _ _ g (hR x1 e1)
theorem ygX12_laysWays {G : XT → Prop} {k : Nat} {t : XT} {a1 : Int32} {Q : XT → Prop} (hk : kpM G) (g : G t) (hR : wqX12_laysWays k t a1 Q) : wqX12_laysWays k t a1 (fun t => Q t ∧ G t) := (yfX12_laysWays hk Q k).1 t _ _ g hR
theorem ytX12_laysWays {G : XT → Prop} {k : Nat} {t : XT} {a1 : Int32} {Q Q' : XT → Prop} (hk : kpM G) (g : G t) (hR : wqX12_laysWays k t a1 Q) (hQ : (∀ t, Q t → G t → Q' t)) : wqX12_laysWays k t a1 Q' := wmX12_laysWays (Nat.le_refl k) (fun t h => hQ t h.1 h.2) (ygX12_laysWays hk g hR)
set_option maxHeartbeats 4000000 in
set_option maxRecDepth 100000 in
theorem yfX12_waysFrom {G : XT → Prop} (hk : kpM G) (Q : Int64 → XT → Prop) : ∀ k : Nat, (∀ (t : XT) (li : Nat → Int32) (lj : Nat → Int64), G t → wpX12_waysFrom k 0 t li lj Q → wpX12_waysFrom k 0 t li lj (fun r t => Q r t ∧ G t)) ∧ (∀ (t : XT) (li : Nat → Int32) (lj : Nat → Int64), G t → wpX12_waysFrom k 1 t li lj Q → wpX12_waysFrom k 1 t li lj (fun r t => Q r t ∧ G t)) ∧ (∀ (t : XT) (li : Nat → Int32) (lj : Nat → Int64), G t → wpX12_waysFrom k 2 t li lj Q → wpX12_waysFrom k 2 t li lj (fun r t => Q r t ∧ G t)) := by
  intro k
  induction k with
  | zero => exact ⟨fun _ _ _ _ hR => False.elim hR, fun _ _ _ _ hR => False.elim hR, fun _ _ _ _ hR => False.elim hR⟩
  | succ k ih =>
    refine ⟨?_, ?_, ?_⟩
    · intro t li lj g hR
      have hR : wbX12_waysFrom_0 (wpX12_waysFrom k) k t li lj Q := hR
      show wbX12_waysFrom_0 (wpX12_waysFrom k) k t li lj (fun r t => Q r t ∧ G t)
      unfold wbX12_waysFrom_0 at hR ⊢
      exact ytX12_laysWays hk g hR (fun y1_0 h1 g1 => ih.2.1 _ _ _ g1 h1)
    · intro t li lj g hR
      have hR : wbX12_waysFrom_1 (wpX12_waysFrom k) k t li lj Q := hR
      show wbX12_waysFrom_1 (wpX12_waysFrom k) k t li lj (fun r t => Q r t ∧ G t)
      unfold wbX12_waysFrom_1 at hR ⊢
      exact ⟨fun c1 => ⟨(hR.1 c1), g⟩, fun c2 => ytX12_isFaceThere hk g (hR.2 c2) (fun y3_0 y3_1 h3 g3 => ⟨fun c4 => ih.2.2 _ _ _ g3 (h3.1 c4), fun c5 => ⟨(h3.2 c5).1, fun x6 e6 => ih.2.2 _ _ _ g3 ((h3.2 c5).2 x6 e6)⟩⟩)⟩
    · intro t li lj g hR
      have hR : wbX12_waysFrom_2 (wpX12_waysFrom k) k t li lj Q := hR
      show wbX12_waysFrom_2 (wpX12_waysFrom k) k t li lj (fun r t => Q r t ∧ G t)
      unfold wbX12_waysFrom_2 at hR ⊢
      exact fun x1 e1 => fun x2 e2 => ih.2.1 _ _ _ g ((hR x1 e1) x2 e2)
theorem ygX12_waysFrom {G : XT → Prop} {k : Nat} {t : XT} {a1 : Int32} {a2 : Int32} {Q : Int64 → XT → Prop} (hk : kpM G) (g : G t) (hR : wqX12_waysFrom k t a1 a2 Q) : wqX12_waysFrom k t a1 a2 (fun r t => Q r t ∧ G t) := (yfX12_waysFrom hk Q k).1 t _ _ g hR
theorem ytX12_waysFrom {G : XT → Prop} {k : Nat} {t : XT} {a1 : Int32} {a2 : Int32} {Q Q' : Int64 → XT → Prop} (hk : kpM G) (g : G t) (hR : wqX12_waysFrom k t a1 a2 Q) (hQ : (∀ r t, Q r t → G t → Q' r t)) : wqX12_waysFrom k t a1 a2 Q' := wmX12_waysFrom (Nat.le_refl k) (fun r t h => hQ r t h.1 h.2) (ygX12_waysFrom hk g hR)
set_option maxHeartbeats 4000000 in
set_option maxRecDepth 100000 in
theorem yfX12_rows {G : XT → Prop} (hk : kpM G) (Q : XT → Prop) : ∀ k : Nat, (∀ (t : XT) (li : Nat → Int32) (lj : Nat → Int64), G t → wpX12_rows k 0 t li lj Q → wpX12_rows k 0 t li lj (fun t => Q t ∧ G t)) := by
  intro k
  induction k with
  | zero => exact fun _ _ _ _ hR => False.elim hR
  | succ k ih =>
    intro t li lj g hR
    have hR : wbX12_rows_0 (wpX12_rows k) k t li lj Q := hR
    show wbX12_rows_0 (wpX12_rows k) k t li lj (fun t => Q t ∧ G t)
    unfold wbX12_rows_0 at hR ⊢
    exact ⟨hR.1, fun x1 e1 => have g1 : G x1 := (by rw [e1]; exact hk.2.2.1 _ _ _ (by decide) (by decide) g); fun x2 e2 => fun x3 e3 => have g3 : G x3 := (by rw [e3]; exact hk.1 _ _ _ (by decide) g1); ⟨(((hR.2 x1 e1) x2 e2) x3 e3), g3⟩⟩
theorem ygX12_rows {G : XT → Prop} {k : Nat} {t : XT} {a1 : Int32} {Q : XT → Prop} (hk : kpM G) (g : G t) (hR : wqX12_rows k t a1 Q) : wqX12_rows k t a1 (fun t => Q t ∧ G t) := (yfX12_rows hk Q k) t _ _ g hR
theorem ytX12_rows {G : XT → Prop} {k : Nat} {t : XT} {a1 : Int32} {Q Q' : XT → Prop} (hk : kpM G) (g : G t) (hR : wqX12_rows k t a1 Q) (hQ : (∀ t, Q t → G t → Q' t)) : wqX12_rows k t a1 Q' := wmX12_rows (Nat.le_refl k) (fun t h => hQ t h.1 h.2) (ygX12_rows hk g hR)
set_option maxHeartbeats 4000000 in
set_option maxRecDepth 100000 in
theorem yfX12_laysPath {G : XT → Prop} (hk : kpM G) (Q : Int32 → XT → Prop) : ∀ k : Nat, (∀ (t : XT) (li : Nat → Int32) (lj : Nat → Int64), G t → wpX12_laysPath k 0 t li lj Q → wpX12_laysPath k 0 t li lj (fun r t => Q r t ∧ G t)) ∧ (∀ (t : XT) (li : Nat → Int32) (lj : Nat → Int64), G t → wpX12_laysPath k 1 t li lj Q → wpX12_laysPath k 1 t li lj (fun r t => Q r t ∧ G t)) ∧ (∀ (t : XT) (li : Nat → Int32) (lj : Nat → Int64), G t → wpX12_laysPath k 2 t li lj Q → wpX12_laysPath k 2 t li lj (fun r t => Q r t ∧ G t)) ∧ (∀ (t : XT) (li : Nat → Int32) (lj : Nat → Int64), G t → wpX12_laysPath k 3 t li lj Q → wpX12_laysPath k 3 t li lj (fun r t => Q r t ∧ G t)) ∧ (∀ (t : XT) (li : Nat → Int32) (lj : Nat → Int64), G t → wpX12_laysPath k 4 t li lj Q → wpX12_laysPath k 4 t li lj (fun r t => Q r t ∧ G t)) ∧ (∀ (t : XT) (li : Nat → Int32) (lj : Nat → Int64), G t → wpX12_laysPath k 5 t li lj Q → wpX12_laysPath k 5 t li lj (fun r t => Q r t ∧ G t)) ∧ (∀ (t : XT) (li : Nat → Int32) (lj : Nat → Int64), G t → wpX12_laysPath k 6 t li lj Q → wpX12_laysPath k 6 t li lj (fun r t => Q r t ∧ G t)) := by
  intro k
  induction k with
  | zero => exact ⟨fun _ _ _ _ hR => False.elim hR, fun _ _ _ _ hR => False.elim hR, fun _ _ _ _ hR => False.elim hR, fun _ _ _ _ hR => False.elim hR, fun _ _ _ _ hR => False.elim hR, fun _ _ _ _ hR => False.elim hR, fun _ _ _ _ hR => False.elim hR⟩
  | succ k ih =>
    refine ⟨?_, ?_, ?_, ?_, ?_, ?_, ?_⟩
    · intro t li lj g hR
      have hR : wbX12_laysPath_0 (wpX12_laysPath k) k t li lj Q := hR
      show wbX12_laysPath_0 (wpX12_laysPath k) k t li lj (fun r t => Q r t ∧ G t)
      unfold wbX12_laysPath_0 at hR ⊢
      exact ytX12_waysFrom hk g hR (fun y1_0 y1_1 h1 g1 => fun x2 e2 => ⟨fun c3 => fun x4 e4 => have g4 : G x4 := (by rw [e4]; exact hk.1 _ _ _ (by decide) g1); ytX12_rows hk g4 (((h1 x2 e2).1 c3) x4 e4) (fun y5_0 h5 g5 => ih.2.1 _ _ _ g5 h5), fun c6 => ⟨((h1 x2 e2).2 c6), g1⟩⟩)
    · intro t li lj g hR
      have hR : wbX12_laysPath_1 (wpX12_laysPath k) k t li lj Q := hR
      show wbX12_laysPath_1 (wpX12_laysPath k) k t li lj (fun r t => Q r t ∧ G t)
      unfold wbX12_laysPath_1 at hR ⊢
      exact ⟨fun c1 => ⟨(hR.1 c1), g⟩, fun c2 => ih.2.2.1 _ _ _ g (hR.2 c2)⟩
    · intro t li lj g hR
      have hR : wbX12_laysPath_2 (wpX12_laysPath k) k t li lj Q := hR
      show wbX12_laysPath_2 (wpX12_laysPath k) k t li lj (fun r t => Q r t ∧ G t)
      unfold wbX12_laysPath_2 at hR ⊢
      exact ⟨fun c1 => ih.2.2.2.1 _ _ _ g (hR.1 c1), fun c2 => ytX12_isFaceThere hk g (hR.2 c2) (fun y3_0 y3_1 h3 g3 => ⟨fun c4 => ih.2.2.2.1 _ _ _ g3 (h3.1 c4), fun c5 => ⟨(h3.2 c5).1, fun x6 e6 => fun x7 e7 => ⟨fun c8 => ytX12_rows hk g3 ((((h3.2 c5).2 x6 e6) x7 e7).1 c8) (fun y9_0 h9 g9 => ⟨fun c10 => ih.2.2.2.2.2.2 _ _ _ g9 (h9.1 c10), fun c11 => ⟨(h9.2 c11).1, fun x12 e12 => ytX12_rows hk g9 ((h9.2 c11).2 x12 e12) (fun y13_0 h13 g13 => ih.2.2.2.2.2.2 _ _ _ g13 h13)⟩⟩), fun c14 => ih.2.2.2.1 _ _ _ g3 ((((h3.2 c5).2 x6 e6) x7 e7).2 c14)⟩⟩⟩)⟩
    · intro t li lj g hR
      have hR : wbX12_laysPath_3 (wpX12_laysPath k) k t li lj Q := hR
      show wbX12_laysPath_3 (wpX12_laysPath k) k t li lj (fun r t => Q r t ∧ G t)
      unfold wbX12_laysPath_3 at hR ⊢
      exact ⟨fun c1 => ih.2.2.2.2.1 _ _ _ g (hR.1 c1), fun c2 => ytX12_isFaceThere hk g (hR.2 c2) (fun y3_0 y3_1 h3 g3 => ⟨fun c4 => ih.2.2.2.2.1 _ _ _ g3 (h3.1 c4), fun c5 => ⟨(h3.2 c5).1, fun x6 e6 => ih.2.2.2.2.2.1 _ _ _ g3 ((h3.2 c5).2 x6 e6)⟩⟩)⟩
    · intro t li lj g hR
      have hR : wbX12_laysPath_4 (wpX12_laysPath k) k t li lj Q := hR
      show wbX12_laysPath_4 (wpX12_laysPath k) k t li lj (fun r t => Q r t ∧ G t)
      unfold wbX12_laysPath_4 at hR ⊢
      exact ih.2.2.2.2.2.1 _ _ _ g hR
    · intro t li lj g hR
      have hR : wbX12_laysPath_5 (wpX12_laysPath k) k t li lj Q := hR
      show wbX12_laysPath_5 (wpX12_laysPath k) k t li lj (fun r t => Q r t ∧ G t)
      unfold wbX12_laysPath_5 at hR ⊢
      exact fun x1 e1 => fun x2 e2 => ih.2.2.1 _ _ _ g ((hR x1 e1) x2 e2)
    · intro t li lj g hR
      have hR : wbX12_laysPath_6 (wpX12_laysPath k) k t li lj Q := hR
      show wbX12_laysPath_6 (wpX12_laysPath k) k t li lj (fun r t => Q r t ∧ G t)
      unfold wbX12_laysPath_6 at hR ⊢
      exact ih.2.1 _ _ _ g hR
theorem ygX12_laysPath {G : XT → Prop} {k : Nat} {t : XT} {a1 : Int32} {a2 : Int32} {a3 : Int64} {Q : Int32 → XT → Prop} (hk : kpM G) (g : G t) (hR : wqX12_laysPath k t a1 a2 a3 Q) : wqX12_laysPath k t a1 a2 a3 (fun r t => Q r t ∧ G t) := (yfX12_laysPath hk Q k).1 t _ _ g hR
theorem ytX12_laysPath {G : XT → Prop} {k : Nat} {t : XT} {a1 : Int32} {a2 : Int32} {a3 : Int64} {Q Q' : Int32 → XT → Prop} (hk : kpM G) (g : G t) (hR : wqX12_laysPath k t a1 a2 a3 Q) (hQ : (∀ r t, Q r t → G t → Q' r t)) : wqX12_laysPath k t a1 a2 a3 Q' := wmX12_laysPath (Nat.le_refl k) (fun r t h => hQ r t h.1 h.2) (ygX12_laysPath hk g hR)
set_option maxHeartbeats 4000000 in
set_option maxRecDepth 100000 in
theorem yfX12_cancel {G : XT → Prop} (hk : kpM G) (Q : Int32 → XT → Prop) : ∀ k : Nat, (∀ (t : XT) (li : Nat → Int32) (lj : Nat → Int64), G t → wpX12_cancel k 0 t li lj Q → wpX12_cancel k 0 t li lj (fun r t => Q r t ∧ G t)) ∧ (∀ (t : XT) (li : Nat → Int32) (lj : Nat → Int64), G t → wpX12_cancel k 1 t li lj Q → wpX12_cancel k 1 t li lj (fun r t => Q r t ∧ G t)) ∧ (∀ (t : XT) (li : Nat → Int32) (lj : Nat → Int64), G t → wpX12_cancel k 2 t li lj Q → wpX12_cancel k 2 t li lj (fun r t => Q r t ∧ G t)) := by
  intro k
  induction k with
  | zero => exact ⟨fun _ _ _ _ hR => False.elim hR, fun _ _ _ _ hR => False.elim hR, fun _ _ _ _ hR => False.elim hR⟩
  | succ k ih =>
    refine ⟨?_, ?_, ?_⟩
    · intro t li lj g hR
      have hR : wbX12_cancel_0 (wpX12_cancel k) k t li lj Q := hR
      show wbX12_cancel_0 (wpX12_cancel k) k t li lj (fun r t => Q r t ∧ G t)
      unfold wbX12_cancel_0 at hR ⊢
      exact ytX12_areEnds hk g hR (fun y1_0 y1_1 h1 g1 => ⟨fun c2 => ytX12_waysFrom hk g1 (h1.1 c2) (fun y3_0 y3_1 h3 g3 => fun x4 e4 => ⟨fun c5 => ytX12_laysPath hk g3 ((h3 x4 e4).1 c5) (fun y6_0 y6_1 h6 g6 => ytX12_remembers hk g6 h6 (fun y7_0 h7 g7 => ih.2.1 _ _ _ g7 h7)), fun c8 => ⟨((h3 x4 e4).2 c8), g3⟩⟩), fun c9 => ⟨(h1.2 c9), g1⟩⟩)
    · intro t li lj g hR
      have hR : wbX12_cancel_1 (wpX12_cancel k) k t li lj Q := hR
      show wbX12_cancel_1 (wpX12_cancel k) k t li lj (fun r t => Q r t ∧ G t)
      unfold wbX12_cancel_1 at hR ⊢
      exact ⟨fun c1 => ih.2.2 _ _ _ g (hR.1 c1), fun c2 => ⟨(hR.2 c2).1, fun x3 e3 => ⟨((hR.2 c2).2 x3 e3).1, fun x4 e4 => have g4 : G x4 := (by rw [e4]; exact hk.2.2.1 _ _ _ (by decide) (by decide) g); fun x5 e5 => ih.2.1 _ _ _ g4 ((((hR.2 c2).2 x3 e3).2 x4 e4) x5 e5)⟩⟩⟩
    · intro t li lj g hR
      have hR : wbX12_cancel_2 (wpX12_cancel k) k t li lj Q := hR
      show wbX12_cancel_2 (wpX12_cancel k) k t li lj (fun r t => Q r t ∧ G t)
      unfold wbX12_cancel_2 at hR ⊢
      exact fun x1 e1 => ⟨fun c2 => ytX12_criticalMany hk g ((hR x1 e1).1 c2) (fun y3_0 y3_1 h3 g3 => ⟨h3, g3⟩), fun c4 => ⟨((hR x1 e1).2 c4).1, fun x5 e5 => fun x6 e6 => ⟨((((hR x1 e1).2 c4).2 x5 e5) x6 e6).1, fun x7 e7 => ⟨(((((hR x1 e1).2 c4).2 x5 e5) x6 e6).2 x7 e7).1, fun x8 e8 => have g8 : G x8 := (by rw [e8]; exact hk.2.2.1 _ _ _ (by decide) (by decide) g); fun x9 e9 => ⟨(((((((hR x1 e1).2 c4).2 x5 e5) x6 e6).2 x7 e7).2 x8 e8) x9 e9).1, fun x10 e10 => ⟨((((((((hR x1 e1).2 c4).2 x5 e5) x6 e6).2 x7 e7).2 x8 e8) x9 e9).2 x10 e10).1, fun x11 e11 => ⟨(((((((((hR x1 e1).2 c4).2 x5 e5) x6 e6).2 x7 e7).2 x8 e8) x9 e9).2 x10 e10).2 x11 e11).1, fun x12 e12 => have g12 : G x12 := (by rw [e12]; exact hk.2.2.1 _ _ _ (by decide) (by decide) g8); fun x13 e13 => ih.2.2 _ _ _ g12 (((((((((((hR x1 e1).2 c4).2 x5 e5) x6 e6).2 x7 e7).2 x8 e8) x9 e9).2 x10 e10).2 x11 e11).2 x12 e12) x13 e13)⟩⟩⟩⟩⟩⟩⟩
theorem ygX12_cancel {G : XT → Prop} {k : Nat} {t : XT} {a1 : Int32} {a2 : Int32} {Q : Int32 → XT → Prop} (hk : kpM G) (g : G t) (hR : wqX12_cancel k t a1 a2 Q) : wqX12_cancel k t a1 a2 (fun r t => Q r t ∧ G t) := (yfX12_cancel hk Q k).1 t _ _ g hR
theorem ytX12_cancel {G : XT → Prop} {k : Nat} {t : XT} {a1 : Int32} {a2 : Int32} {Q Q' : Int32 → XT → Prop} (hk : kpM G) (g : G t) (hR : wqX12_cancel k t a1 a2 Q) (hQ : (∀ r t, Q r t → G t → Q' r t)) : wqX12_cancel k t a1 a2 Q' := wmX12_cancel (Nat.le_refl k) (fun r t h => hQ r t h.1 h.2) (ygX12_cancel hk g hR)
set_option maxHeartbeats 4000000 in
set_option maxRecDepth 100000 in
theorem yfX12_overOf {G : XT → Prop} (hk : kpM G) (Q : Int32 → XT → Prop) : ∀ k : Nat, (∀ (t : XT) (li : Nat → Int32) (lj : Nat → Int64), G t → wpX12_overOf k 0 t li lj Q → wpX12_overOf k 0 t li lj (fun r t => Q r t ∧ G t)) ∧ (∀ (t : XT) (li : Nat → Int32) (lj : Nat → Int64), G t → wpX12_overOf k 1 t li lj Q → wpX12_overOf k 1 t li lj (fun r t => Q r t ∧ G t)) := by
  intro k
  induction k with
  | zero => exact ⟨fun _ _ _ _ hR => False.elim hR, fun _ _ _ _ hR => False.elim hR⟩
  | succ k ih =>
    refine ⟨?_, ?_⟩
    · intro t li lj g hR
      have hR : wbX12_overOf_0 (wpX12_overOf k) k t li lj Q := hR
      show wbX12_overOf_0 (wpX12_overOf k) k t li lj (fun r t => Q r t ∧ G t)
      unfold wbX12_overOf_0 at hR ⊢
      exact ih.2 _ _ _ g hR
    · intro t li lj g hR
      have hR : wbX12_overOf_1 (wpX12_overOf k) k t li lj Q := hR
      show wbX12_overOf_1 (wpX12_overOf k) k t li lj (fun r t => Q r t ∧ G t)
      unfold wbX12_overOf_1 at hR ⊢
      exact ytX12_isFaceThere hk g hR (fun y1_0 y1_1 h1 g1 => ⟨fun c2 => ⟨(h1.1 c2), g1⟩, fun c3 => fun x4 e4 => ih.2 _ _ _ g1 ((h1.2 c3) x4 e4)⟩)
theorem ygX12_overOf {G : XT → Prop} {k : Nat} {t : XT} {a1 : Int32} {Q : Int32 → XT → Prop} (hk : kpM G) (g : G t) (hR : wqX12_overOf k t a1 Q) : wqX12_overOf k t a1 (fun r t => Q r t ∧ G t) := (yfX12_overOf hk Q k).1 t _ _ g hR
theorem ytX12_overOf {G : XT → Prop} {k : Nat} {t : XT} {a1 : Int32} {Q Q' : Int32 → XT → Prop} (hk : kpM G) (g : G t) (hR : wqX12_overOf k t a1 Q) (hQ : (∀ r t, Q r t → G t → Q' r t)) : wqX12_overOf k t a1 Q' := wmX12_overOf (Nat.le_refl k) (fun r t h => hQ r t h.1 h.2) (ygX12_overOf hk g hR)
set_option maxHeartbeats 4000000 in
set_option maxRecDepth 100000 in
theorem yfX12_isFreeFace {G : XT → Prop} (hk : kpM G) (Q : Int32 → XT → Prop) : ∀ k : Nat, (∀ (t : XT) (li : Nat → Int32) (lj : Nat → Int64), G t → wpX12_isFreeFace k 0 t li lj Q → wpX12_isFreeFace k 0 t li lj (fun r t => Q r t ∧ G t)) ∧ (∀ (t : XT) (li : Nat → Int32) (lj : Nat → Int64), G t → wpX12_isFreeFace k 1 t li lj Q → wpX12_isFreeFace k 1 t li lj (fun r t => Q r t ∧ G t)) := by
  intro k
  induction k with
  | zero => exact ⟨fun _ _ _ _ hR => False.elim hR, fun _ _ _ _ hR => False.elim hR⟩
  | succ k ih =>
    refine ⟨?_, ?_⟩
    · intro t li lj g hR
      have hR : wbX12_isFreeFace_0 (wpX12_isFreeFace k) k t li lj Q := hR
      show wbX12_isFreeFace_0 (wpX12_isFreeFace k) k t li lj (fun r t => Q r t ∧ G t)
      unfold wbX12_isFreeFace_0 at hR ⊢
      exact ytX12_isThere hk g hR (fun y1_0 y1_1 h1 g1 => ⟨fun c2 => ih.2 _ _ _ g1 (h1.1 c2), fun c3 => ytX12_facesOver hk g1 (h1.2 c3) (fun y4_0 y4_1 h4 g4 => ⟨fun c5 => ytX12_overOf hk g4 (h4.1 c5) (fun y6_0 y6_1 h6 g6 => ytX12_facesOver hk g6 h6 (fun y7_0 y7_1 h7 g7 => ⟨fun c8 => ⟨(h7.1 c8), g7⟩, fun c9 => ⟨(h7.2 c9), g7⟩⟩)), fun c10 => ih.2 _ _ _ g4 (h4.2 c10)⟩)⟩)
    · intro t li lj g hR
      have hR : wbX12_isFreeFace_1 (wpX12_isFreeFace k) k t li lj Q := hR
      show wbX12_isFreeFace_1 (wpX12_isFreeFace k) k t li lj (fun r t => Q r t ∧ G t)
      unfold wbX12_isFreeFace_1 at hR ⊢
      exact ⟨hR, g⟩
theorem ygX12_isFreeFace {G : XT → Prop} {k : Nat} {t : XT} {a1 : Int32} {Q : Int32 → XT → Prop} (hk : kpM G) (g : G t) (hR : wqX12_isFreeFace k t a1 Q) : wqX12_isFreeFace k t a1 (fun r t => Q r t ∧ G t) := (yfX12_isFreeFace hk Q k).1 t _ _ g hR
theorem ytX12_isFreeFace {G : XT → Prop} {k : Nat} {t : XT} {a1 : Int32} {Q Q' : Int32 → XT → Prop} (hk : kpM G) (g : G t) (hR : wqX12_isFreeFace k t a1 Q) (hQ : (∀ r t, Q r t → G t → Q' r t)) : wqX12_isFreeFace k t a1 Q' := wmX12_isFreeFace (Nat.le_refl k) (fun r t h => hQ r t h.1 h.2) (ygX12_isFreeFace hk g hR)
set_option maxHeartbeats 4000000 in
set_option maxRecDepth 100000 in
theorem yfX12_thereMany {G : XT → Prop} (hk : kpM G) (Q : Int32 → XT → Prop) : ∀ k : Nat, (∀ (t : XT) (li : Nat → Int32) (lj : Nat → Int64), G t → wpX12_thereMany k 0 t li lj Q → wpX12_thereMany k 0 t li lj (fun r t => Q r t ∧ G t)) ∧ (∀ (t : XT) (li : Nat → Int32) (lj : Nat → Int64), G t → wpX12_thereMany k 1 t li lj Q → wpX12_thereMany k 1 t li lj (fun r t => Q r t ∧ G t)) ∧ (∀ (t : XT) (li : Nat → Int32) (lj : Nat → Int64), G t → wpX12_thereMany k 2 t li lj Q → wpX12_thereMany k 2 t li lj (fun r t => Q r t ∧ G t)) := by
  intro k
  induction k with
  | zero => exact ⟨fun _ _ _ _ hR => False.elim hR, fun _ _ _ _ hR => False.elim hR, fun _ _ _ _ hR => False.elim hR⟩
  | succ k ih =>
    refine ⟨?_, ?_, ?_⟩
    · intro t li lj g hR
      have hR : wbX12_thereMany_0 (wpX12_thereMany k) k t li lj Q := hR
      show wbX12_thereMany_0 (wpX12_thereMany k) k t li lj (fun r t => Q r t ∧ G t)
      unfold wbX12_thereMany_0 at hR ⊢
      exact ih.2.1 _ _ _ g hR
    · intro t li lj g hR
      have hR : wbX12_thereMany_1 (wpX12_thereMany k) k t li lj Q := hR
      show wbX12_thereMany_1 (wpX12_thereMany k) k t li lj (fun r t => Q r t ∧ G t)
      unfold wbX12_thereMany_1 at hR ⊢
      exact ⟨fun c1 => ⟨(hR.1 c1), g⟩, fun c2 => ⟨(hR.2 c2).1, fun x3 e3 => ⟨fun c4 => ih.2.2 _ _ _ g (((hR.2 c2).2 x3 e3).1 c4), fun c5 => ih.2.2 _ _ _ g (((hR.2 c2).2 x3 e3).2 c5)⟩⟩⟩
    · intro t li lj g hR
      have hR : wbX12_thereMany_2 (wpX12_thereMany k) k t li lj Q := hR
      show wbX12_thereMany_2 (wpX12_thereMany k) k t li lj (fun r t => Q r t ∧ G t)
      unfold wbX12_thereMany_2 at hR ⊢
      exact wcX12_truth hR (fun y1_0 h1 => fun x2 e2 => fun x3 e3 => ih.2.1 _ _ _ g ((h1 x2 e2) x3 e3))
theorem ygX12_thereMany {G : XT → Prop} {k : Nat} {t : XT}  {Q : Int32 → XT → Prop} (hk : kpM G) (g : G t) (hR : wqX12_thereMany k t  Q) : wqX12_thereMany k t  (fun r t => Q r t ∧ G t) := (yfX12_thereMany hk Q k).1 t _ _ g hR
theorem ytX12_thereMany {G : XT → Prop} {k : Nat} {t : XT}  {Q Q' : Int32 → XT → Prop} (hk : kpM G) (g : G t) (hR : wqX12_thereMany k t  Q) (hQ : (∀ r t, Q r t → G t → Q' r t)) : wqX12_thereMany k t  Q' := wmX12_thereMany (Nat.le_refl k) (fun r t h => hQ r t h.1 h.2) (ygX12_thereMany hk g hR)
set_option maxHeartbeats 4000000 in
set_option maxRecDepth 100000 in
theorem yfX12_collapse {G : XT → Prop} (hk : kpM G) (Q : Int32 → XT → Prop) : ∀ k : Nat, (∀ (t : XT) (li : Nat → Int32) (lj : Nat → Int64), G t → wpX12_collapse k 0 t li lj Q → wpX12_collapse k 0 t li lj (fun r t => Q r t ∧ G t)) := by
  intro k
  induction k with
  | zero => exact fun _ _ _ _ hR => False.elim hR
  | succ k ih =>
    intro t li lj g hR
    have hR : wbX12_collapse_0 (wpX12_collapse k) k t li lj Q := hR
    show wbX12_collapse_0 (wpX12_collapse k) k t li lj (fun r t => Q r t ∧ G t)
    unfold wbX12_collapse_0 at hR ⊢
    exact ytX12_isThere hk g hR (fun y1_0 y1_1 h1 g1 => ⟨fun c2 => ytX12_isFreeFace hk g1 (h1.1 c2) (fun y3_0 y3_1 h3 g3 => ⟨fun c4 => ytX12_remembers hk g3 (h3.1 c4) (fun y5_0 h5 g5 => ytX12_overOf hk g5 h5 (fun y6_0 y6_1 h6 g6 => ytX12_frees hk g6 h6 (fun y7_0 h7 g7 => ytX12_frees hk g7 h7 (fun y8_0 h8 g8 => ⟨h8.1, fun x9 e9 => have g9 : G x9 := (by rw [e9]; exact hk.2.2.1 _ _ _ (by decide) (by decide) g8); ⟨(h8.2 x9 e9).1, fun x10 e10 => have g10 : G x10 := (by rw [e10]; exact hk.2.2.1 _ _ _ (by decide) (by decide) g9); ytX12_thereMany hk g10 ((h8.2 x9 e9).2 x10 e10) (fun y11_0 y11_1 h11 g11 => ⟨h11, g11⟩)⟩⟩)))), fun c12 => ⟨(h3.2 c12), g3⟩⟩), fun c13 => ⟨(h1.2 c13), g1⟩⟩)
theorem ygX12_collapse {G : XT → Prop} {k : Nat} {t : XT} {a1 : Int32} {Q : Int32 → XT → Prop} (hk : kpM G) (g : G t) (hR : wqX12_collapse k t a1 Q) : wqX12_collapse k t a1 (fun r t => Q r t ∧ G t) := (yfX12_collapse hk Q k) t _ _ g hR
theorem ytX12_collapse {G : XT → Prop} {k : Nat} {t : XT} {a1 : Int32} {Q Q' : Int32 → XT → Prop} (hk : kpM G) (g : G t) (hR : wqX12_collapse k t a1 Q) (hQ : (∀ r t, Q r t → G t → Q' r t)) : wqX12_collapse k t a1 Q' := wmX12_collapse (Nat.le_refl k) (fun r t h => hQ r t h.1 h.2) (ygX12_collapse hk g hR)
