set_option maxHeartbeats 4000000 in
set_option maxRecDepth 100000 in
theorem qfX12_onlyOver {G : XT → Prop} (hk : kpQ G) (Q : Int32 → XT → Prop) : ∀ k : Nat, (∀ (t : XT) (li : Nat → Int32) (lj : Nat → Int64), G t → wpX12_onlyOver k 0 t li lj Q → wpX12_onlyOver k 0 t li lj (fun r t => Q r t ∧ G t)) ∧ (∀ (t : XT) (li : Nat → Int32) (lj : Nat → Int64), G t → wpX12_onlyOver k 1 t li lj Q → wpX12_onlyOver k 1 t li lj (fun r t => Q r t ∧ G t)) ∧ (∀ (t : XT) (li : Nat → Int32) (lj : Nat → Int64), G t → wpX12_onlyOver k 2 t li lj Q → wpX12_onlyOver k 2 t li lj (fun r t => Q r t ∧ G t)) := by
  intro k
  induction k with
  | zero => exact ⟨fun _ _ _ _ hR => False.elim hR, fun _ _ _ _ hR => False.elim hR, fun _ _ _ _ hR => False.elim hR⟩
  | succ k ih =>
    refine ⟨?_, ?_, ?_⟩
    · intro t li lj g hR
      have hR : wbX12_onlyOver_0 (wpX12_onlyOver k) k t li lj Q := hR
      show wbX12_onlyOver_0 (wpX12_onlyOver k) k t li lj (fun r t => Q r t ∧ G t)
      unfold wbX12_onlyOver_0 at hR ⊢
      exact ih.2.1 _ _ _ g hR
    · intro t li lj g hR
      have hR : wbX12_onlyOver_1 (wpX12_onlyOver k) k t li lj Q := hR
      show wbX12_onlyOver_1 (wpX12_onlyOver k) k t li lj (fun r t => Q r t ∧ G t)
      unfold wbX12_onlyOver_1 at hR ⊢
      exact ⟨fun c1 => ⟨(hR.1 c1), g⟩, fun c2 => ⟨(hR.2 c2).1, fun x3 e3 => ⟨fun c4 => ih.2.2 _ _ _ g (((hR.2 c2).2 x3 e3).1 c4), fun c5 => qtX12_isFace hk g (((hR.2 c2).2 x3 e3).2 c5) (fun y6_0 y6_1 h6 g6 => ⟨fun c7 => ih.2.2 _ _ _ g6 (h6.1 c7), fun c8 => ⟨fun c9 => ih.2.2 _ _ _ g6 ((h6.2 c8).1 c9), fun c10 => ⟨((h6.2 c8).2 c10), g6⟩⟩⟩)⟩⟩⟩
    · intro t li lj g hR
      have hR : wbX12_onlyOver_2 (wpX12_onlyOver k) k t li lj Q := hR
      show wbX12_onlyOver_2 (wpX12_onlyOver k) k t li lj (fun r t => Q r t ∧ G t)
      unfold wbX12_onlyOver_2 at hR ⊢
      exact fun x1 e1 => ih.2.1 _ _ _ g (hR x1 e1)
theorem qgX12_onlyOver {G : XT → Prop} {k : Nat} {t : XT} {a1 : Int32} {Q : Int32 → XT → Prop} (hk : kpQ G) (g : G t) (hR : wqX12_onlyOver k t a1 Q) : wqX12_onlyOver k t a1 (fun r t => Q r t ∧ G t) := (qfX12_onlyOver hk Q k).1 t _ _ g hR
theorem qtX12_onlyOver {G : XT → Prop} {k : Nat} {t : XT} {a1 : Int32} {Q Q' : Int32 → XT → Prop} (hk : kpQ G) (g : G t) (hR : wqX12_onlyOver k t a1 Q) (hQ : (∀ r t, Q r t → G t → Q' r t)) : wqX12_onlyOver k t a1 Q' := wmX12_onlyOver (Nat.le_refl k) (fun r t h => hQ r t h.1 h.2) (qgX12_onlyOver hk g hR)
set_option maxHeartbeats 4000000 in
set_option maxRecDepth 100000 in
theorem qfX12_areEnds {G : XT → Prop} (hk : kpQ G) (Q : Int32 → XT → Prop) : ∀ k : Nat, (∀ (t : XT) (li : Nat → Int32) (lj : Nat → Int64), G t → wpX12_areEnds k 0 t li lj Q → wpX12_areEnds k 0 t li lj (fun r t => Q r t ∧ G t)) ∧ (∀ (t : XT) (li : Nat → Int32) (lj : Nat → Int64), G t → wpX12_areEnds k 1 t li lj Q → wpX12_areEnds k 1 t li lj (fun r t => Q r t ∧ G t)) := by
  intro k
  induction k with
  | zero => exact ⟨fun _ _ _ _ hR => False.elim hR, fun _ _ _ _ hR => False.elim hR⟩
  | succ k ih =>
    refine ⟨?_, ?_⟩
    · intro t li lj g hR
      have hR : wbX12_areEnds_0 (wpX12_areEnds k) k t li lj Q := hR
      show wbX12_areEnds_0 (wpX12_areEnds k) k t li lj (fun r t => Q r t ∧ G t)
      unfold wbX12_areEnds_0 at hR ⊢
      exact qtX12_isCritical hk g hR (fun y1_0 y1_1 h1 g1 => ⟨fun c2 => ih.2 _ _ _ g1 (h1.1 c2), fun c3 => qtX12_isCritical hk g1 (h1.2 c3) (fun y4_0 y4_1 h4 g4 => ⟨fun c5 => ih.2 _ _ _ g4 (h4.1 c5), fun c6 => qtX12_dimOf hk g4 (h4.2 c6) (fun y7_0 y7_1 h7 g7 => qtX12_dimOf hk g7 h7 (fun y8_0 y8_1 h8 g8 => fun x9 e9 => ⟨fun c10 => ih.2 _ _ _ g8 ((h8 x9 e9).1 c10), fun c11 => ⟨((h8 x9 e9).2 c11), g8⟩⟩))⟩)⟩)
    · intro t li lj g hR
      have hR : wbX12_areEnds_1 (wpX12_areEnds k) k t li lj Q := hR
      show wbX12_areEnds_1 (wpX12_areEnds k) k t li lj (fun r t => Q r t ∧ G t)
      unfold wbX12_areEnds_1 at hR ⊢
      exact ⟨hR, g⟩
theorem qgX12_areEnds {G : XT → Prop} {k : Nat} {t : XT} {a1 : Int32} {a2 : Int32} {Q : Int32 → XT → Prop} (hk : kpQ G) (g : G t) (hR : wqX12_areEnds k t a1 a2 Q) : wqX12_areEnds k t a1 a2 (fun r t => Q r t ∧ G t) := (qfX12_areEnds hk Q k).1 t _ _ g hR
theorem qtX12_areEnds {G : XT → Prop} {k : Nat} {t : XT} {a1 : Int32} {a2 : Int32} {Q Q' : Int32 → XT → Prop} (hk : kpQ G) (g : G t) (hR : wqX12_areEnds k t a1 a2 Q) (hQ : (∀ r t, Q r t → G t → Q' r t)) : wqX12_areEnds k t a1 a2 Q' := wmX12_areEnds (Nat.le_refl k) (fun r t h => hQ r t h.1 h.2) (qgX12_areEnds hk g hR)
set_option maxHeartbeats 4000000 in
set_option maxRecDepth 100000 in
theorem qfX12_laysWay {G : XT → Prop} (hk : kpQ G) (Q : Int32 → XT → Prop) : ∀ k : Nat, (∀ (t : XT) (li : Nat → Int32) (lj : Nat → Int64), G t → wpX12_laysWay k 0 t li lj Q → wpX12_laysWay k 0 t li lj (fun r t => Q r t ∧ G t)) ∧ (∀ (t : XT) (li : Nat → Int32) (lj : Nat → Int64), G t → wpX12_laysWay k 1 t li lj Q → wpX12_laysWay k 1 t li lj (fun r t => Q r t ∧ G t)) ∧ (∀ (t : XT) (li : Nat → Int32) (lj : Nat → Int64), G t → wpX12_laysWay k 2 t li lj Q → wpX12_laysWay k 2 t li lj (fun r t => Q r t ∧ G t)) := by
  intro k
  induction k with
  | zero => exact ⟨fun _ _ _ _ hR => False.elim hR, fun _ _ _ _ hR => False.elim hR, fun _ _ _ _ hR => False.elim hR⟩
  | succ k ih =>
    refine ⟨?_, ?_, ?_⟩
    · intro t li lj g hR
      have hR : wbX12_laysWay_0 (wpX12_laysWay k) k t li lj Q := hR
      show wbX12_laysWay_0 (wpX12_laysWay k) k t li lj (fun r t => Q r t ∧ G t)
      unfold wbX12_laysWay_0 at hR ⊢
      exact ⟨hR.1, fun x1 e1 => ih.2.1 _ _ _ g (hR.2 x1 e1)⟩
    · intro t li lj g hR
      have hR : wbX12_laysWay_1 (wpX12_laysWay k) k t li lj Q := hR
      show wbX12_laysWay_1 (wpX12_laysWay k) k t li lj (fun r t => Q r t ∧ G t)
      unfold wbX12_laysWay_1 at hR ⊢
      exact ⟨fun c1 => ⟨(hR.1 c1).1, fun x2 e2 => have g2 : G x2 := (by rw [e2]; exact hk.2.2.2 _ _ _ g); qtX12_signOf hk g2 ((hR.1 c1).2 x2 e2) (fun y3_0 y3_1 h3 g3 => fun x4 e4 => fun x5 e5 => fun x6 e6 => ⟨(((h3 x4 e4) x5 e5) x6 e6).1, fun x7 e7 => have g7 : G x7 := (by rw [e7]; exact hk.2.2.2 _ _ _ g3); ⟨((((h3 x4 e4) x5 e5) x6 e6).2 x7 e7), g7⟩⟩)⟩, fun c8 => ⟨fun c9 => ih.2.2 _ _ _ g ((hR.2 c8).1 c9), fun c10 => qtX12_isFaceThere hk g ((hR.2 c8).2 c10) (fun y11_0 y11_1 h11 g11 => ⟨fun c12 => ⟨(h11.1 c12).1, fun x13 e13 => fun x14 e14 => ⟨fun c15 => ⟨((((h11.1 c12).2 x13 e13) x14 e14).1 c15).1, fun x16 e16 => fun x17 e17 => qtX12_signOf hk g11 ((((((h11.1 c12).2 x13 e13) x14 e14).1 c15).2 x16 e16) x17 e17) (fun y18_0 y18_1 h18 g18 => fun x19 e19 => ⟨(h18 x19 e19).1, fun x20 e20 => fun x21 e21 => fun x22 e22 => ih.2.2 _ _ _ g18 ((((h18 x19 e19).2 x20 e20) x21 e21) x22 e22)⟩)⟩, fun c23 => ⟨((((h11.1 c12).2 x13 e13) x14 e14).2 c23), g11⟩⟩⟩, fun c24 => ih.2.2 _ _ _ g11 (h11.2 c24)⟩)⟩⟩
    · intro t li lj g hR
      have hR : wbX12_laysWay_2 (wpX12_laysWay k) k t li lj Q := hR
      show wbX12_laysWay_2 (wpX12_laysWay k) k t li lj (fun r t => Q r t ∧ G t)
      unfold wbX12_laysWay_2 at hR ⊢
      exact fun x1 e1 => ih.2.1 _ _ _ g (hR x1 e1)
theorem qgX12_laysWay {G : XT → Prop} {k : Nat} {t : XT} {a1 : Int32} {Q : Int32 → XT → Prop} (hk : kpQ G) (g : G t) (hR : wqX12_laysWay k t a1 Q) : wqX12_laysWay k t a1 (fun r t => Q r t ∧ G t) := (qfX12_laysWay hk Q k).1 t _ _ g hR
theorem qtX12_laysWay {G : XT → Prop} {k : Nat} {t : XT} {a1 : Int32} {Q Q' : Int32 → XT → Prop} (hk : kpQ G) (g : G t) (hR : wqX12_laysWay k t a1 Q) (hQ : (∀ r t, Q r t → G t → Q' r t)) : wqX12_laysWay k t a1 Q' := wmX12_laysWay (Nat.le_refl k) (fun r t h => hQ r t h.1 h.2) (qgX12_laysWay hk g hR)
set_option maxHeartbeats 4000000 in
set_option maxRecDepth 100000 in
theorem qfX12_laysWays {G : XT → Prop} (hk : kpQ G) (Q : XT → Prop) : ∀ k : Nat, (∀ (t : XT) (li : Nat → Int32) (lj : Nat → Int64), G t → wpX12_laysWays k 0 t li lj Q → wpX12_laysWays k 0 t li lj (fun t => Q t ∧ G t)) ∧ (∀ (t : XT) (li : Nat → Int32) (lj : Nat → Int64), G t → wpX12_laysWays k 1 t li lj Q → wpX12_laysWays k 1 t li lj (fun t => Q t ∧ G t)) ∧ (∀ (t : XT) (li : Nat → Int32) (lj : Nat → Int64), G t → wpX12_laysWays k 2 t li lj Q → wpX12_laysWays k 2 t li lj (fun t => Q t ∧ G t)) ∧ (∀ (t : XT) (li : Nat → Int32) (lj : Nat → Int64), G t → wpX12_laysWays k 3 t li lj Q → wpX12_laysWays k 3 t li lj (fun t => Q t ∧ G t)) ∧ (∀ (t : XT) (li : Nat → Int32) (lj : Nat → Int64), G t → wpX12_laysWays k 4 t li lj Q → wpX12_laysWays k 4 t li lj (fun t => Q t ∧ G t)) ∧ (∀ (t : XT) (li : Nat → Int32) (lj : Nat → Int64), G t → wpX12_laysWays k 5 t li lj Q → wpX12_laysWays k 5 t li lj (fun t => Q t ∧ G t)) ∧ (∀ (t : XT) (li : Nat → Int32) (lj : Nat → Int64), G t → wpX12_laysWays k 6 t li lj Q → wpX12_laysWays k 6 t li lj (fun t => Q t ∧ G t)) ∧ (∀ (t : XT) (li : Nat → Int32) (lj : Nat → Int64), G t → wpX12_laysWays k 7 t li lj Q → wpX12_laysWays k 7 t li lj (fun t => Q t ∧ G t)) ∧ (∀ (t : XT) (li : Nat → Int32) (lj : Nat → Int64), G t → wpX12_laysWays k 8 t li lj Q → wpX12_laysWays k 8 t li lj (fun t => Q t ∧ G t)) ∧ (∀ (t : XT) (li : Nat → Int32) (lj : Nat → Int64), G t → wpX12_laysWays k 9 t li lj Q → wpX12_laysWays k 9 t li lj (fun t => Q t ∧ G t)) ∧ (∀ (t : XT) (li : Nat → Int32) (lj : Nat → Int64), G t → wpX12_laysWays k 10 t li lj Q → wpX12_laysWays k 10 t li lj (fun t => Q t ∧ G t)) ∧ (∀ (t : XT) (li : Nat → Int32) (lj : Nat → Int64), G t → wpX12_laysWays k 11 t li lj Q → wpX12_laysWays k 11 t li lj (fun t => Q t ∧ G t)) := by
  intro k
  induction k with
  | zero => exact ⟨fun _ _ _ _ hR => False.elim hR, fun _ _ _ _ hR => False.elim hR, fun _ _ _ _ hR => False.elim hR, fun _ _ _ _ hR => False.elim hR, fun _ _ _ _ hR => False.elim hR, fun _ _ _ _ hR => False.elim hR, fun _ _ _ _ hR => False.elim hR, fun _ _ _ _ hR => False.elim hR, fun _ _ _ _ hR => False.elim hR, fun _ _ _ _ hR => False.elim hR, fun _ _ _ _ hR => False.elim hR, fun _ _ _ _ hR => False.elim hR⟩
  | succ k ih =>
    refine ⟨?_, ?_, ?_, ?_, ?_, ?_, ?_, ?_, ?_, ?_, ?_, ?_⟩
    · intro t li lj g hR
      have hR : wbX12_laysWays_0 (wpX12_laysWays k) k t li lj Q := hR
      show wbX12_laysWays_0 (wpX12_laysWays k) k t li lj (fun t => Q t ∧ G t)
      unfold wbX12_laysWays_0 at hR ⊢
      exact ih.2.1 _ _ _ g hR
    · intro t li lj g hR
      have hR : wbX12_laysWays_1 (wpX12_laysWays k) k t li lj Q := hR
      show wbX12_laysWays_1 (wpX12_laysWays k) k t li lj (fun t => Q t ∧ G t)
      unfold wbX12_laysWays_1 at hR ⊢
      exact ⟨fun c1 => ih.2.2.2.2.2.2.2.1 _ _ _ g (hR.1 c1), fun c2 => qtX12_isThere hk g (hR.2 c2) (fun y3_0 y3_1 h3 g3 => ⟨fun c4 => ih.2.2.1 _ _ _ g3 (h3.1 c4), fun c5 => ⟨fun c6 => ih.2.2.1 _ _ _ g3 ((h3.2 c5).1 c6), fun c7 => qtX12_isLower hk g3 ((h3.2 c5).2 c7) (fun y8_0 y8_1 h8 g8 => ⟨fun c9 => ih.2.2.1 _ _ _ g8 (h8.1 c9), fun c10 => qtX12_dimOf hk g8 (h8.2 c10) (fun y11_0 y11_1 h11 g11 => qtX12_dimOf hk g11 h11 (fun y12_0 y12_1 h12 g12 => ⟨fun c13 => ih.2.2.1 _ _ _ g12 (h12.1 c13), fun c14 => ih.2.2.2.1 _ _ _ g12 (h12.2 c14)⟩))⟩)⟩⟩)⟩
    · intro t li lj g hR
      have hR : wbX12_laysWays_2 (wpX12_laysWays k) k t li lj Q := hR
      show wbX12_laysWays_2 (wpX12_laysWays k) k t li lj (fun t => Q t ∧ G t)
      unfold wbX12_laysWays_2 at hR ⊢
      exact ih.2.2.2.1 _ _ _ g hR
    · intro t li lj g hR
      have hR : wbX12_laysWays_3 (wpX12_laysWays k) k t li lj Q := hR
      show wbX12_laysWays_3 (wpX12_laysWays k) k t li lj (fun t => Q t ∧ G t)
      unfold wbX12_laysWays_3 at hR ⊢
      exact ⟨fun c1 => ⟨fun c2 => ih.2.2.2.2.1 _ _ _ g ((hR.1 c1).1 c2), fun c3 => ih.2.2.2.2.1 _ _ _ g ((hR.1 c1).2 c3)⟩, fun c4 => ih.2.2.2.2.2.1 _ _ _ g (hR.2 c4)⟩
    · intro t li lj g hR
      have hR : wbX12_laysWays_4 (wpX12_laysWays k) k t li lj Q := hR
      show wbX12_laysWays_4 (wpX12_laysWays k) k t li lj (fun t => Q t ∧ G t)
      unfold wbX12_laysWays_4 at hR ⊢
      exact wcX12_truth hR (fun y1_0 h1 => fun x2 e2 => ih.2.2.2.2.2.1 _ _ _ g (h1 x2 e2))
    · intro t li lj g hR
      have hR : wbX12_laysWays_5 (wpX12_laysWays k) k t li lj Q := hR
      show wbX12_laysWays_5 (wpX12_laysWays k) k t li lj (fun t => Q t ∧ G t)
      unfold wbX12_laysWays_5 at hR ⊢
      exact ⟨hR.1, fun x1 e1 => have g1 : G x1 := (by rw [e1]; exact hk.2.2.2 _ _ _ g); ⟨fun c2 => ih.2.2.2.2.2.2.1 _ _ _ g1 ((hR.2 x1 e1).1 c2), fun c3 => ih.2.2.2.2.2.2.1 _ _ _ g1 ((hR.2 x1 e1).2 c3)⟩⟩
    · intro t li lj g hR
      have hR : wbX12_laysWays_6 (wpX12_laysWays k) k t li lj Q := hR
      show wbX12_laysWays_6 (wpX12_laysWays k) k t li lj (fun t => Q t ∧ G t)
      unfold wbX12_laysWays_6 at hR ⊢
      exact wcX12_truth hR (fun y1_0 h1 => fun x2 e2 => ⟨(h1 x2 e2).1, fun x3 e3 => have g3 : G x3 := (by rw [e3]; exact hk.2.2.2 _ _ _ g); fun x4 e4 => ih.2.1 _ _ _ g3 (((h1 x2 e2).2 x3 e3) x4 e4)⟩)
    · intro t li lj g hR
      have hR : wbX12_laysWays_7 (wpX12_laysWays k) k t li lj Q := hR
      show wbX12_laysWays_7 (wpX12_laysWays k) k t li lj (fun t => Q t ∧ G t)
      unfold wbX12_laysWays_7 at hR ⊢
      exact ⟨fun c1 => ⟨(hR.1 c1), g⟩, fun c2 => ih.2.2.2.2.2.2.2.2.1 _ _ _ g (hR.2 c2)⟩
    · intro t li lj g hR
      have hR : wbX12_laysWays_8 (wpX12_laysWays k) k t li lj Q := hR
      show wbX12_laysWays_8 (wpX12_laysWays k) k t li lj (fun t => Q t ∧ G t)
      unfold wbX12_laysWays_8 at hR ⊢
      exact ⟨fun c1 => ih.2.2.2.2.2.2.2.1 _ _ _ g (hR.1 c1), fun c2 => ⟨(hR.2 c2).1, fun x3 e3 => fun x4 e4 => ⟨fun c5 => ih.2.2.2.2.2.2.2.2.2.2.2 _ _ _ g ((((hR.2 c2).2 x3 e3) x4 e4).1 c5), fun c6 => qtX12_laysWay hk g ((((hR.2 c2).2 x3 e3) x4 e4).2 c6) (fun y7_0 y7_1 h7 g7 => ⟨fun c8 => ih.2.2.2.2.2.2.2.2.2.1 _ _ _ g7 (h7.1 c8), fun c9 => ⟨fun c10 => ih.2.2.2.2.2.2.2.2.2.2.1 _ _ _ g7 ((h7.2 c9).1 c10), fun c11 => ih.2.2.2.2.2.2.2.2.2.1 _ _ _ g7 ((h7.2 c9).2 c11)⟩⟩)⟩⟩⟩
    · intro t li lj g hR
      have hR : wbX12_laysWays_9 (wpX12_laysWays k) k t li lj Q := hR
      show wbX12_laysWays_9 (wpX12_laysWays k) k t li lj (fun t => Q t ∧ G t)
      unfold wbX12_laysWays_9 at hR ⊢
      exact ih.2.2.2.2.2.2.2.2.2.2.1 _ _ _ g hR
    · intro t li lj g hR
      have hR : wbX12_laysWays_10 (wpX12_laysWays k) k t li lj Q := hR
      show wbX12_laysWays_10 (wpX12_laysWays k) k t li lj (fun t => Q t ∧ G t)
      unfold wbX12_laysWays_10 at hR ⊢
      exact ih.2.2.2.2.2.2.2.2.2.2.2 _ _ _ g hR
    · intro t li lj g hR
      have hR : wbX12_laysWays_11 (wpX12_laysWays k) k t li lj Q := hR
      show wbX12_laysWays_11 (wpX12_laysWays k) k t li lj (fun t => Q t ∧ G t)
      unfold wbX12_laysWays_11 at hR ⊢
      exact fun x1 e1 => ih.2.2.2.2.2.2.2.2.1 _ _ _ g (hR x1 e1)
theorem qgX12_laysWays {G : XT → Prop} {k : Nat} {t : XT} {a1 : Int32} {Q : XT → Prop} (hk : kpQ G) (g : G t) (hR : wqX12_laysWays k t a1 Q) : wqX12_laysWays k t a1 (fun t => Q t ∧ G t) := (qfX12_laysWays hk Q k).1 t _ _ g hR
theorem qtX12_laysWays {G : XT → Prop} {k : Nat} {t : XT} {a1 : Int32} {Q Q' : XT → Prop} (hk : kpQ G) (g : G t) (hR : wqX12_laysWays k t a1 Q) (hQ : (∀ t, Q t → G t → Q' t)) : wqX12_laysWays k t a1 Q' := wmX12_laysWays (Nat.le_refl k) (fun t h => hQ t h.1 h.2) (qgX12_laysWays hk g hR)
set_option maxHeartbeats 4000000 in
set_option maxRecDepth 100000 in
theorem qfX12_waysFrom {G : XT → Prop} (hk : kpQ G) (Q : Int64 → XT → Prop) : ∀ k : Nat, (∀ (t : XT) (li : Nat → Int32) (lj : Nat → Int64), G t → wpX12_waysFrom k 0 t li lj Q → wpX12_waysFrom k 0 t li lj (fun r t => Q r t ∧ G t)) ∧ (∀ (t : XT) (li : Nat → Int32) (lj : Nat → Int64), G t → wpX12_waysFrom k 1 t li lj Q → wpX12_waysFrom k 1 t li lj (fun r t => Q r t ∧ G t)) ∧ (∀ (t : XT) (li : Nat → Int32) (lj : Nat → Int64), G t → wpX12_waysFrom k 2 t li lj Q → wpX12_waysFrom k 2 t li lj (fun r t => Q r t ∧ G t)) := by
  intro k
  induction k with
  | zero => exact ⟨fun _ _ _ _ hR => False.elim hR, fun _ _ _ _ hR => False.elim hR, fun _ _ _ _ hR => False.elim hR⟩
  | succ k ih =>
    refine ⟨?_, ?_, ?_⟩
    · intro t li lj g hR
      have hR : wbX12_waysFrom_0 (wpX12_waysFrom k) k t li lj Q := hR
      show wbX12_waysFrom_0 (wpX12_waysFrom k) k t li lj (fun r t => Q r t ∧ G t)
      unfold wbX12_waysFrom_0 at hR ⊢
      exact qtX12_laysWays hk g hR (fun y1_0 h1 g1 => ih.2.1 _ _ _ g1 h1)
    · intro t li lj g hR
      have hR : wbX12_waysFrom_1 (wpX12_waysFrom k) k t li lj Q := hR
      show wbX12_waysFrom_1 (wpX12_waysFrom k) k t li lj (fun r t => Q r t ∧ G t)
      unfold wbX12_waysFrom_1 at hR ⊢
      exact ⟨fun c1 => ⟨(hR.1 c1), g⟩, fun c2 => qtX12_isFaceThere hk g (hR.2 c2) (fun y3_0 y3_1 h3 g3 => ⟨fun c4 => ih.2.2 _ _ _ g3 (h3.1 c4), fun c5 => ⟨(h3.2 c5).1, fun x6 e6 => ih.2.2 _ _ _ g3 ((h3.2 c5).2 x6 e6)⟩⟩)⟩
    · intro t li lj g hR
      have hR : wbX12_waysFrom_2 (wpX12_waysFrom k) k t li lj Q := hR
      show wbX12_waysFrom_2 (wpX12_waysFrom k) k t li lj (fun r t => Q r t ∧ G t)
      unfold wbX12_waysFrom_2 at hR ⊢
      exact fun x1 e1 => fun x2 e2 => ih.2.1 _ _ _ g ((hR x1 e1) x2 e2)
theorem qgX12_waysFrom {G : XT → Prop} {k : Nat} {t : XT} {a1 : Int32} {a2 : Int32} {Q : Int64 → XT → Prop} (hk : kpQ G) (g : G t) (hR : wqX12_waysFrom k t a1 a2 Q) : wqX12_waysFrom k t a1 a2 (fun r t => Q r t ∧ G t) := (qfX12_waysFrom hk Q k).1 t _ _ g hR
theorem qtX12_waysFrom {G : XT → Prop} {k : Nat} {t : XT} {a1 : Int32} {a2 : Int32} {Q Q' : Int64 → XT → Prop} (hk : kpQ G) (g : G t) (hR : wqX12_waysFrom k t a1 a2 Q) (hQ : (∀ r t, Q r t → G t → Q' r t)) : wqX12_waysFrom k t a1 a2 Q' := wmX12_waysFrom (Nat.le_refl k) (fun r t h => hQ r t h.1 h.2) (qgX12_waysFrom hk g hR)
set_option maxHeartbeats 4000000 in
set_option maxRecDepth 100000 in
theorem qfX12_rows {G : XT → Prop} (hk : kpQ G) (Q : XT → Prop) : ∀ k : Nat, (∀ (t : XT) (li : Nat → Int32) (lj : Nat → Int64), G t → wpX12_rows k 0 t li lj Q → wpX12_rows k 0 t li lj (fun t => Q t ∧ G t)) := by
  intro k
  induction k with
  | zero => exact fun _ _ _ _ hR => False.elim hR
  | succ k ih =>
    intro t li lj g hR
    have hR : wbX12_rows_0 (wpX12_rows k) k t li lj Q := hR
    show wbX12_rows_0 (wpX12_rows k) k t li lj (fun t => Q t ∧ G t)
    unfold wbX12_rows_0 at hR ⊢
    exact ⟨hR.1, fun x1 e1 => have g1 : G x1 := (by rw [e1]; exact hk.2.2.1 _ _ _ (by decide) (by decide) (by decide) (by decide) (by decide) g); fun x2 e2 => fun x3 e3 => have g3 : G x3 := (by rw [e3]; exact hk.1 _ _ _ (by decide) g1); ⟨(((hR.2 x1 e1) x2 e2) x3 e3), g3⟩⟩
theorem qgX12_rows {G : XT → Prop} {k : Nat} {t : XT} {a1 : Int32} {Q : XT → Prop} (hk : kpQ G) (g : G t) (hR : wqX12_rows k t a1 Q) : wqX12_rows k t a1 (fun t => Q t ∧ G t) := (qfX12_rows hk Q k) t _ _ g hR
theorem qtX12_rows {G : XT → Prop} {k : Nat} {t : XT} {a1 : Int32} {Q Q' : XT → Prop} (hk : kpQ G) (g : G t) (hR : wqX12_rows k t a1 Q) (hQ : (∀ t, Q t → G t → Q' t)) : wqX12_rows k t a1 Q' := wmX12_rows (Nat.le_refl k) (fun t h => hQ t h.1 h.2) (qgX12_rows hk g hR)
set_option maxHeartbeats 4000000 in
set_option maxRecDepth 100000 in
theorem qfX12_laysPath {G : XT → Prop} (hk : kpQ G) (Q : Int32 → XT → Prop) : ∀ k : Nat, (∀ (t : XT) (li : Nat → Int32) (lj : Nat → Int64), G t → wpX12_laysPath k 0 t li lj Q → wpX12_laysPath k 0 t li lj (fun r t => Q r t ∧ G t)) ∧ (∀ (t : XT) (li : Nat → Int32) (lj : Nat → Int64), G t → wpX12_laysPath k 1 t li lj Q → wpX12_laysPath k 1 t li lj (fun r t => Q r t ∧ G t)) ∧ (∀ (t : XT) (li : Nat → Int32) (lj : Nat → Int64), G t → wpX12_laysPath k 2 t li lj Q → wpX12_laysPath k 2 t li lj (fun r t => Q r t ∧ G t)) ∧ (∀ (t : XT) (li : Nat → Int32) (lj : Nat → Int64), G t → wpX12_laysPath k 3 t li lj Q → wpX12_laysPath k 3 t li lj (fun r t => Q r t ∧ G t)) ∧ (∀ (t : XT) (li : Nat → Int32) (lj : Nat → Int64), G t → wpX12_laysPath k 4 t li lj Q → wpX12_laysPath k 4 t li lj (fun r t => Q r t ∧ G t)) ∧ (∀ (t : XT) (li : Nat → Int32) (lj : Nat → Int64), G t → wpX12_laysPath k 5 t li lj Q → wpX12_laysPath k 5 t li lj (fun r t => Q r t ∧ G t)) ∧ (∀ (t : XT) (li : Nat → Int32) (lj : Nat → Int64), G t → wpX12_laysPath k 6 t li lj Q → wpX12_laysPath k 6 t li lj (fun r t => Q r t ∧ G t)) := by
  intro k
  induction k with
  | zero => exact ⟨fun _ _ _ _ hR => False.elim hR, fun _ _ _ _ hR => False.elim hR, fun _ _ _ _ hR => False.elim hR, fun _ _ _ _ hR => False.elim hR, fun _ _ _ _ hR => False.elim hR, fun _ _ _ _ hR => False.elim hR, fun _ _ _ _ hR => False.elim hR⟩
  | succ k ih =>
    refine ⟨?_, ?_, ?_, ?_, ?_, ?_, ?_⟩
    · intro t li lj g hR
      have hR : wbX12_laysPath_0 (wpX12_laysPath k) k t li lj Q := hR
      show wbX12_laysPath_0 (wpX12_laysPath k) k t li lj (fun r t => Q r t ∧ G t)
      unfold wbX12_laysPath_0 at hR ⊢
      exact qtX12_waysFrom hk g hR (fun y1_0 y1_1 h1 g1 => fun x2 e2 => ⟨fun c3 => fun x4 e4 => have g4 : G x4 := (by rw [e4]; exact hk.1 _ _ _ (by decide) g1); qtX12_rows hk g4 (((h1 x2 e2).1 c3) x4 e4) (fun y5_0 h5 g5 => ih.2.1 _ _ _ g5 h5), fun c6 => ⟨((h1 x2 e2).2 c6), g1⟩⟩)
    · intro t li lj g hR
      have hR : wbX12_laysPath_1 (wpX12_laysPath k) k t li lj Q := hR
      show wbX12_laysPath_1 (wpX12_laysPath k) k t li lj (fun r t => Q r t ∧ G t)
      unfold wbX12_laysPath_1 at hR ⊢
      exact ⟨fun c1 => ⟨(hR.1 c1), g⟩, fun c2 => ih.2.2.1 _ _ _ g (hR.2 c2)⟩
    · intro t li lj g hR
      have hR : wbX12_laysPath_2 (wpX12_laysPath k) k t li lj Q := hR
      show wbX12_laysPath_2 (wpX12_laysPath k) k t li lj (fun r t => Q r t ∧ G t)
      unfold wbX12_laysPath_2 at hR ⊢
      exact ⟨fun c1 => ih.2.2.2.1 _ _ _ g (hR.1 c1), fun c2 => qtX12_isFaceThere hk g (hR.2 c2) (fun y3_0 y3_1 h3 g3 => ⟨fun c4 => ih.2.2.2.1 _ _ _ g3 (h3.1 c4), fun c5 => ⟨(h3.2 c5).1, fun x6 e6 => fun x7 e7 => ⟨fun c8 => qtX12_rows hk g3 ((((h3.2 c5).2 x6 e6) x7 e7).1 c8) (fun y9_0 h9 g9 => ⟨fun c10 => ih.2.2.2.2.2.2 _ _ _ g9 (h9.1 c10), fun c11 => ⟨(h9.2 c11).1, fun x12 e12 => qtX12_rows hk g9 ((h9.2 c11).2 x12 e12) (fun y13_0 h13 g13 => ih.2.2.2.2.2.2 _ _ _ g13 h13)⟩⟩), fun c14 => ih.2.2.2.1 _ _ _ g3 ((((h3.2 c5).2 x6 e6) x7 e7).2 c14)⟩⟩⟩)⟩
    · intro t li lj g hR
      have hR : wbX12_laysPath_3 (wpX12_laysPath k) k t li lj Q := hR
      show wbX12_laysPath_3 (wpX12_laysPath k) k t li lj (fun r t => Q r t ∧ G t)
      unfold wbX12_laysPath_3 at hR ⊢
      exact ⟨fun c1 => ih.2.2.2.2.1 _ _ _ g (hR.1 c1), fun c2 => qtX12_isFaceThere hk g (hR.2 c2) (fun y3_0 y3_1 h3 g3 => ⟨fun c4 => ih.2.2.2.2.1 _ _ _ g3 (h3.1 c4), fun c5 => ⟨(h3.2 c5).1, fun x6 e6 => ih.2.2.2.2.2.1 _ _ _ g3 ((h3.2 c5).2 x6 e6)⟩⟩)⟩
    · intro t li lj g hR
      have hR : wbX12_laysPath_4 (wpX12_laysPath k) k t li lj Q := hR
      show wbX12_laysPath_4 (wpX12_laysPath k) k t li lj (fun r t => Q r t ∧ G t)
      unfold wbX12_laysPath_4 at hR ⊢
      exact ih.2.2.2.2.2.1 _ _ _ g hR
    · intro t li lj g hR
      have hR : wbX12_laysPath_5 (wpX12_laysPath k) k t li lj Q := hR
      show wbX12_laysPath_5 (wpX12_laysPath k) k t li lj (fun r t => Q r t ∧ G t)
      unfold wbX12_laysPath_5 at hR ⊢
      exact fun x1 e1 => fun x2 e2 => ih.2.2.1 _ _ _ g ((hR x1 e1) x2 e2)
    · intro t li lj g hR
      have hR : wbX12_laysPath_6 (wpX12_laysPath k) k t li lj Q := hR
      show wbX12_laysPath_6 (wpX12_laysPath k) k t li lj (fun r t => Q r t ∧ G t)
      unfold wbX12_laysPath_6 at hR ⊢
      exact ih.2.1 _ _ _ g hR
theorem qgX12_laysPath {G : XT → Prop} {k : Nat} {t : XT} {a1 : Int32} {a2 : Int32} {a3 : Int64} {Q : Int32 → XT → Prop} (hk : kpQ G) (g : G t) (hR : wqX12_laysPath k t a1 a2 a3 Q) : wqX12_laysPath k t a1 a2 a3 (fun r t => Q r t ∧ G t) := (qfX12_laysPath hk Q k).1 t _ _ g hR
theorem qtX12_laysPath {G : XT → Prop} {k : Nat} {t : XT} {a1 : Int32} {a2 : Int32} {a3 : Int64} {Q Q' : Int32 → XT → Prop} (hk : kpQ G) (g : G t) (hR : wqX12_laysPath k t a1 a2 a3 Q) (hQ : (∀ r t, Q r t → G t → Q' r t)) : wqX12_laysPath k t a1 a2 a3 Q' := wmX12_laysPath (Nat.le_refl k) (fun r t h => hQ r t h.1 h.2) (qgX12_laysPath hk g hR)
set_option maxHeartbeats 4000000 in
set_option maxRecDepth 100000 in
theorem qfX12_overOf {G : XT → Prop} (hk : kpQ G) (Q : Int32 → XT → Prop) : ∀ k : Nat, (∀ (t : XT) (li : Nat → Int32) (lj : Nat → Int64), G t → wpX12_overOf k 0 t li lj Q → wpX12_overOf k 0 t li lj (fun r t => Q r t ∧ G t)) ∧ (∀ (t : XT) (li : Nat → Int32) (lj : Nat → Int64), G t → wpX12_overOf k 1 t li lj Q → wpX12_overOf k 1 t li lj (fun r t => Q r t ∧ G t)) := by
  intro k
  induction k with
  | zero => exact ⟨fun _ _ _ _ hR => False.elim hR, fun _ _ _ _ hR => False.elim hR⟩
  | succ k ih =>
    refine ⟨?_, ?_⟩
    · intro t li lj g hR
      have hR : wbX12_overOf_0 (wpX12_overOf k) k t li lj Q := hR
      show wbX12_overOf_0 (wpX12_overOf k) k t li lj (fun r t => Q r t ∧ G t)
      unfold wbX12_overOf_0 at hR ⊢
      exact ih.2 _ _ _ g hR
    · intro t li lj g hR
      have hR : wbX12_overOf_1 (wpX12_overOf k) k t li lj Q := hR
      show wbX12_overOf_1 (wpX12_overOf k) k t li lj (fun r t => Q r t ∧ G t)
      unfold wbX12_overOf_1 at hR ⊢
      exact qtX12_isFaceThere hk g hR (fun y1_0 y1_1 h1 g1 => ⟨fun c2 => ⟨(h1.1 c2), g1⟩, fun c3 => fun x4 e4 => ih.2 _ _ _ g1 ((h1.2 c3) x4 e4)⟩)
theorem qgX12_overOf {G : XT → Prop} {k : Nat} {t : XT} {a1 : Int32} {Q : Int32 → XT → Prop} (hk : kpQ G) (g : G t) (hR : wqX12_overOf k t a1 Q) : wqX12_overOf k t a1 (fun r t => Q r t ∧ G t) := (qfX12_overOf hk Q k).1 t _ _ g hR
theorem qtX12_overOf {G : XT → Prop} {k : Nat} {t : XT} {a1 : Int32} {Q Q' : Int32 → XT → Prop} (hk : kpQ G) (g : G t) (hR : wqX12_overOf k t a1 Q) (hQ : (∀ r t, Q r t → G t → Q' r t)) : wqX12_overOf k t a1 Q' := wmX12_overOf (Nat.le_refl k) (fun r t h => hQ r t h.1 h.2) (qgX12_overOf hk g hR)
set_option maxHeartbeats 4000000 in
set_option maxRecDepth 100000 in
theorem qfX12_isFreeFace {G : XT → Prop} (hk : kpQ G) (Q : Int32 → XT → Prop) : ∀ k : Nat, (∀ (t : XT) (li : Nat → Int32) (lj : Nat → Int64), G t → wpX12_isFreeFace k 0 t li lj Q → wpX12_isFreeFace k 0 t li lj (fun r t => Q r t ∧ G t)) ∧ (∀ (t : XT) (li : Nat → Int32) (lj : Nat → Int64), G t → wpX12_isFreeFace k 1 t li lj Q → wpX12_isFreeFace k 1 t li lj (fun r t => Q r t ∧ G t)) := by
  intro k
  induction k with
  | zero => exact ⟨fun _ _ _ _ hR => False.elim hR, fun _ _ _ _ hR => False.elim hR⟩
  | succ k ih =>
    refine ⟨?_, ?_⟩
    · intro t li lj g hR
      have hR : wbX12_isFreeFace_0 (wpX12_isFreeFace k) k t li lj Q := hR
      show wbX12_isFreeFace_0 (wpX12_isFreeFace k) k t li lj (fun r t => Q r t ∧ G t)
      unfold wbX12_isFreeFace_0 at hR ⊢
      exact qtX12_isThere hk g hR (fun y1_0 y1_1 h1 g1 => ⟨fun c2 => ih.2 _ _ _ g1 (h1.1 c2), fun c3 => qtX12_facesOver hk g1 (h1.2 c3) (fun y4_0 y4_1 h4 g4 => ⟨fun c5 => qtX12_overOf hk g4 (h4.1 c5) (fun y6_0 y6_1 h6 g6 => qtX12_facesOver hk g6 h6 (fun y7_0 y7_1 h7 g7 => ⟨fun c8 => ⟨(h7.1 c8), g7⟩, fun c9 => ⟨(h7.2 c9), g7⟩⟩)), fun c10 => ih.2 _ _ _ g4 (h4.2 c10)⟩)⟩)
    · intro t li lj g hR
      have hR : wbX12_isFreeFace_1 (wpX12_isFreeFace k) k t li lj Q := hR
      show wbX12_isFreeFace_1 (wpX12_isFreeFace k) k t li lj (fun r t => Q r t ∧ G t)
      unfold wbX12_isFreeFace_1 at hR ⊢
      exact ⟨hR, g⟩
theorem qgX12_isFreeFace {G : XT → Prop} {k : Nat} {t : XT} {a1 : Int32} {Q : Int32 → XT → Prop} (hk : kpQ G) (g : G t) (hR : wqX12_isFreeFace k t a1 Q) : wqX12_isFreeFace k t a1 (fun r t => Q r t ∧ G t) := (qfX12_isFreeFace hk Q k).1 t _ _ g hR
theorem qtX12_isFreeFace {G : XT → Prop} {k : Nat} {t : XT} {a1 : Int32} {Q Q' : Int32 → XT → Prop} (hk : kpQ G) (g : G t) (hR : wqX12_isFreeFace k t a1 Q) (hQ : (∀ r t, Q r t → G t → Q' r t)) : wqX12_isFreeFace k t a1 Q' := wmX12_isFreeFace (Nat.le_refl k) (fun r t h => hQ r t h.1 h.2) (qgX12_isFreeFace hk g hR)
set_option maxHeartbeats 4000000 in
set_option maxRecDepth 100000 in
theorem qfX12_thereMany {G : XT → Prop} (hk : kpQ G) (Q : Int32 → XT → Prop) : ∀ k : Nat, (∀ (t : XT) (li : Nat → Int32) (lj : Nat → Int64), G t → wpX12_thereMany k 0 t li lj Q → wpX12_thereMany k 0 t li lj (fun r t => Q r t ∧ G t)) ∧ (∀ (t : XT) (li : Nat → Int32) (lj : Nat → Int64), G t → wpX12_thereMany k 1 t li lj Q → wpX12_thereMany k 1 t li lj (fun r t => Q r t ∧ G t)) ∧ (∀ (t : XT) (li : Nat → Int32) (lj : Nat → Int64), G t → wpX12_thereMany k 2 t li lj Q → wpX12_thereMany k 2 t li lj (fun r t => Q r t ∧ G t)) := by
  intro k
  induction k with
  | zero => exact ⟨fun _ _ _ _ hR => False.elim hR, fun _ _ _ _ hR => False.elim hR, fun _ _ _ _ hR => False.elim hR⟩
  | succ k ih =>
    refine ⟨?_, ?_, ?_⟩
    · intro t li lj g hR
      have hR : wbX12_thereMany_0 (wpX12_thereMany k) k t li lj Q := hR
      show wbX12_thereMany_0 (wpX12_thereMany k) k t li lj (fun r t => Q r t ∧ G t)
      unfold wbX12_thereMany_0 at hR ⊢
      exact ih.2.1 _ _ _ g hR
    · intro t li lj g hR
      have hR : wbX12_thereMany_1 (wpX12_thereMany k) k t li lj Q := hR
      show wbX12_thereMany_1 (wpX12_thereMany k) k t li lj (fun r t => Q r t ∧ G t)
      unfold wbX12_thereMany_1 at hR ⊢
      exact ⟨fun c1 => ⟨(hR.1 c1), g⟩, fun c2 => ⟨(hR.2 c2).1, fun x3 e3 => ⟨fun c4 => ih.2.2 _ _ _ g (((hR.2 c2).2 x3 e3).1 c4), fun c5 => ih.2.2 _ _ _ g (((hR.2 c2).2 x3 e3).2 c5)⟩⟩⟩
    · intro t li lj g hR
      have hR : wbX12_thereMany_2 (wpX12_thereMany k) k t li lj Q := hR
      show wbX12_thereMany_2 (wpX12_thereMany k) k t li lj (fun r t => Q r t ∧ G t)
      unfold wbX12_thereMany_2 at hR ⊢
      exact wcX12_truth hR (fun y1_0 h1 => fun x2 e2 => fun x3 e3 => ih.2.1 _ _ _ g ((h1 x2 e2) x3 e3))
theorem qgX12_thereMany {G : XT → Prop} {k : Nat} {t : XT}  {Q : Int32 → XT → Prop} (hk : kpQ G) (g : G t) (hR : wqX12_thereMany k t  Q) : wqX12_thereMany k t  (fun r t => Q r t ∧ G t) := (qfX12_thereMany hk Q k).1 t _ _ g hR
theorem qtX12_thereMany {G : XT → Prop} {k : Nat} {t : XT}  {Q Q' : Int32 → XT → Prop} (hk : kpQ G) (g : G t) (hR : wqX12_thereMany k t  Q) (hQ : (∀ r t, Q r t → G t → Q' r t)) : wqX12_thereMany k t  Q' := wmX12_thereMany (Nat.le_refl k) (fun r t h => hQ r t h.1 h.2) (qgX12_thereMany hk g hR)
set_option maxHeartbeats 4000000 in
set_option maxRecDepth 100000 in
theorem qfX12_critical {G : XT → Prop} (hk : kpQ G) (Q : Int32 → XT → Prop) : ∀ k : Nat, (∀ (t : XT) (li : Nat → Int32) (lj : Nat → Int64), G t → wpX12_critical k 0 t li lj Q → wpX12_critical k 0 t li lj (fun r t => Q r t ∧ G t)) ∧ (∀ (t : XT) (li : Nat → Int32) (lj : Nat → Int64), G t → wpX12_critical k 1 t li lj Q → wpX12_critical k 1 t li lj (fun r t => Q r t ∧ G t)) ∧ (∀ (t : XT) (li : Nat → Int32) (lj : Nat → Int64), G t → wpX12_critical k 2 t li lj Q → wpX12_critical k 2 t li lj (fun r t => Q r t ∧ G t)) ∧ (∀ (t : XT) (li : Nat → Int32) (lj : Nat → Int64), G t → wpX12_critical k 3 t li lj Q → wpX12_critical k 3 t li lj (fun r t => Q r t ∧ G t)) := by
  intro k
  induction k with
  | zero => exact ⟨fun _ _ _ _ hR => False.elim hR, fun _ _ _ _ hR => False.elim hR, fun _ _ _ _ hR => False.elim hR, fun _ _ _ _ hR => False.elim hR⟩
  | succ k ih =>
    refine ⟨?_, ?_, ?_, ?_⟩
    · intro t li lj g hR
      have hR : wbX12_critical_0 (wpX12_critical k) k t li lj Q := hR
      show wbX12_critical_0 (wpX12_critical k) k t li lj (fun r t => Q r t ∧ G t)
      unfold wbX12_critical_0 at hR ⊢
      exact wcX12_in hR (fun y1_0 h1 => ⟨fun c2 => ih.2.1 _ _ _ g (h1.1 c2), fun c3 => ⟨fun c4 => ih.2.2.1 _ _ _ g ((h1.2 c3).1 c4), fun c5 => ih.2.1 _ _ _ g ((h1.2 c3).2 c5)⟩⟩)
    · intro t li lj g hR
      have hR : wbX12_critical_1 (wpX12_critical k) k t li lj Q := hR
      show wbX12_critical_1 (wpX12_critical k) k t li lj (fun r t => Q r t ∧ G t)
      unfold wbX12_critical_1 at hR ⊢
      exact ⟨hR, g⟩
    · intro t li lj g hR
      have hR : wbX12_critical_2 (wpX12_critical k) k t li lj Q := hR
      show wbX12_critical_2 (wpX12_critical k) k t li lj (fun r t => Q r t ∧ G t)
      unfold wbX12_critical_2 at hR ⊢
      exact ⟨fun c1 => ⟨fun c2 => ⟨((hR.1 c1).1 c2), g⟩, fun c3 => ⟨((hR.1 c1).2 c3), g⟩⟩, fun c4 => qtX12_isCritical hk g (hR.2 c4) (fun y5_0 y5_1 h5 g5 => ⟨fun c6 => ih.2.2.2 _ _ _ g5 (h5.1 c6), fun c7 => qtX12_dimOf hk g5 (h5.2 c7) (fun y8_0 y8_1 h8 g8 => ⟨fun c9 => ih.2.2.2 _ _ _ g8 (h8.1 c9), fun c10 => ⟨fun c11 => fun x12 e12 => ih.2.2.2 _ _ _ g8 (((h8.2 c10).1 c11) x12 e12), fun c13 => ⟨((h8.2 c10).2 c13), g8⟩⟩⟩)⟩)⟩
    · intro t li lj g hR
      have hR : wbX12_critical_3 (wpX12_critical k) k t li lj Q := hR
      show wbX12_critical_3 (wpX12_critical k) k t li lj (fun r t => Q r t ∧ G t)
      unfold wbX12_critical_3 at hR ⊢
      exact fun x1 e1 => ih.2.2.1 _ _ _ g (hR x1 e1)
theorem qgX12_critical {G : XT → Prop} {k : Nat} {t : XT} {a1 : Int32} {a2 : Int32} {Q : Int32 → XT → Prop} (hk : kpQ G) (g : G t) (hR : wqX12_critical k t a1 a2 Q) : wqX12_critical k t a1 a2 (fun r t => Q r t ∧ G t) := (qfX12_critical hk Q k).1 t _ _ g hR
theorem qtX12_critical {G : XT → Prop} {k : Nat} {t : XT} {a1 : Int32} {a2 : Int32} {Q Q' : Int32 → XT → Prop} (hk : kpQ G) (g : G t) (hR : wqX12_critical k t a1 a2 Q) (hQ : (∀ r t, Q r t → G t → Q' r t)) : wqX12_critical k t a1 a2 Q' := wmX12_critical (Nat.le_refl k) (fun r t h => hQ r t h.1 h.2) (qgX12_critical hk g hR)
set_option maxHeartbeats 4000000 in
set_option maxRecDepth 100000 in
theorem qfX12_paths {G : XT → Prop} (hk : kpQ G) (Q : Int64 → XT → Prop) : ∀ k : Nat, (∀ (t : XT) (li : Nat → Int32) (lj : Nat → Int64), G t → wpX12_paths k 0 t li lj Q → wpX12_paths k 0 t li lj (fun r t => Q r t ∧ G t)) := by
  intro k
  induction k with
  | zero => exact fun _ _ _ _ hR => False.elim hR
  | succ k ih =>
    intro t li lj g hR
    have hR : wbX12_paths_0 (wpX12_paths k) k t li lj Q := hR
    show wbX12_paths_0 (wpX12_paths k) k t li lj (fun r t => Q r t ∧ G t)
    unfold wbX12_paths_0 at hR ⊢
    exact qtX12_areEnds hk g hR (fun y1_0 y1_1 h1 g1 => ⟨fun c2 => ⟨(h1.1 c2), g1⟩, fun c3 => qtX12_waysFrom hk g1 (h1.2 c3) (fun y4_0 y4_1 h4 g4 => ⟨h4, g4⟩)⟩)
theorem qgX12_paths {G : XT → Prop} {k : Nat} {t : XT} {a1 : Int32} {a2 : Int32} {Q : Int64 → XT → Prop} (hk : kpQ G) (g : G t) (hR : wqX12_paths k t a1 a2 Q) : wqX12_paths k t a1 a2 (fun r t => Q r t ∧ G t) := (qfX12_paths hk Q k) t _ _ g hR
theorem qtX12_paths {G : XT → Prop} {k : Nat} {t : XT} {a1 : Int32} {a2 : Int32} {Q Q' : Int64 → XT → Prop} (hk : kpQ G) (g : G t) (hR : wqX12_paths k t a1 a2 Q) (hQ : (∀ r t, Q r t → G t → Q' r t)) : wqX12_paths k t a1 a2 Q' := wmX12_paths (Nat.le_refl k) (fun r t h => hQ r t h.1 h.2) (qgX12_paths hk g hR)
set_option maxHeartbeats 4000000 in
set_option maxRecDepth 100000 in
theorem qfX12_path {G : XT → Prop} (hk : kpQ G) (Q : Int32 → XT → Prop) : ∀ k : Nat, (∀ (t : XT) (li : Nat → Int32) (lj : Nat → Int64), G t → wpX12_path k 0 t li lj Q → wpX12_path k 0 t li lj (fun r t => Q r t ∧ G t)) ∧ (∀ (t : XT) (li : Nat → Int32) (lj : Nat → Int64), G t → wpX12_path k 1 t li lj Q → wpX12_path k 1 t li lj (fun r t => Q r t ∧ G t)) := by
  intro k
  induction k with
  | zero => exact ⟨fun _ _ _ _ hR => False.elim hR, fun _ _ _ _ hR => False.elim hR⟩
  | succ k ih =>
    refine ⟨?_, ?_⟩
    · intro t li lj g hR
      have hR : wbX12_path_0 (wpX12_path k) k t li lj Q := hR
      show wbX12_path_0 (wpX12_path k) k t li lj (fun r t => Q r t ∧ G t)
      unfold wbX12_path_0 at hR ⊢
      exact qtX12_areEnds hk g hR (fun y1_0 y1_1 h1 g1 => ⟨fun c2 => ih.2 _ _ _ g1 (h1.1 c2), fun c3 => ⟨fun c4 => ih.2 _ _ _ g1 ((h1.2 c3).1 c4), fun c5 => ⟨fun c6 => fun x7 e7 => qtX12_laysPath hk g1 ((((h1.2 c3).2 c5).1 c6) x7 e7) (fun y8_0 y8_1 h8 g8 => ⟨fun c9 => ⟨fun c10 => ⟨fun c11 => ⟨(((h8.1 c9).1 c10).1 c11), g8⟩, fun c12 => ⟨(((h8.1 c9).1 c10).2 c12).1, fun x13 e13 => ⟨((((h8.1 c9).1 c10).2 c12).2 x13 e13), g8⟩⟩⟩, fun c14 => ⟨((h8.1 c9).2 c14), g8⟩⟩, fun c15 => ⟨(h8.2 c15), g8⟩⟩), fun c16 => ih.2 _ _ _ g1 (((h1.2 c3).2 c5).2 c16)⟩⟩⟩)
    · intro t li lj g hR
      have hR : wbX12_path_1 (wpX12_path k) k t li lj Q := hR
      show wbX12_path_1 (wpX12_path k) k t li lj (fun r t => Q r t ∧ G t)
      unfold wbX12_path_1 at hR ⊢
      exact ⟨hR, g⟩
theorem qgX12_path {G : XT → Prop} {k : Nat} {t : XT} {a1 : Int32} {a2 : Int32} {a3 : Int32} {a4 : Int32} {Q : Int32 → XT → Prop} (hk : kpQ G) (g : G t) (hR : wqX12_path k t a1 a2 a3 a4 Q) : wqX12_path k t a1 a2 a3 a4 (fun r t => Q r t ∧ G t) := (qfX12_path hk Q k).1 t _ _ g hR
theorem qtX12_path {G : XT → Prop} {k : Nat} {t : XT} {a1 : Int32} {a2 : Int32} {a3 : Int32} {a4 : Int32} {Q Q' : Int32 → XT → Prop} (hk : kpQ G) (g : G t) (hR : wqX12_path k t a1 a2 a3 a4 Q) (hQ : (∀ r t, Q r t → G t → Q' r t)) : wqX12_path k t a1 a2 a3 a4 Q' := wmX12_path (Nat.le_refl k) (fun r t h => hQ r t h.1 h.2) (qgX12_path hk g hR)
set_option maxHeartbeats 4000000 in
set_option maxRecDepth 100000 in
theorem qfX12_incidenceOf {G : XT → Prop} (hk : kpQ G) (Q : Int64 → XT → Prop) : ∀ k : Nat, (∀ (t : XT) (li : Nat → Int32) (lj : Nat → Int64), G t → wpX12_incidenceOf k 0 t li lj Q → wpX12_incidenceOf k 0 t li lj (fun r t => Q r t ∧ G t)) ∧ (∀ (t : XT) (li : Nat → Int32) (lj : Nat → Int64), G t → wpX12_incidenceOf k 1 t li lj Q → wpX12_incidenceOf k 1 t li lj (fun r t => Q r t ∧ G t)) ∧ (∀ (t : XT) (li : Nat → Int32) (lj : Nat → Int64), G t → wpX12_incidenceOf k 2 t li lj Q → wpX12_incidenceOf k 2 t li lj (fun r t => Q r t ∧ G t)) := by
  intro k
  induction k with
  | zero => exact ⟨fun _ _ _ _ hR => False.elim hR, fun _ _ _ _ hR => False.elim hR, fun _ _ _ _ hR => False.elim hR⟩
  | succ k ih =>
    refine ⟨?_, ?_, ?_⟩
    · intro t li lj g hR
      have hR : wbX12_incidenceOf_0 (wpX12_incidenceOf k) k t li lj Q := hR
      show wbX12_incidenceOf_0 (wpX12_incidenceOf k) k t li lj (fun r t => Q r t ∧ G t)
      unfold wbX12_incidenceOf_0 at hR ⊢
      exact qtX12_laysWays hk g hR (fun y1_0 h1 g1 => ih.2.1 _ _ _ g1 h1)
    · intro t li lj g hR
      have hR : wbX12_incidenceOf_1 (wpX12_incidenceOf k) k t li lj Q := hR
      show wbX12_incidenceOf_1 (wpX12_incidenceOf k) k t li lj (fun r t => Q r t ∧ G t)
      unfold wbX12_incidenceOf_1 at hR ⊢
      exact ⟨fun c1 => ⟨(hR.1 c1), g⟩, fun c2 => qtX12_isFaceThere hk g (hR.2 c2) (fun y3_0 y3_1 h3 g3 => ⟨fun c4 => ih.2.2 _ _ _ g3 (h3.1 c4), fun c5 => qtX12_signOf hk g3 (h3.2 c5) (fun y6_0 y6_1 h6 g6 => fun x7 e7 => ⟨(h6 x7 e7).1, fun x8 e8 => fun x9 e9 => ih.2.2 _ _ _ g6 (((h6 x7 e7).2 x8 e8) x9 e9)⟩)⟩)⟩
    · intro t li lj g hR
      have hR : wbX12_incidenceOf_2 (wpX12_incidenceOf k) k t li lj Q := hR
      show wbX12_incidenceOf_2 (wpX12_incidenceOf k) k t li lj (fun r t => Q r t ∧ G t)
      unfold wbX12_incidenceOf_2 at hR ⊢
      exact fun x1 e1 => fun x2 e2 => ih.2.1 _ _ _ g ((hR x1 e1) x2 e2)
theorem qgX12_incidenceOf {G : XT → Prop} {k : Nat} {t : XT} {a1 : Int32} {a2 : Int32} {Q : Int64 → XT → Prop} (hk : kpQ G) (g : G t) (hR : wqX12_incidenceOf k t a1 a2 Q) : wqX12_incidenceOf k t a1 a2 (fun r t => Q r t ∧ G t) := (qfX12_incidenceOf hk Q k).1 t _ _ g hR
theorem qtX12_incidenceOf {G : XT → Prop} {k : Nat} {t : XT} {a1 : Int32} {a2 : Int32} {Q Q' : Int64 → XT → Prop} (hk : kpQ G) (g : G t) (hR : wqX12_incidenceOf k t a1 a2 Q) (hQ : (∀ r t, Q r t → G t → Q' r t)) : wqX12_incidenceOf k t a1 a2 Q' := wmX12_incidenceOf (Nat.le_refl k) (fun r t h => hQ r t h.1 h.2) (qgX12_incidenceOf hk g hR)
set_option maxHeartbeats 4000000 in
set_option maxRecDepth 100000 in
theorem qfX12_incidence {G : XT → Prop} (hk : kpQ G) (Q : Int64 → XT → Prop) : ∀ k : Nat, (∀ (t : XT) (li : Nat → Int32) (lj : Nat → Int64), G t → wpX12_incidence k 0 t li lj Q → wpX12_incidence k 0 t li lj (fun r t => Q r t ∧ G t)) := by
  intro k
  induction k with
  | zero => exact fun _ _ _ _ hR => False.elim hR
  | succ k ih =>
    intro t li lj g hR
    have hR : wbX12_incidence_0 (wpX12_incidence k) k t li lj Q := hR
    show wbX12_incidence_0 (wpX12_incidence k) k t li lj (fun r t => Q r t ∧ G t)
    unfold wbX12_incidence_0 at hR ⊢
    exact qtX12_areEnds hk g hR (fun y1_0 y1_1 h1 g1 => ⟨fun c2 => ⟨(h1.1 c2), g1⟩, fun c3 => qtX12_incidenceOf hk g1 (h1.2 c3) (fun y4_0 y4_1 h4 g4 => ⟨h4, g4⟩)⟩)
theorem qgX12_incidence {G : XT → Prop} {k : Nat} {t : XT} {a1 : Int32} {a2 : Int32} {Q : Int64 → XT → Prop} (hk : kpQ G) (g : G t) (hR : wqX12_incidence k t a1 a2 Q) : wqX12_incidence k t a1 a2 (fun r t => Q r t ∧ G t) := (qfX12_incidence hk Q k) t _ _ g hR
theorem qtX12_incidence {G : XT → Prop} {k : Nat} {t : XT} {a1 : Int32} {a2 : Int32} {Q Q' : Int64 → XT → Prop} (hk : kpQ G) (g : G t) (hR : wqX12_incidence k t a1 a2 Q) (hQ : (∀ r t, Q r t → G t → Q' r t)) : wqX12_incidence k t a1 a2 Q' := wmX12_incidence (Nat.le_refl k) (fun r t h => hQ r t h.1 h.2) (qgX12_incidence hk g hR)
set_option maxHeartbeats 4000000 in
set_option maxRecDepth 100000 in
theorem qfX12_laysLink {G : XT → Prop} (hk : kpQ G) (Q : Int32 → XT → Prop) : ∀ k : Nat, (∀ (t : XT) (li : Nat → Int32) (lj : Nat → Int64), G t → wpX12_laysLink k 0 t li lj Q → wpX12_laysLink k 0 t li lj (fun r t => Q r t ∧ G t)) ∧ (∀ (t : XT) (li : Nat → Int32) (lj : Nat → Int64), G t → wpX12_laysLink k 1 t li lj Q → wpX12_laysLink k 1 t li lj (fun r t => Q r t ∧ G t)) ∧ (∀ (t : XT) (li : Nat → Int32) (lj : Nat → Int64), G t → wpX12_laysLink k 2 t li lj Q → wpX12_laysLink k 2 t li lj (fun r t => Q r t ∧ G t)) := by
  intro k
  induction k with
  | zero => exact ⟨fun _ _ _ _ hR => False.elim hR, fun _ _ _ _ hR => False.elim hR, fun _ _ _ _ hR => False.elim hR⟩
  | succ k ih =>
    refine ⟨?_, ?_, ?_⟩
    · intro t li lj g hR
      have hR : wbX12_laysLink_0 (wpX12_laysLink k) k t li lj Q := hR
      show wbX12_laysLink_0 (wpX12_laysLink k) k t li lj (fun r t => Q r t ∧ G t)
      unfold wbX12_laysLink_0 at hR ⊢
      exact ⟨hR.1, fun x1 e1 => ih.2.1 _ _ _ g (hR.2 x1 e1)⟩
    · intro t li lj g hR
      have hR : wbX12_laysLink_1 (wpX12_laysLink k) k t li lj Q := hR
      show wbX12_laysLink_1 (wpX12_laysLink k) k t li lj (fun r t => Q r t ∧ G t)
      unfold wbX12_laysLink_1 at hR ⊢
      exact ⟨fun c1 => qtX12_signOf hk g (hR.1 c1) (fun y2_0 y2_1 h2 g2 => fun x3 e3 => fun x4 e4 => fun x5 e5 => ⟨(((h2 x3 e3) x4 e4) x5 e5).1, fun x6 e6 => have g6 : G x6 := (by rw [e6]; exact hk.2.2.2 _ _ _ g2); ⟨((((h2 x3 e3) x4 e4) x5 e5).2 x6 e6), g6⟩⟩), fun c7 => ⟨fun c8 => ih.2.2 _ _ _ g ((hR.2 c7).1 c8), fun c9 => qtX12_isFaceThere hk g ((hR.2 c7).2 c9) (fun y10_0 y10_1 h10 g10 => ⟨fun c11 => ⟨(h10.1 c11).1, fun x12 e12 => fun x13 e13 => ⟨fun c14 => qtX12_signOf hk g10 ((((h10.1 c11).2 x12 e12) x13 e13).1 c14) (fun y15_0 y15_1 h15 g15 => fun x16 e16 => ⟨(h15 x16 e16).1, fun x17 e17 => fun x18 e18 => fun x19 e19 => ih.2.2 _ _ _ g15 ((((h15 x16 e16).2 x17 e17) x18 e18) x19 e19)⟩), fun c20 => ⟨((((h10.1 c11).2 x12 e12) x13 e13).2 c20), g10⟩⟩⟩, fun c21 => ih.2.2 _ _ _ g10 (h10.2 c21)⟩)⟩⟩
    · intro t li lj g hR
      have hR : wbX12_laysLink_2 (wpX12_laysLink k) k t li lj Q := hR
      show wbX12_laysLink_2 (wpX12_laysLink k) k t li lj (fun r t => Q r t ∧ G t)
      unfold wbX12_laysLink_2 at hR ⊢
      exact fun x1 e1 => ih.2.1 _ _ _ g (hR x1 e1)
theorem qgX12_laysLink {G : XT → Prop} {k : Nat} {t : XT} {a1 : Int32} {Q : Int32 → XT → Prop} (hk : kpQ G) (g : G t) (hR : wqX12_laysLink k t a1 Q) : wqX12_laysLink k t a1 (fun r t => Q r t ∧ G t) := (qfX12_laysLink hk Q k).1 t _ _ g hR
theorem qtX12_laysLink {G : XT → Prop} {k : Nat} {t : XT} {a1 : Int32} {Q Q' : Int32 → XT → Prop} (hk : kpQ G) (g : G t) (hR : wqX12_laysLink k t a1 Q) (hQ : (∀ r t, Q r t → G t → Q' r t)) : wqX12_laysLink k t a1 Q' := wmX12_laysLink (Nat.le_refl k) (fun r t h => hQ r t h.1 h.2) (qgX12_laysLink hk g hR)
set_option maxHeartbeats 4000000 in
set_option maxRecDepth 100000 in
theorem qfX12_chain {G : XT → Prop} (hk : kpQ G) (Q : Int64 → XT → Prop) : ∀ k : Nat, (∀ (t : XT) (li : Nat → Int32) (lj : Nat → Int64), G t → wpX12_chain k 0 t li lj Q → wpX12_chain k 0 t li lj (fun r t => Q r t ∧ G t)) ∧ (∀ (t : XT) (li : Nat → Int32) (lj : Nat → Int64), G t → wpX12_chain k 1 t li lj Q → wpX12_chain k 1 t li lj (fun r t => Q r t ∧ G t)) ∧ (∀ (t : XT) (li : Nat → Int32) (lj : Nat → Int64), G t → wpX12_chain k 2 t li lj Q → wpX12_chain k 2 t li lj (fun r t => Q r t ∧ G t)) ∧ (∀ (t : XT) (li : Nat → Int32) (lj : Nat → Int64), G t → wpX12_chain k 3 t li lj Q → wpX12_chain k 3 t li lj (fun r t => Q r t ∧ G t)) ∧ (∀ (t : XT) (li : Nat → Int32) (lj : Nat → Int64), G t → wpX12_chain k 4 t li lj Q → wpX12_chain k 4 t li lj (fun r t => Q r t ∧ G t)) ∧ (∀ (t : XT) (li : Nat → Int32) (lj : Nat → Int64), G t → wpX12_chain k 5 t li lj Q → wpX12_chain k 5 t li lj (fun r t => Q r t ∧ G t)) ∧ (∀ (t : XT) (li : Nat → Int32) (lj : Nat → Int64), G t → wpX12_chain k 6 t li lj Q → wpX12_chain k 6 t li lj (fun r t => Q r t ∧ G t)) ∧ (∀ (t : XT) (li : Nat → Int32) (lj : Nat → Int64), G t → wpX12_chain k 7 t li lj Q → wpX12_chain k 7 t li lj (fun r t => Q r t ∧ G t)) ∧ (∀ (t : XT) (li : Nat → Int32) (lj : Nat → Int64), G t → wpX12_chain k 8 t li lj Q → wpX12_chain k 8 t li lj (fun r t => Q r t ∧ G t)) ∧ (∀ (t : XT) (li : Nat → Int32) (lj : Nat → Int64), G t → wpX12_chain k 9 t li lj Q → wpX12_chain k 9 t li lj (fun r t => Q r t ∧ G t)) ∧ (∀ (t : XT) (li : Nat → Int32) (lj : Nat → Int64), G t → wpX12_chain k 10 t li lj Q → wpX12_chain k 10 t li lj (fun r t => Q r t ∧ G t)) ∧ (∀ (t : XT) (li : Nat → Int32) (lj : Nat → Int64), G t → wpX12_chain k 11 t li lj Q → wpX12_chain k 11 t li lj (fun r t => Q r t ∧ G t)) := by
  intro k
  induction k with
  | zero => exact ⟨fun _ _ _ _ hR => False.elim hR, fun _ _ _ _ hR => False.elim hR, fun _ _ _ _ hR => False.elim hR, fun _ _ _ _ hR => False.elim hR, fun _ _ _ _ hR => False.elim hR, fun _ _ _ _ hR => False.elim hR, fun _ _ _ _ hR => False.elim hR, fun _ _ _ _ hR => False.elim hR, fun _ _ _ _ hR => False.elim hR, fun _ _ _ _ hR => False.elim hR, fun _ _ _ _ hR => False.elim hR, fun _ _ _ _ hR => False.elim hR⟩
  | succ k ih =>
    refine ⟨?_, ?_, ?_, ?_, ?_, ?_, ?_, ?_, ?_, ?_, ?_, ?_⟩
    · intro t li lj g hR
      have hR : wbX12_chain_0 (wpX12_chain k) k t li lj Q := hR
      show wbX12_chain_0 (wpX12_chain k) k t li lj (fun r t => Q r t ∧ G t)
      unfold wbX12_chain_0 at hR ⊢
      exact qtX12_isCritical hk g hR (fun y1_0 y1_1 h1 g1 => ⟨fun c2 => ih.2.1 _ _ _ g1 (h1.1 c2), fun c3 => qtX12_isThere hk g1 (h1.2 c3) (fun y4_0 y4_1 h4 g4 => ⟨fun c5 => ih.2.1 _ _ _ g4 (h4.1 c5), fun c6 => qtX12_dimOf hk g4 (h4.2 c6) (fun y7_0 y7_1 h7 g7 => qtX12_dimOf hk g7 h7 (fun y8_0 y8_1 h8 g8 => ⟨fun c9 => ih.2.2.1 _ _ _ g8 (h8.1 c9), fun c10 => ih.2.1 _ _ _ g8 (h8.2 c10)⟩))⟩)⟩)
    · intro t li lj g hR
      have hR : wbX12_chain_1 (wpX12_chain k) k t li lj Q := hR
      show wbX12_chain_1 (wpX12_chain k) k t li lj (fun r t => Q r t ∧ G t)
      unfold wbX12_chain_1 at hR ⊢
      exact ⟨hR, g⟩
    · intro t li lj g hR
      have hR : wbX12_chain_2 (wpX12_chain k) k t li lj Q := hR
      show wbX12_chain_2 (wpX12_chain k) k t li lj (fun r t => Q r t ∧ G t)
      unfold wbX12_chain_2 at hR ⊢
      exact ⟨fun c1 => ih.2.2.2.2.2.2.2.1 _ _ _ g (hR.1 c1), fun c2 => qtX12_isThere hk g (hR.2 c2) (fun y3_0 y3_1 h3 g3 => ⟨fun c4 => ih.2.2.2.1 _ _ _ g3 (h3.1 c4), fun c5 => ⟨(h3.2 c5).1, fun x6 e6 => ⟨fun c7 => ih.2.2.2.1 _ _ _ g3 (((h3.2 c5).2 x6 e6).1 c7), fun c8 => qtX12_isLower hk g3 (((h3.2 c5).2 x6 e6).2 c8) (fun y9_0 y9_1 h9 g9 => ⟨fun c10 => ih.2.2.2.1 _ _ _ g9 (h9.1 c10), fun c11 => qtX12_dimOf hk g9 (h9.2 c11) (fun y12_0 y12_1 h12 g12 => qtX12_dimOf hk g12 h12 (fun y13_0 y13_1 h13 g13 => ⟨fun c14 => ih.2.2.2.1 _ _ _ g13 (h13.1 c14), fun c15 => ih.2.2.2.2.1 _ _ _ g13 (h13.2 c15)⟩))⟩)⟩⟩⟩)⟩
    · intro t li lj g hR
      have hR : wbX12_chain_3 (wpX12_chain k) k t li lj Q := hR
      show wbX12_chain_3 (wpX12_chain k) k t li lj (fun r t => Q r t ∧ G t)
      unfold wbX12_chain_3 at hR ⊢
      exact ih.2.2.2.2.1 _ _ _ g hR
    · intro t li lj g hR
      have hR : wbX12_chain_4 (wpX12_chain k) k t li lj Q := hR
      show wbX12_chain_4 (wpX12_chain k) k t li lj (fun r t => Q r t ∧ G t)
      unfold wbX12_chain_4 at hR ⊢
      exact ⟨fun c1 => ⟨fun c2 => ih.2.2.2.2.2.1 _ _ _ g ((hR.1 c1).1 c2), fun c3 => ih.2.2.2.2.2.1 _ _ _ g ((hR.1 c1).2 c3)⟩, fun c4 => ih.2.2.2.2.2.2.1 _ _ _ g (hR.2 c4)⟩
    · intro t li lj g hR
      have hR : wbX12_chain_5 (wpX12_chain k) k t li lj Q := hR
      show wbX12_chain_5 (wpX12_chain k) k t li lj (fun r t => Q r t ∧ G t)
      unfold wbX12_chain_5 at hR ⊢
      exact wcX12_truth hR (fun y1_0 h1 => fun x2 e2 => ih.2.2.2.2.2.2.1 _ _ _ g (h1 x2 e2))
    · intro t li lj g hR
      have hR : wbX12_chain_6 (wpX12_chain k) k t li lj Q := hR
      show wbX12_chain_6 (wpX12_chain k) k t li lj (fun r t => Q r t ∧ G t)
      unfold wbX12_chain_6 at hR ⊢
      exact ⟨hR.1, fun x1 e1 => have g1 : G x1 := (by rw [e1]; exact hk.2.2.2 _ _ _ g); fun x2 e2 => ih.2.2.1 _ _ _ g1 ((hR.2 x1 e1) x2 e2)⟩
    · intro t li lj g hR
      have hR : wbX12_chain_7 (wpX12_chain k) k t li lj Q := hR
      show wbX12_chain_7 (wpX12_chain k) k t li lj (fun r t => Q r t ∧ G t)
      unfold wbX12_chain_7 at hR ⊢
      exact ⟨fun c1 => ⟨(hR.1 c1).1, fun x2 e2 => ⟨((hR.1 c1).2 x2 e2), g⟩⟩, fun c3 => ih.2.2.2.2.2.2.2.2.1 _ _ _ g (hR.2 c3)⟩
    · intro t li lj g hR
      have hR : wbX12_chain_8 (wpX12_chain k) k t li lj Q := hR
      show wbX12_chain_8 (wpX12_chain k) k t li lj (fun r t => Q r t ∧ G t)
      unfold wbX12_chain_8 at hR ⊢
      exact ⟨fun c1 => ih.2.2.2.2.2.2.2.1 _ _ _ g (hR.1 c1), fun c2 => ⟨(hR.2 c2).1, fun x3 e3 => fun x4 e4 => ⟨fun c5 => ih.2.2.2.2.2.2.2.2.2.2.2 _ _ _ g ((((hR.2 c2).2 x3 e3) x4 e4).1 c5), fun c6 => qtX12_laysLink hk g ((((hR.2 c2).2 x3 e3) x4 e4).2 c6) (fun y7_0 y7_1 h7 g7 => ⟨fun c8 => ih.2.2.2.2.2.2.2.2.2.1 _ _ _ g7 (h7.1 c8), fun c9 => ⟨fun c10 => ih.2.2.2.2.2.2.2.2.2.2.1 _ _ _ g7 ((h7.2 c9).1 c10), fun c11 => ih.2.2.2.2.2.2.2.2.2.1 _ _ _ g7 ((h7.2 c9).2 c11)⟩⟩)⟩⟩⟩
    · intro t li lj g hR
      have hR : wbX12_chain_9 (wpX12_chain k) k t li lj Q := hR
      show wbX12_chain_9 (wpX12_chain k) k t li lj (fun r t => Q r t ∧ G t)
      unfold wbX12_chain_9 at hR ⊢
      exact ih.2.2.2.2.2.2.2.2.2.2.1 _ _ _ g hR
    · intro t li lj g hR
      have hR : wbX12_chain_10 (wpX12_chain k) k t li lj Q := hR
      show wbX12_chain_10 (wpX12_chain k) k t li lj (fun r t => Q r t ∧ G t)
      unfold wbX12_chain_10 at hR ⊢
      exact ih.2.2.2.2.2.2.2.2.2.2.2 _ _ _ g hR
    · intro t li lj g hR
      have hR : wbX12_chain_11 (wpX12_chain k) k t li lj Q := hR
      show wbX12_chain_11 (wpX12_chain k) k t li lj (fun r t => Q r t ∧ G t)
      unfold wbX12_chain_11 at hR ⊢
      exact fun x1 e1 => ih.2.2.2.2.2.2.2.2.1 _ _ _ g (hR x1 e1)
theorem qgX12_chain {G : XT → Prop} {k : Nat} {t : XT} {a1 : Int32} {a2 : Int32} {Q : Int64 → XT → Prop} (hk : kpQ G) (g : G t) (hR : wqX12_chain k t a1 a2 Q) : wqX12_chain k t a1 a2 (fun r t => Q r t ∧ G t) := (qfX12_chain hk Q k).1 t _ _ g hR
theorem qtX12_chain {G : XT → Prop} {k : Nat} {t : XT} {a1 : Int32} {a2 : Int32} {Q Q' : Int64 → XT → Prop} (hk : kpQ G) (g : G t) (hR : wqX12_chain k t a1 a2 Q) (hQ : (∀ r t, Q r t → G t → Q' r t)) : wqX12_chain k t a1 a2 Q' := wmX12_chain (Nat.le_refl k) (fun r t h => hQ r t h.1 h.2) (qgX12_chain hk g hR)
set_option maxHeartbeats 4000000 in
set_option maxRecDepth 100000 in
theorem qfX12_root {G : XT → Prop} (hk : kpQ G) (Q : Int32 → XT → Prop) : ∀ k : Nat, (∀ (t : XT) (li : Nat → Int32) (lj : Nat → Int64), G t → wpX12_root k 0 t li lj Q → wpX12_root k 0 t li lj (fun r t => Q r t ∧ G t)) ∧ (∀ (t : XT) (li : Nat → Int32) (lj : Nat → Int64), G t → wpX12_root k 1 t li lj Q → wpX12_root k 1 t li lj (fun r t => Q r t ∧ G t)) ∧ (∀ (t : XT) (li : Nat → Int32) (lj : Nat → Int64), G t → wpX12_root k 2 t li lj Q → wpX12_root k 2 t li lj (fun r t => Q r t ∧ G t)) := by
  intro k
  induction k with
  | zero => exact ⟨fun _ _ _ _ hR => False.elim hR, fun _ _ _ _ hR => False.elim hR, fun _ _ _ _ hR => False.elim hR⟩
  | succ k ih =>
    refine ⟨?_, ?_, ?_⟩
    · intro t li lj g hR
      have hR : wbX12_root_0 (wpX12_root k) k t li lj Q := hR
      show wbX12_root_0 (wpX12_root k) k t li lj (fun r t => Q r t ∧ G t)
      unfold wbX12_root_0 at hR ⊢
      exact qtX12_isThere hk g hR (fun y1_0 y1_1 h1 g1 => ⟨fun c2 => ih.2.1 _ _ _ g1 (h1.1 c2), fun c3 => qtX12_dimOf hk g1 (h1.2 c3) (fun y4_0 y4_1 h4 g4 => ⟨fun c5 => ih.2.1 _ _ _ g4 (h4.1 c5), fun c6 => wcX12_in (h4.2 c6) (fun y7_0 h7 => ⟨fun c8 => ih.2.2 _ _ _ g4 (h7.1 c8), fun c9 => ih.2.1 _ _ _ g4 (h7.2 c9)⟩)⟩)⟩)
    · intro t li lj g hR
      have hR : wbX12_root_1 (wpX12_root k) k t li lj Q := hR
      show wbX12_root_1 (wpX12_root k) k t li lj (fun r t => Q r t ∧ G t)
      unfold wbX12_root_1 at hR ⊢
      exact ⟨hR, g⟩
    · intro t li lj g hR
      have hR : wbX12_root_2 (wpX12_root k) k t li lj Q := hR
      show wbX12_root_2 (wpX12_root k) k t li lj (fun r t => Q r t ∧ G t)
      unfold wbX12_root_2 at hR ⊢
      exact ⟨hR.1, fun x1 e1 => ⟨fun c2 => ⟨fun c3 => ⟨(((hR.2 x1 e1).1 c2).1 c3), g⟩, fun c4 => ⟨(((hR.2 x1 e1).1 c2).2 c4), g⟩⟩, fun c5 => ⟨((hR.2 x1 e1).2 c5).1, fun x6 e6 => ⟨(((hR.2 x1 e1).2 c5).2 x6 e6).1, fun x7 e7 => ⟨((((hR.2 x1 e1).2 c5).2 x6 e6).2 x7 e7).1, fun x8 e8 => fun x9 e9 => fun x10 e10 => ⟨(((((((hR.2 x1 e1).2 c5).2 x6 e6).2 x7 e7).2 x8 e8) x9 e9) x10 e10).1, fun x11 e11 => fun x12 e12 => ih.2.2 _ _ _ g (((((((((hR.2 x1 e1).2 c5).2 x6 e6).2 x7 e7).2 x8 e8) x9 e9) x10 e10).2 x11 e11) x12 e12)⟩⟩⟩⟩⟩⟩
theorem qgX12_root {G : XT → Prop} {k : Nat} {t : XT} {a1 : Int32} {a2 : Int32} {Q : Int32 → XT → Prop} (hk : kpQ G) (g : G t) (hR : wqX12_root k t a1 a2 Q) : wqX12_root k t a1 a2 (fun r t => Q r t ∧ G t) := (qfX12_root hk Q k).1 t _ _ g hR
theorem qtX12_root {G : XT → Prop} {k : Nat} {t : XT} {a1 : Int32} {a2 : Int32} {Q Q' : Int32 → XT → Prop} (hk : kpQ G) (g : G t) (hR : wqX12_root k t a1 a2 Q) (hQ : (∀ r t, Q r t → G t → Q' r t)) : wqX12_root k t a1 a2 Q' := wmX12_root (Nat.le_refl k) (fun r t h => hQ r t h.1 h.2) (qgX12_root hk g hR)
set_option maxHeartbeats 4000000 in
set_option maxRecDepth 100000 in
theorem qfX12_laysReach {G : XT → Prop} (hk : kpQ G) (Q : Int32 → XT → Prop) : ∀ k : Nat, (∀ (t : XT) (li : Nat → Int32) (lj : Nat → Int64), G t → wpX12_laysReach k 0 t li lj Q → wpX12_laysReach k 0 t li lj (fun r t => Q r t ∧ G t)) ∧ (∀ (t : XT) (li : Nat → Int32) (lj : Nat → Int64), G t → wpX12_laysReach k 1 t li lj Q → wpX12_laysReach k 1 t li lj (fun r t => Q r t ∧ G t)) ∧ (∀ (t : XT) (li : Nat → Int32) (lj : Nat → Int64), G t → wpX12_laysReach k 2 t li lj Q → wpX12_laysReach k 2 t li lj (fun r t => Q r t ∧ G t)) := by
  intro k
  induction k with
  | zero => exact ⟨fun _ _ _ _ hR => False.elim hR, fun _ _ _ _ hR => False.elim hR, fun _ _ _ _ hR => False.elim hR⟩
  | succ k ih =>
    refine ⟨?_, ?_, ?_⟩
    · intro t li lj g hR
      have hR : wbX12_laysReach_0 (wpX12_laysReach k) k t li lj Q := hR
      show wbX12_laysReach_0 (wpX12_laysReach k) k t li lj (fun r t => Q r t ∧ G t)
      unfold wbX12_laysReach_0 at hR ⊢
      exact qtX12_isFaceThere hk g hR (fun y1_0 y1_1 h1 g1 => wcX12_truth h1 (fun y2_0 h2 => fun x3 e3 => ih.2.1 _ _ _ g1 (h2 x3 e3)))
    · intro t li lj g hR
      have hR : wbX12_laysReach_1 (wpX12_laysReach k) k t li lj Q := hR
      show wbX12_laysReach_1 (wpX12_laysReach k) k t li lj (fun r t => Q r t ∧ G t)
      unfold wbX12_laysReach_1 at hR ⊢
      exact ⟨fun c1 => ⟨(hR.1 c1).1, fun x2 e2 => have g2 : G x2 := (by rw [e2]; exact hk.2.2.2 _ _ _ g); ⟨((hR.1 c1).2 x2 e2), g2⟩⟩, fun c3 => ⟨fun c4 => ih.2.2 _ _ _ g ((hR.2 c3).1 c4), fun c5 => qtX12_isThere hk g ((hR.2 c3).2 c5) (fun y6_0 y6_1 h6 g6 => ⟨fun c7 => ih.2.2 _ _ _ g6 (h6.1 c7), fun c8 => qtX12_isLower hk g6 (h6.2 c8) (fun y9_0 y9_1 h9 g9 => ⟨fun c10 => ih.2.2 _ _ _ g9 (h9.1 c10), fun c11 => qtX12_dimOf hk g9 (h9.2 c11) (fun y12_0 y12_1 h12 g12 => qtX12_dimOf hk g12 h12 (fun y13_0 y13_1 h13 g13 => ⟨fun c14 => ih.2.2 _ _ _ g13 (h13.1 c14), fun c15 => ⟨(h13.2 c15).1, fun x16 e16 => qtX12_isFaceThere hk g13 ((h13.2 c15).2 x16 e16) (fun y17_0 y17_1 h17 g17 => ⟨fun c18 => ⟨(h17.1 c18).1, fun x19 e19 => fun x20 e20 => ⟨fun c21 => ⟨((((h17.1 c18).2 x19 e19) x20 e20).1 c21).1, fun x22 e22 => fun x23 e23 => ih.2.2 _ _ _ g17 ((((((h17.1 c18).2 x19 e19) x20 e20).1 c21).2 x22 e22) x23 e23)⟩, fun c24 => ⟨((((h17.1 c18).2 x19 e19) x20 e20).2 c24), g17⟩⟩⟩, fun c25 => ih.2.2 _ _ _ g17 (h17.2 c25)⟩)⟩⟩))⟩)⟩)⟩⟩
    · intro t li lj g hR
      have hR : wbX12_laysReach_2 (wpX12_laysReach k) k t li lj Q := hR
      show wbX12_laysReach_2 (wpX12_laysReach k) k t li lj (fun r t => Q r t ∧ G t)
      unfold wbX12_laysReach_2 at hR ⊢
      exact fun x1 e1 => ih.2.1 _ _ _ g (hR x1 e1)
theorem qgX12_laysReach {G : XT → Prop} {k : Nat} {t : XT} {a1 : Int32} {a2 : Int32} {Q : Int32 → XT → Prop} (hk : kpQ G) (g : G t) (hR : wqX12_laysReach k t a1 a2 Q) : wqX12_laysReach k t a1 a2 (fun r t => Q r t ∧ G t) := (qfX12_laysReach hk Q k).1 t _ _ g hR
theorem qtX12_laysReach {G : XT → Prop} {k : Nat} {t : XT} {a1 : Int32} {a2 : Int32} {Q Q' : Int32 → XT → Prop} (hk : kpQ G) (g : G t) (hR : wqX12_laysReach k t a1 a2 Q) (hQ : (∀ r t, Q r t → G t → Q' r t)) : wqX12_laysReach k t a1 a2 Q' := wmX12_laysReach (Nat.le_refl k) (fun r t h => hQ r t h.1 h.2) (qgX12_laysReach hk g hR)
set_option maxHeartbeats 4000000 in
set_option maxRecDepth 100000 in
theorem qfX12_through {G : XT → Prop} (hk : kpQ G) (Q : Int64 → XT → Prop) : ∀ k : Nat, (∀ (t : XT) (li : Nat → Int32) (lj : Nat → Int64), G t → wpX12_through k 0 t li lj Q → wpX12_through k 0 t li lj (fun r t => Q r t ∧ G t)) ∧ (∀ (t : XT) (li : Nat → Int32) (lj : Nat → Int64), G t → wpX12_through k 1 t li lj Q → wpX12_through k 1 t li lj (fun r t => Q r t ∧ G t)) ∧ (∀ (t : XT) (li : Nat → Int32) (lj : Nat → Int64), G t → wpX12_through k 2 t li lj Q → wpX12_through k 2 t li lj (fun r t => Q r t ∧ G t)) ∧ (∀ (t : XT) (li : Nat → Int32) (lj : Nat → Int64), G t → wpX12_through k 3 t li lj Q → wpX12_through k 3 t li lj (fun r t => Q r t ∧ G t)) ∧ (∀ (t : XT) (li : Nat → Int32) (lj : Nat → Int64), G t → wpX12_through k 4 t li lj Q → wpX12_through k 4 t li lj (fun r t => Q r t ∧ G t)) ∧ (∀ (t : XT) (li : Nat → Int32) (lj : Nat → Int64), G t → wpX12_through k 5 t li lj Q → wpX12_through k 5 t li lj (fun r t => Q r t ∧ G t)) ∧ (∀ (t : XT) (li : Nat → Int32) (lj : Nat → Int64), G t → wpX12_through k 6 t li lj Q → wpX12_through k 6 t li lj (fun r t => Q r t ∧ G t)) ∧ (∀ (t : XT) (li : Nat → Int32) (lj : Nat → Int64), G t → wpX12_through k 7 t li lj Q → wpX12_through k 7 t li lj (fun r t => Q r t ∧ G t)) ∧ (∀ (t : XT) (li : Nat → Int32) (lj : Nat → Int64), G t → wpX12_through k 8 t li lj Q → wpX12_through k 8 t li lj (fun r t => Q r t ∧ G t)) := by
  intro k
  induction k with
  | zero => exact ⟨fun _ _ _ _ hR => False.elim hR, fun _ _ _ _ hR => False.elim hR, fun _ _ _ _ hR => False.elim hR, fun _ _ _ _ hR => False.elim hR, fun _ _ _ _ hR => False.elim hR, fun _ _ _ _ hR => False.elim hR, fun _ _ _ _ hR => False.elim hR, fun _ _ _ _ hR => False.elim hR, fun _ _ _ _ hR => False.elim hR⟩
  | succ k ih =>
    refine ⟨?_, ?_, ?_, ?_, ?_, ?_, ?_, ?_, ?_⟩
    · intro t li lj g hR
      have hR : wbX12_through_0 (wpX12_through k) k t li lj Q := hR
      show wbX12_through_0 (wpX12_through k) k t li lj (fun r t => Q r t ∧ G t)
      unfold wbX12_through_0 at hR ⊢
      exact qtX12_areEnds hk g hR (fun y1_0 y1_1 h1 g1 => ⟨fun c2 => ih.2.1 _ _ _ g1 (h1.1 c2), fun c3 => qtX12_isThere hk g1 (h1.2 c3) (fun y4_0 y4_1 h4 g4 => ⟨fun c5 => qtX12_waysFrom hk g4 (h4.1 c5) (fun y6_0 y6_1 h6 g6 => ⟨fun c7 => ih.2.2.1 _ _ _ g6 (h6.1 c7), fun c8 => ⟨fun c9 => qtX12_dimOf hk g6 ((h6.2 c8).1 c9) (fun y10_0 y10_1 h10 g10 => qtX12_dimOf hk g10 h10 (fun y11_0 y11_1 h11 g11 => ⟨fun c12 => ⟨(h11.1 c12).1, fun x13 e13 => ih.2.2.2.1 _ _ _ g11 ((h11.1 c12).2 x13 e13)⟩, fun c14 => ih.2.2.2.1 _ _ _ g11 (h11.2 c14)⟩)), fun c15 => ih.2.2.1 _ _ _ g6 ((h6.2 c8).2 c15)⟩⟩), fun c16 => ih.2.1 _ _ _ g4 (h4.2 c16)⟩)⟩)
    · intro t li lj g hR
      have hR : wbX12_through_1 (wpX12_through k) k t li lj Q := hR
      show wbX12_through_1 (wpX12_through k) k t li lj (fun r t => Q r t ∧ G t)
      unfold wbX12_through_1 at hR ⊢
      exact ⟨hR, g⟩
    · intro t li lj g hR
      have hR : wbX12_through_2 (wpX12_through k) k t li lj Q := hR
      show wbX12_through_2 (wpX12_through k) k t li lj (fun r t => Q r t ∧ G t)
      unfold wbX12_through_2 at hR ⊢
      exact ⟨hR, g⟩
    · intro t li lj g hR
      have hR : wbX12_through_3 (wpX12_through k) k t li lj Q := hR
      show wbX12_through_3 (wpX12_through k) k t li lj (fun r t => Q r t ∧ G t)
      unfold wbX12_through_3 at hR ⊢
      exact ⟨fun c1 => ih.2.2.2.2.1 _ _ _ g (hR.1 c1), fun c2 => qtX12_dimOf hk g (hR.2 c2) (fun y3_0 y3_1 h3 g3 => qtX12_dimOf hk g3 h3 (fun y4_0 y4_1 h4 g4 => ⟨fun c5 => ih.2.2.2.2.1 _ _ _ g4 (h4.1 c5), fun c6 => qtX12_isLower hk g4 (h4.2 c6) (fun y7_0 y7_1 h7 g7 => ⟨fun c8 => ih.2.2.2.2.2.1 _ _ _ g7 (h7.1 c8), fun c9 => ih.2.2.2.2.1 _ _ _ g7 (h7.2 c9)⟩)⟩))⟩
    · intro t li lj g hR
      have hR : wbX12_through_4 (wpX12_through k) k t li lj Q := hR
      show wbX12_through_4 (wpX12_through k) k t li lj (fun r t => Q r t ∧ G t)
      unfold wbX12_through_4 at hR ⊢
      exact ⟨hR, g⟩
    · intro t li lj g hR
      have hR : wbX12_through_5 (wpX12_through k) k t li lj Q := hR
      show wbX12_through_5 (wpX12_through k) k t li lj (fun r t => Q r t ∧ G t)
      unfold wbX12_through_5 at hR ⊢
      exact ⟨fun c1 => ih.2.2.2.2.2.2.1 _ _ _ g (hR.1 c1), fun c2 => ⟨(hR.2 c2).1, fun x3 e3 => have g3 : G x3 := (by rw [e3]; exact hk.2.2.2 _ _ _ g); fun x4 e4 => ih.2.2.2.2.2.1 _ _ _ g3 (((hR.2 c2).2 x3 e3) x4 e4)⟩⟩
    · intro t li lj g hR
      have hR : wbX12_through_6 (wpX12_through k) k t li lj Q := hR
      show wbX12_through_6 (wpX12_through k) k t li lj (fun r t => Q r t ∧ G t)
      unfold wbX12_through_6 at hR ⊢
      exact ⟨hR.1, fun x1 e1 => fun x2 e2 => ⟨fun c3 => ⟨(((hR.2 x1 e1) x2 e2).1 c3).1, fun x4 e4 => ⟨((((hR.2 x1 e1) x2 e2).1 c3).2 x4 e4).1, fun x5 e5 => fun x6 e6 => ⟨((((((hR.2 x1 e1) x2 e2).1 c3).2 x4 e4).2 x5 e5) x6 e6), g⟩⟩⟩, fun c7 => ih.2.2.2.2.2.2.2.1 _ _ _ g (((hR.2 x1 e1) x2 e2).2 c7)⟩⟩
    · intro t li lj g hR
      have hR : wbX12_through_7 (wpX12_through k) k t li lj Q := hR
      show wbX12_through_7 (wpX12_through k) k t li lj (fun r t => Q r t ∧ G t)
      unfold wbX12_through_7 at hR ⊢
      exact ⟨fun c1 => ih.2.2.2.2.2.2.1 _ _ _ g (hR.1 c1), fun c2 => ⟨(hR.2 c2).1, fun x3 e3 => fun x4 e4 => ⟨fun c5 => ih.2.2.2.2.2.2.2.2 _ _ _ g ((((hR.2 c2).2 x3 e3) x4 e4).1 c5), fun c6 => qtX12_isThere hk g ((((hR.2 c2).2 x3 e3) x4 e4).2 c6) (fun y7_0 y7_1 h7 g7 => ⟨fun c8 => ih.2.2.2.2.2.2.2.2 _ _ _ g7 (h7.1 c8), fun c9 => qtX12_dimOf hk g7 (h7.2 c9) (fun y10_0 y10_1 h10 g10 => qtX12_dimOf hk g10 h10 (fun y11_0 y11_1 h11 g11 => ⟨fun c12 => ih.2.2.2.2.2.2.2.2 _ _ _ g11 (h11.1 c12), fun c13 => qtX12_laysReach hk g11 (h11.2 c13) (fun y14_0 y14_1 h14 g14 => ih.2.2.2.2.2.2.2.2 _ _ _ g14 h14)⟩))⟩)⟩⟩⟩
    · intro t li lj g hR
      have hR : wbX12_through_8 (wpX12_through k) k t li lj Q := hR
      show wbX12_through_8 (wpX12_through k) k t li lj (fun r t => Q r t ∧ G t)
      unfold wbX12_through_8 at hR ⊢
      exact fun x1 e1 => ih.2.2.2.2.2.2.2.1 _ _ _ g (hR x1 e1)
theorem qgX12_through {G : XT → Prop} {k : Nat} {t : XT} {a1 : Int32} {a2 : Int32} {a3 : Int32} {Q : Int64 → XT → Prop} (hk : kpQ G) (g : G t) (hR : wqX12_through k t a1 a2 a3 Q) : wqX12_through k t a1 a2 a3 (fun r t => Q r t ∧ G t) := (qfX12_through hk Q k).1 t _ _ g hR
theorem qtX12_through {G : XT → Prop} {k : Nat} {t : XT} {a1 : Int32} {a2 : Int32} {a3 : Int32} {Q Q' : Int64 → XT → Prop} (hk : kpQ G) (g : G t) (hR : wqX12_through k t a1 a2 a3 Q) (hQ : (∀ r t, Q r t → G t → Q' r t)) : wqX12_through k t a1 a2 a3 Q' := wmX12_through (Nat.le_refl k) (fun r t h => hQ r t h.1 h.2) (qgX12_through hk g hR)
