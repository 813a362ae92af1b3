set_option maxHeartbeats 4000000 in
set_option maxRecDepth 100000 in
theorem zfX6_below {G : XT → Prop} (hk : kpP G) (Q : Int64 → XT → Prop) : ∀ k : Nat, (∀ (t : XT) (li : Nat → Int32) (lj : Nat → Int64), G t → wpX6_below k 0 t li lj Q → wpX6_below k 0 t li lj (fun r t => Q r t ∧ G t)) := by
  intro k
  induction k with
  | zero => exact fun _ _ _ _ hR => False.elim hR
  | succ k ih =>
    intro t li lj g hR
    have hR : wbX6_below_0 (wpX6_below k) k t li lj Q := hR
    show wbX6_below_0 (wpX6_below k) k t li lj (fun r t => Q r t ∧ G t)
    unfold wbX6_below_0 at hR ⊢
    exact ⟨hR.1, fun x1 e1 => ⟨fun c2 => ⟨((hR.2 x1 e1).1 c2).1, fun x3 e3 => ⟨(((hR.2 x1 e1).1 c2).2 x3 e3).1, fun x4 e4 => fun x5 e5 => fun x6 e6 => fun x7 e7 => ⟨(((((((hR.2 x1 e1).1 c2).2 x3 e3).2 x4 e4) x5 e5) x6 e6) x7 e7), g⟩⟩⟩, fun c8 => ⟨((hR.2 x1 e1).2 c8).1, fun x9 e9 => ⟨(((hR.2 x1 e1).2 c8).2 x9 e9), g⟩⟩⟩⟩
theorem zgX6_below {G : XT → Prop} {k : Nat} {t : XT} {a1 : Int32} {Q : Int64 → XT → Prop} (hk : kpP G) (g : G t) (hR : wqX6_below k t a1 Q) : wqX6_below k t a1 (fun r t => Q r t ∧ G t) := (zfX6_below hk Q k) t _ _ g hR
theorem ztX6_below {G : XT → Prop} {k : Nat} {t : XT} {a1 : Int32} {Q Q' : Int64 → XT → Prop} (hk : kpP G) (g : G t) (hR : wqX6_below k t a1 Q) (hQ : (∀ r t, Q r t → G t → Q' r t)) : wqX6_below k t a1 Q' := wmX6_below (Nat.le_refl k) (fun r t h => hQ r t h.1 h.2) (zgX6_below hk g hR)
set_option maxHeartbeats 4000000 in
set_option maxRecDepth 100000 in
theorem zfX1_waysDown {G : XT → Prop} (hk : kpP G) (Q : Int64 → XT → Prop) : ∀ k : Nat, (∀ (t : XT) (li : Nat → Int32) (lj : Nat → Int64), G t → wpX1_waysDown k 0 t li lj Q → wpX1_waysDown k 0 t li lj (fun r t => Q r t ∧ G t)) ∧ (∀ (t : XT) (li : Nat → Int32) (lj : Nat → Int64), G t → wpX1_waysDown k 1 t li lj Q → wpX1_waysDown k 1 t li lj (fun r t => Q r t ∧ G t)) ∧ (∀ (t : XT) (li : Nat → Int32) (lj : Nat → Int64), G t → wpX1_waysDown k 2 t li lj Q → wpX1_waysDown k 2 t li lj (fun r t => Q r t ∧ G t)) := by
  intro k
  induction k with
  | zero => exact ⟨fun _ _ _ _ hR => False.elim hR, fun _ _ _ _ hR => False.elim hR, fun _ _ _ _ hR => False.elim hR⟩
  | succ k ih =>
    refine ⟨?_, ?_, ?_⟩
    · intro t li lj g hR
      have hR : wbX1_waysDown_0 (wpX1_waysDown k) k t li lj Q := hR
      show wbX1_waysDown_0 (wpX1_waysDown k) k t li lj (fun r t => Q r t ∧ G t)
      unfold wbX1_waysDown_0 at hR ⊢
      exact ztX6_below hk g hR (fun y1_0 y1_1 h1 g1 => ih.2.1 _ _ _ g1 h1)
    · intro t li lj g hR
      have hR : wbX1_waysDown_1 (wpX1_waysDown k) k t li lj Q := hR
      show wbX1_waysDown_1 (wpX1_waysDown k) k t li lj (fun r t => Q r t ∧ G t)
      unfold wbX1_waysDown_1 at hR ⊢
      exact ⟨fun c1 => ih.2.2 _ _ _ g (hR.1 c1), fun c2 => fun x3 e3 => ⟨fun c4 => ih.2.2 _ _ _ g (((hR.2 c2) x3 e3).1 c4), fun c5 => wcX11_lowest (((hR.2 c2) x3 e3).2 c5) (fun y6_0 h6 => ⟨h6.1, fun x7 e7 => fun x8 e8 => fun x9 e9 => fun x10 e10 => fun x11 e11 => ih.2.1 _ _ _ g (((((h6.2 x7 e7) x8 e8) x9 e9) x10 e10) x11 e11)⟩)⟩⟩
    · intro t li lj g hR
      have hR : wbX1_waysDown_2 (wpX1_waysDown k) k t li lj Q := hR
      show wbX1_waysDown_2 (wpX1_waysDown k) k t li lj (fun r t => Q r t ∧ G t)
      unfold wbX1_waysDown_2 at hR ⊢
      exact ⟨hR, g⟩
theorem zgX1_waysDown {G : XT → Prop} {k : Nat} {t : XT} {a1 : Int32} {Q : Int64 → XT → Prop} (hk : kpP G) (g : G t) (hR : wqX1_waysDown k t a1 Q) : wqX1_waysDown k t a1 (fun r t => Q r t ∧ G t) := (zfX1_waysDown hk Q k).1 t _ _ g hR
theorem ztX1_waysDown {G : XT → Prop} {k : Nat} {t : XT} {a1 : Int32} {Q Q' : Int64 → XT → Prop} (hk : kpP G) (g : G t) (hR : wqX1_waysDown k t a1 Q) (hQ : (∀ r t, Q r t → G t → Q' r t)) : wqX1_waysDown k t a1 Q' := wmX1_waysDown (Nat.le_refl k) (fun r t h => hQ r t h.1 h.2) (zgX1_waysDown hk g hR)
set_option maxHeartbeats 4000000 in
set_option maxRecDepth 100000 in
theorem zfX1_countWays {G : XT → Prop} (hk : kpP G) (Q : Int64 → XT → Prop) : ∀ k : Nat, (∀ (t : XT) (li : Nat → Int32) (lj : Nat → Int64), G t → wpX1_countWays k 0 t li lj Q → wpX1_countWays k 0 t li lj (fun r t => Q r t ∧ G t)) ∧ (∀ (t : XT) (li : Nat → Int32) (lj : Nat → Int64), G t → wpX1_countWays k 1 t li lj Q → wpX1_countWays k 1 t li lj (fun r t => Q r t ∧ G t)) ∧ (∀ (t : XT) (li : Nat → Int32) (lj : Nat → Int64), G t → wpX1_countWays k 2 t li lj Q → wpX1_countWays k 2 t li lj (fun r t => Q r t ∧ G t)) := by
  intro k
  induction k with
  | zero => exact ⟨fun _ _ _ _ hR => False.elim hR, fun _ _ _ _ hR => False.elim hR, fun _ _ _ _ hR => False.elim hR⟩
  | succ k ih =>
    refine ⟨?_, ?_, ?_⟩
    · intro t li lj g hR
      have hR : wbX1_countWays_0 (wpX1_countWays k) k t li lj Q := hR
      show wbX1_countWays_0 (wpX1_countWays k) k t li lj (fun r t => Q r t ∧ G t)
      unfold wbX1_countWays_0 at hR ⊢
      exact ztX2_measure hk g hR (fun y1_0 h1 g1 => fun x2 e2 => have g2 : G x2 := (by rw [e2]; exact hk.2.2.2 _ _ _ (by decide) g1); ih.2.1 _ _ _ g2 (h1 x2 e2))
    · intro t li lj g hR
      have hR : wbX1_countWays_1 (wpX1_countWays k) k t li lj Q := hR
      show wbX1_countWays_1 (wpX1_countWays k) k t li lj (fun r t => Q r t ∧ G t)
      unfold wbX1_countWays_1 at hR ⊢
      exact ⟨fun c1 => ⟨(hR.1 c1).1, fun x2 e2 => ⟨((hR.1 c1).2 x2 e2), g⟩⟩, fun c3 => ⟨(hR.2 c3).1, fun x4 e4 => ⟨fun c5 => ⟨(((hR.2 c3).2 x4 e4).1 c5).1, fun x6 e6 => ⟨((((hR.2 c3).2 x4 e4).1 c5).2 x6 e6).1, fun x7 e7 => ⟨fun c8 => ⟨((((((hR.2 c3).2 x4 e4).1 c5).2 x6 e6).2 x7 e7).1 c8).1, fun x9 e9 => ⟨(((((((hR.2 c3).2 x4 e4).1 c5).2 x6 e6).2 x7 e7).1 c8).2 x9 e9).1, fun x10 e10 => ⟨fun c11 => ih.2.2 _ _ _ g (((((((((hR.2 c3).2 x4 e4).1 c5).2 x6 e6).2 x7 e7).1 c8).2 x9 e9).2 x10 e10).1 c11), fun c12 => ⟨(((((((((hR.2 c3).2 x4 e4).1 c5).2 x6 e6).2 x7 e7).1 c8).2 x9 e9).2 x10 e10).2 c12).1, fun x13 e13 => ⟨fun c14 => ih.2.2 _ _ _ g (((((((((((hR.2 c3).2 x4 e4).1 c5).2 x6 e6).2 x7 e7).1 c8).2 x9 e9).2 x10 e10).2 c12).2 x13 e13).1 c14), fun c15 => ⟨(((((((((((hR.2 c3).2 x4 e4).1 c5).2 x6 e6).2 x7 e7).1 c8).2 x9 e9).2 x10 e10).2 c12).2 x13 e13).2 c15).1, fun x16 e16 => ⟨((((((((((((hR.2 c3).2 x4 e4).1 c5).2 x6 e6).2 x7 e7).1 c8).2 x9 e9).2 x10 e10).2 c12).2 x13 e13).2 c15).2 x16 e16).1, fun x17 e17 => ⟨(((((((((((((hR.2 c3).2 x4 e4).1 c5).2 x6 e6).2 x7 e7).1 c8).2 x9 e9).2 x10 e10).2 c12).2 x13 e13).2 c15).2 x16 e16).2 x17 e17).1, fun x18 e18 => have g18 : G x18 := (by rw [e18]; exact hk.2.2.2 _ _ _ (by decide) g); ih.2.2 _ _ _ g18 ((((((((((((((hR.2 c3).2 x4 e4).1 c5).2 x6 e6).2 x7 e7).1 c8).2 x9 e9).2 x10 e10).2 c12).2 x13 e13).2 c15).2 x16 e16).2 x17 e17).2 x18 e18)⟩⟩⟩⟩⟩⟩⟩⟩, fun c19 => ztX1_waysDown hk g ((((((hR.2 c3).2 x4 e4).1 c5).2 x6 e6).2 x7 e7).2 c19) (fun y20_0 y20_1 h20 g20 => ⟨h20.1, fun x21 e21 => have g21 : G x21 := (by rw [e21]; exact hk.2.2.2 _ _ _ (by decide) g20); ih.2.2 _ _ _ g21 (h20.2 x21 e21)⟩)⟩⟩⟩, fun c22 => ⟨(((hR.2 c3).2 x4 e4).2 c22).1, fun x23 e23 => have g23 : G x23 := (by rw [e23]; exact hk.2.2.2 _ _ _ (by decide) g); ih.2.2 _ _ _ g23 ((((hR.2 c3).2 x4 e4).2 c22).2 x23 e23)⟩⟩⟩⟩
    · intro t li lj g hR
      have hR : wbX1_countWays_2 (wpX1_countWays k) k t li lj Q := hR
      show wbX1_countWays_2 (wpX1_countWays k) k t li lj (fun r t => Q r t ∧ G t)
      unfold wbX1_countWays_2 at hR ⊢
      exact fun x1 e1 => ih.2.1 _ _ _ g (hR x1 e1)
theorem zgX1_countWays {G : XT → Prop} {k : Nat} {t : XT} {a1 : Int32} {a2 : Int32} {Q : Int64 → XT → Prop} (hk : kpP G) (g : G t) (hR : wqX1_countWays k t a1 a2 Q) : wqX1_countWays k t a1 a2 (fun r t => Q r t ∧ G t) := (zfX1_countWays hk Q k).1 t _ _ g hR
theorem ztX1_countWays {G : XT → Prop} {k : Nat} {t : XT} {a1 : Int32} {a2 : Int32} {Q Q' : Int64 → XT → Prop} (hk : kpP G) (g : G t) (hR : wqX1_countWays k t a1 a2 Q) (hQ : (∀ r t, Q r t → G t → Q' r t)) : wqX1_countWays k t a1 a2 Q' := wmX1_countWays (Nat.le_refl k) (fun r t h => hQ r t h.1 h.2) (zgX1_countWays hk g hR)
set_option maxHeartbeats 4000000 in
set_option maxRecDepth 100000 in
theorem zfX1_chosenFace {G : XT → Prop} (hk : kpP G) (Q : Int32 → XT → Prop) : ∀ k : Nat, (∀ (t : XT) (li : Nat → Int32) (lj : Nat → Int64), G t → wpX1_chosenFace k 0 t li lj Q → wpX1_chosenFace k 0 t li lj (fun r t => Q r t ∧ G t)) ∧ (∀ (t : XT) (li : Nat → Int32) (lj : Nat → Int64), G t → wpX1_chosenFace k 1 t li lj Q → wpX1_chosenFace k 1 t li lj (fun r t => Q r t ∧ G t)) ∧ (∀ (t : XT) (li : Nat → Int32) (lj : Nat → Int64), G t → wpX1_chosenFace k 2 t li lj Q → wpX1_chosenFace k 2 t li lj (fun r t => Q r t ∧ G t)) := by
  intro k
  induction k with
  | zero => exact ⟨fun _ _ _ _ hR => False.elim hR, fun _ _ _ _ hR => False.elim hR, fun _ _ _ _ hR => False.elim hR⟩
  | succ k ih =>
    refine ⟨?_, ?_, ?_⟩
    · intro t li lj g hR
      have hR : wbX1_chosenFace_0 (wpX1_chosenFace k) k t li lj Q := hR
      show wbX1_chosenFace_0 (wpX1_chosenFace k) k t li lj (fun r t => Q r t ∧ G t)
      unfold wbX1_chosenFace_0 at hR ⊢
      exact ztX6_below hk g hR (fun y1_0 y1_1 h1 g1 => wcX11_lowest h1 (fun y2_0 h2 => ih.2.1 _ _ _ g1 h2))
    · intro t li lj g hR
      have hR : wbX1_chosenFace_1 (wpX1_chosenFace k) k t li lj Q := hR
      show wbX1_chosenFace_1 (wpX1_chosenFace k) k t li lj (fun r t => Q r t ∧ G t)
      unfold wbX1_chosenFace_1 at hR ⊢
      exact ⟨fun c1 => ih.2.2 _ _ _ g (hR.1 c1), fun c2 => fun x3 e3 => ⟨fun c4 => ih.2.2 _ _ _ g (((hR.2 c2) x3 e3).1 c4), fun c5 => wcX11_lowest (((hR.2 c2) x3 e3).2 c5) (fun y6_0 h6 => ⟨h6.1, fun x7 e7 => fun x8 e8 => ⟨fun c9 => ⟨(((h6.2 x7 e7) x8 e8).1 c9).1, fun x10 e10 => fun x11 e11 => fun x12 e12 => have g12 : G x12 := (by rw [e12]; exact hk.2.1 _ _ _ (by decide) (by decide) (by decide) (by decide) g); fun x13 e13 => fun x14 e14 => fun x15 e15 => ih.2.1 _ _ _ g12 (((((((((h6.2 x7 e7) x8 e8).1 c9).2 x10 e10) x11 e11) x12 e12) x13 e13) x14 e14) x15 e15)⟩, fun c16 => ⟨(((h6.2 x7 e7) x8 e8).2 c16), g⟩⟩⟩)⟩⟩
    · intro t li lj g hR
      have hR : wbX1_chosenFace_2 (wpX1_chosenFace k) k t li lj Q := hR
      show wbX1_chosenFace_2 (wpX1_chosenFace k) k t li lj (fun r t => Q r t ∧ G t)
      unfold wbX1_chosenFace_2 at hR ⊢
      exact ⟨hR, g⟩
theorem zgX1_chosenFace {G : XT → Prop} {k : Nat} {t : XT} {a1 : Int32} {Q : Int32 → XT → Prop} (hk : kpP G) (g : G t) (hR : wqX1_chosenFace k t a1 Q) : wqX1_chosenFace k t a1 (fun r t => Q r t ∧ G t) := (zfX1_chosenFace hk Q k).1 t _ _ g hR
theorem ztX1_chosenFace {G : XT → Prop} {k : Nat} {t : XT} {a1 : Int32} {Q Q' : Int32 → XT → Prop} (hk : kpP G) (g : G t) (hR : wqX1_chosenFace k t a1 Q) (hQ : (∀ r t, Q r t → G t → Q' r t)) : wqX1_chosenFace k t a1 Q' := wmX1_chosenFace (Nat.le_refl k) (fun r t h => hQ r t h.1 h.2) (zgX1_chosenFace hk g hR)
set_option maxHeartbeats 4000000 in
set_option maxRecDepth 100000 in
theorem zfX1_trace {G : XT → Prop} (hk : kpP G) (Q : Int32 → XT → Prop) : ∀ k : Nat, (∀ (t : XT) (li : Nat → Int32) (lj : Nat → Int64), G t → wpX1_trace k 0 t li lj Q → wpX1_trace k 0 t li lj (fun r t => Q r t ∧ G t)) ∧ (∀ (t : XT) (li : Nat → Int32) (lj : Nat → Int64), G t → wpX1_trace k 1 t li lj Q → wpX1_trace k 1 t li lj (fun r t => Q r t ∧ G t)) ∧ (∀ (t : XT) (li : Nat → Int32) (lj : Nat → Int64), G t → wpX1_trace k 2 t li lj Q → wpX1_trace k 2 t li lj (fun r t => Q r t ∧ G t)) ∧ (∀ (t : XT) (li : Nat → Int32) (lj : Nat → Int64), G t → wpX1_trace k 3 t li lj Q → wpX1_trace k 3 t li lj (fun r t => Q r t ∧ G t)) := by
  intro k
  induction k with
  | zero => exact ⟨fun _ _ _ _ hR => False.elim hR, fun _ _ _ _ hR => False.elim hR, fun _ _ _ _ hR => False.elim hR, fun _ _ _ _ hR => False.elim hR⟩
  | succ k ih =>
    refine ⟨?_, ?_, ?_, ?_⟩
    · intro t li lj g hR
      have hR : wbX1_trace_0 (wpX1_trace k) k t li lj Q := hR
      show wbX1_trace_0 (wpX1_trace k) k t li lj (fun r t => Q r t ∧ G t)
      unfold wbX1_trace_0 at hR ⊢
      exact fun x1 e1 => have g1 : G x1 := (by rw [e1]; exact hk.2.1 _ _ _ (by decide) (by decide) (by decide) (by decide) g); ⟨(hR x1 e1).1, fun x2 e2 => have g2 : G x2 := (by rw [e2]; exact hk.2.2.1 _ _ _ (by decide) (by decide) (by decide) g1); ih.2.1 _ _ _ g2 ((hR x1 e1).2 x2 e2)⟩
    · intro t li lj g hR
      have hR : wbX1_trace_1 (wpX1_trace k) k t li lj Q := hR
      show wbX1_trace_1 (wpX1_trace k) k t li lj (fun r t => Q r t ∧ G t)
      unfold wbX1_trace_1 at hR ⊢
      exact ⟨fun c1 => ih.2.2.2 _ _ _ g (hR.1 c1), fun c2 => fun x3 e3 => ⟨fun c4 => ih.2.2.2 _ _ _ g (((hR.2 c2) x3 e3).1 c4), fun c5 => ztX1_chosenFace hk g (((hR.2 c2) x3 e3).2 c5) (fun y6_0 y6_1 h6 g6 => ⟨h6.1, fun x7 e7 => have g7 : G x7 := (by rw [e7]; exact hk.2.2.1 _ _ _ (by decide) (by decide) (by decide) g6); fun x8 e8 => ⟨fun c9 => ih.2.2.1 _ _ _ g7 (((h6.2 x7 e7) x8 e8).1 c9), fun c10 => ⟨(((h6.2 x7 e7) x8 e8).2 c10).1, fun x11 e11 => ⟨fun c12 => ih.2.2.1 _ _ _ g7 (((((h6.2 x7 e7) x8 e8).2 c10).2 x11 e11).1 c12), fun c13 => ⟨(((((h6.2 x7 e7) x8 e8).2 c10).2 x11 e11).2 c13).1, fun x14 e14 => ⟨((((((h6.2 x7 e7) x8 e8).2 c10).2 x11 e11).2 c13).2 x14 e14).1, fun x15 e15 => have g15 : G x15 := (by rw [e15]; exact hk.2.2.1 _ _ _ (by decide) (by decide) (by decide) g7); fun x16 e16 => ih.2.2.1 _ _ _ g15 ((((((((h6.2 x7 e7) x8 e8).2 c10).2 x11 e11).2 c13).2 x14 e14).2 x15 e15) x16 e16)⟩⟩⟩⟩⟩⟩)⟩⟩
    · intro t li lj g hR
      have hR : wbX1_trace_2 (wpX1_trace k) k t li lj Q := hR
      show wbX1_trace_2 (wpX1_trace k) k t li lj (fun r t => Q r t ∧ G t)
      unfold wbX1_trace_2 at hR ⊢
      exact ih.2.1 _ _ _ g hR
    · intro t li lj g hR
      have hR : wbX1_trace_3 (wpX1_trace k) k t li lj Q := hR
      show wbX1_trace_3 (wpX1_trace k) k t li lj (fun r t => Q r t ∧ G t)
      unfold wbX1_trace_3 at hR ⊢
      exact ⟨hR, g⟩
theorem zgX1_trace {G : XT → Prop} {k : Nat} {t : XT} {a1 : Int32} {a2 : Int32} {a3 : Int64} {Q : Int32 → XT → Prop} (hk : kpP G) (g : G t) (hR : wqX1_trace k t a1 a2 a3 Q) : wqX1_trace k t a1 a2 a3 (fun r t => Q r t ∧ G t) := (zfX1_trace hk Q k).1 t _ _ g hR
theorem ztX1_trace {G : XT → Prop} {k : Nat} {t : XT} {a1 : Int32} {a2 : Int32} {a3 : Int64} {Q Q' : Int32 → XT → Prop} (hk : kpP G) (g : G t) (hR : wqX1_trace k t a1 a2 a3 Q) (hQ : (∀ r t, Q r t → G t → Q' r t)) : wqX1_trace k t a1 a2 a3 Q' := wmX1_trace (Nat.le_refl k) (fun r t h => hQ r t h.1 h.2) (zgX1_trace hk g hR)
set_option maxHeartbeats 4000000 in
set_option maxRecDepth 100000 in
theorem zfX11_isFree {G : XT → Prop} (hk : kpP G) (Q : Int32 → XT → Prop) : ∀ k : Nat, (∀ (t : XT) (li : Nat → Int32) (lj : Nat → Int64), G t → wpX11_isFree k 0 t li lj Q → wpX11_isFree k 0 t li lj (fun r t => Q r t ∧ G t)) := by
  intro k
  induction k with
  | zero => exact fun _ _ _ _ hR => False.elim hR
  | succ k ih =>
    intro t li lj g hR
    have hR : wbX11_isFree_0 (wpX11_isFree k) k t li lj Q := hR
    show wbX11_isFree_0 (wpX11_isFree k) k t li lj (fun r t => Q r t ∧ G t)
    unfold wbX11_isFree_0 at hR ⊢
    exact ⟨hR.1, fun x1 e1 => fun x2 e2 => wcJ13_bitCount_95d88 ((hR.2 x1 e1) x2 e2) (fun y3_0 h3 => ⟨fun c4 => wcX11_lowest (h3.1 c4) (fun y5_0 h5 => ⟨h5.1, fun x6 e6 => fun x7 e7 => fun x8 e8 => ⟨fun c9 => ⟨((((h5.2 x6 e6) x7 e7) x8 e8).1 c9), g⟩, fun c10 => ⟨((((h5.2 x6 e6) x7 e7) x8 e8).2 c10), g⟩⟩⟩), fun c11 => ⟨(h3.2 c11), g⟩⟩)⟩
theorem zgX11_isFree {G : XT → Prop} {k : Nat} {t : XT} {a1 : Int32} {Q : Int32 → XT → Prop} (hk : kpP G) (g : G t) (hR : wqX11_isFree k t a1 Q) : wqX11_isFree k t a1 (fun r t => Q r t ∧ G t) := (zfX11_isFree hk Q k) t _ _ g hR
theorem ztX11_isFree {G : XT → Prop} {k : Nat} {t : XT} {a1 : Int32} {Q Q' : Int32 → XT → Prop} (hk : kpP G) (g : G t) (hR : wqX11_isFree k t a1 Q) (hQ : (∀ r t, Q r t → G t → Q' r t)) : wqX11_isFree k t a1 Q' := wmX11_isFree (Nat.le_refl k) (fun r t h => hQ r t h.1 h.2) (zgX11_isFree hk g hR)
set_option maxHeartbeats 4000000 in
set_option maxRecDepth 100000 in
theorem zfX11_critical {G : XT → Prop} (hk : kpP G) (Q : Int32 → XT → Prop) : ∀ k : Nat, (∀ (t : XT) (li : Nat → Int32) (lj : Nat → Int64), G t → wpX11_critical k 0 t li lj Q → wpX11_critical k 0 t li lj (fun r t => Q r t ∧ G t)) ∧ (∀ (t : XT) (li : Nat → Int32) (lj : Nat → Int64), G t → wpX11_critical k 1 t li lj Q → wpX11_critical k 1 t li lj (fun r t => Q r t ∧ G t)) := by
  intro k
  induction k with
  | zero => exact ⟨fun _ _ _ _ hR => False.elim hR, fun _ _ _ _ hR => False.elim hR⟩
  | succ k ih =>
    refine ⟨?_, ?_⟩
    · intro t li lj g hR
      have hR : wbX11_critical_0 (wpX11_critical k) k t li lj Q := hR
      show wbX11_critical_0 (wpX11_critical k) k t li lj (fun r t => Q r t ∧ G t)
      unfold wbX11_critical_0 at hR ⊢
      exact wcX11_isDim hR (fun y1_0 h1 => ⟨fun c2 => ih.2 _ _ _ g (h1.1 c2), fun c3 => ⟨fun c4 => ztX6_unpaired hk g ((h1.2 c3).1 c4) (fun y5_0 y5_1 h5 g5 => ⟨h5.1, fun x6 e6 => fun x7 e7 => wcX11_listed ((h5.2 x6 e6) x7 e7) (fun y8_0 h8 => ⟨h8, g5⟩)⟩), fun c9 => ih.2 _ _ _ g ((h1.2 c3).2 c9)⟩⟩)
    · intro t li lj g hR
      have hR : wbX11_critical_1 (wpX11_critical k) k t li lj Q := hR
      show wbX11_critical_1 (wpX11_critical k) k t li lj (fun r t => Q r t ∧ G t)
      unfold wbX11_critical_1 at hR ⊢
      exact ⟨hR, g⟩
theorem zgX11_critical {G : XT → Prop} {k : Nat} {t : XT} {a1 : Int32} {a2 : Int32} {Q : Int32 → XT → Prop} (hk : kpP G) (g : G t) (hR : wqX11_critical k t a1 a2 Q) : wqX11_critical k t a1 a2 (fun r t => Q r t ∧ G t) := (zfX11_critical hk Q k).1 t _ _ g hR
theorem ztX11_critical {G : XT → Prop} {k : Nat} {t : XT} {a1 : Int32} {a2 : Int32} {Q Q' : Int32 → XT → Prop} (hk : kpP G) (g : G t) (hR : wqX11_critical k t a1 a2 Q) (hQ : (∀ r t, Q r t → G t → Q' r t)) : wqX11_critical k t a1 a2 Q' := wmX11_critical (Nat.le_refl k) (fun r t h => hQ r t h.1 h.2) (zgX11_critical hk g hR)
set_option maxHeartbeats 4000000 in
set_option maxRecDepth 100000 in
theorem zfX11_paths {G : XT → Prop} (hk : kpP G) (Q : Int64 → XT → Prop) : ∀ k : Nat, (∀ (t : XT) (li : Nat → Int32) (lj : Nat → Int64), G t → wpX11_paths k 0 t li lj Q → wpX11_paths k 0 t li lj (fun r t => Q r t ∧ G t)) := by
  intro k
  induction k with
  | zero => exact fun _ _ _ _ hR => False.elim hR
  | succ k ih =>
    intro t li lj g hR
    have hR : wbX11_paths_0 (wpX11_paths k) k t li lj Q := hR
    show wbX11_paths_0 (wpX11_paths k) k t li lj (fun r t => Q r t ∧ G t)
    unfold wbX11_paths_0 at hR ⊢
    exact ztX11_areEnds hk g hR (fun y1_0 y1_1 h1 g1 => ⟨fun c2 => ztX1_countWays hk g1 (h1.1 c2) (fun y3_0 y3_1 h3 g3 => ⟨h3, g3⟩), fun c4 => ⟨(h1.2 c4), g1⟩⟩)
theorem zgX11_paths {G : XT → Prop} {k : Nat} {t : XT} {a1 : Int32} {a2 : Int32} {Q : Int64 → XT → Prop} (hk : kpP G) (g : G t) (hR : wqX11_paths k t a1 a2 Q) : wqX11_paths k t a1 a2 (fun r t => Q r t ∧ G t) := (zfX11_paths hk Q k) t _ _ g hR
theorem ztX11_paths {G : XT → Prop} {k : Nat} {t : XT} {a1 : Int32} {a2 : Int32} {Q Q' : Int64 → XT → Prop} (hk : kpP G) (g : G t) (hR : wqX11_paths k t a1 a2 Q) (hQ : (∀ r t, Q r t → G t → Q' r t)) : wqX11_paths k t a1 a2 Q' := wmX11_paths (Nat.le_refl k) (fun r t h => hQ r t h.1 h.2) (zgX11_paths hk g hR)
set_option maxHeartbeats 4000000 in
set_option maxRecDepth 100000 in
theorem zfX11_path {G : XT → Prop} (hk : kpP G) (Q : Int32 → XT → Prop) : ∀ k : Nat, (∀ (t : XT) (li : Nat → Int32) (lj : Nat → Int64), G t → wpX11_path k 0 t li lj Q → wpX11_path k 0 t li lj (fun r t => Q r t ∧ G t)) ∧ (∀ (t : XT) (li : Nat → Int32) (lj : Nat → Int64), G t → wpX11_path k 1 t li lj Q → wpX11_path k 1 t li lj (fun r t => Q r t ∧ G t)) := by
  intro k
  induction k with
  | zero => exact ⟨fun _ _ _ _ hR => False.elim hR, fun _ _ _ _ hR => False.elim hR⟩
  | succ k ih =>
    refine ⟨?_, ?_⟩
    · intro t li lj g hR
      have hR : wbX11_path_0 (wpX11_path k) k t li lj Q := hR
      show wbX11_path_0 (wpX11_path k) k t li lj (fun r t => Q r t ∧ G t)
      unfold wbX11_path_0 at hR ⊢
      exact ztX11_areEnds hk g hR (fun y1_0 y1_1 h1 g1 => ⟨fun c2 => ih.2 _ _ _ g1 (h1.1 c2), fun c3 => ⟨fun c4 => ih.2 _ _ _ g1 ((h1.2 c3).1 c4), fun c5 => ⟨fun c6 => fun x7 e7 => ztX1_countWays hk g1 ((((h1.2 c3).2 c5).1 c6) x7 e7) (fun y8_0 y8_1 h8 g8 => fun x9 e9 => ⟨fun c10 => fun x11 e11 => ztX1_trace hk g8 (((h8 x9 e9).1 c10) x11 e11) (fun y12_0 y12_1 h12 g12 => ⟨fun c13 => ⟨fun c14 => ⟨((h12.1 c13).1 c14), g12⟩, fun c15 => ⟨((h12.1 c13).2 c15).1, fun x16 e16 => ⟨(((h12.1 c13).2 c15).2 x16 e16), g12⟩⟩⟩, fun c17 => ⟨(h12.2 c17), g12⟩⟩), fun c18 => ⟨((h8 x9 e9).2 c18), g8⟩⟩), fun c19 => ih.2 _ _ _ g1 (((h1.2 c3).2 c5).2 c19)⟩⟩⟩)
    · intro t li lj g hR
      have hR : wbX11_path_1 (wpX11_path k) k t li lj Q := hR
      show wbX11_path_1 (wpX11_path k) k t li lj (fun r t => Q r t ∧ G t)
      unfold wbX11_path_1 at hR ⊢
      exact ⟨hR, g⟩
theorem zgX11_path {G : XT → Prop} {k : Nat} {t : XT} {a1 : Int32} {a2 : Int32} {a3 : Int32} {a4 : Int32} {Q : Int32 → XT → Prop} (hk : kpP G) (g : G t) (hR : wqX11_path k t a1 a2 a3 a4 Q) : wqX11_path k t a1 a2 a3 a4 (fun r t => Q r t ∧ G t) := (zfX11_path hk Q k).1 t _ _ g hR
theorem ztX11_path {G : XT → Prop} {k : Nat} {t : XT} {a1 : Int32} {a2 : Int32} {a3 : Int32} {a4 : Int32} {Q Q' : Int32 → XT → Prop} (hk : kpP G) (g : G t) (hR : wqX11_path k t a1 a2 a3 a4 Q) (hQ : (∀ r t, Q r t → G t → Q' r t)) : wqX11_path k t a1 a2 a3 a4 Q' := wmX11_path (Nat.le_refl k) (fun r t h => hQ r t h.1 h.2) (zgX11_path hk g hR)
set_option maxHeartbeats 4000000 in
set_option maxRecDepth 100000 in
theorem zfX1_start {G : XT → Prop} (hk : kpP G) (Q : XT → Prop) : ∀ k : Nat, (∀ (t : XT) (li : Nat → Int32) (lj : Nat → Int64), G t → wpX1_start k 0 t li lj Q → wpX1_start k 0 t li lj (fun t => Q t ∧ G t)) := by
  intro k
  induction k with
  | zero => exact fun _ _ _ _ hR => False.elim hR
  | succ k ih =>
    intro t li lj g hR
    have hR : wbX1_start_0 (wpX1_start k) k t li lj Q := hR
    show wbX1_start_0 (wpX1_start k) k t li lj (fun t => Q t ∧ G t)
    unfold wbX1_start_0 at hR ⊢
    exact ztX2_measure hk g hR (fun y1_0 h1 g1 => fun x2 e2 => have g2 : G x2 := (by rw [e2]; exact hk.2.2.2 _ _ _ (by decide) g1); ⟨(h1 x2 e2).1, fun x3 e3 => have g3 : G x3 := (by rw [e3]; exact hk.2.2.2 _ _ _ (by decide) g2); ⟨((h1 x2 e2).2 x3 e3), g3⟩⟩)
theorem zgX1_start {G : XT → Prop} {k : Nat} {t : XT} {a1 : Int32} {Q : XT → Prop} (hk : kpP G) (g : G t) (hR : wqX1_start k t a1 Q) : wqX1_start k t a1 (fun t => Q t ∧ G t) := (zfX1_start hk Q k) t _ _ g hR
theorem ztX1_start {G : XT → Prop} {k : Nat} {t : XT} {a1 : Int32} {Q Q' : XT → Prop} (hk : kpP G) (g : G t) (hR : wqX1_start k t a1 Q) (hQ : (∀ t, Q t → G t → Q' t)) : wqX1_start k t a1 Q' := wmX1_start (Nat.le_refl k) (fun t h => hQ t h.1 h.2) (zgX1_start hk g hR)
set_option maxHeartbeats 4000000 in
set_option maxRecDepth 100000 in
theorem zfX1_goDown {G : XT → Prop} (hk : kpP G) (Q : XT → Prop) : ∀ k : Nat, (∀ (t : XT) (li : Nat → Int32) (lj : Nat → Int64), G t → wpX1_goDown k 0 t li lj Q → wpX1_goDown k 0 t li lj (fun t => Q t ∧ G t)) ∧ (∀ (t : XT) (li : Nat → Int32) (lj : Nat → Int64), G t → wpX1_goDown k 1 t li lj Q → wpX1_goDown k 1 t li lj (fun t => Q t ∧ G t)) ∧ (∀ (t : XT) (li : Nat → Int32) (lj : Nat → Int64), G t → wpX1_goDown k 2 t li lj Q → wpX1_goDown k 2 t li lj (fun t => Q t ∧ G t)) := by
  intro k
  induction k with
  | zero => exact ⟨fun _ _ _ _ hR => False.elim hR, fun _ _ _ _ hR => False.elim hR, fun _ _ _ _ hR => False.elim hR⟩
  | succ k ih =>
    refine ⟨?_, ?_, ?_⟩
    · intro t li lj g hR
      have hR : wbX1_goDown_0 (wpX1_goDown k) k t li lj Q := hR
      show wbX1_goDown_0 (wpX1_goDown k) k t li lj (fun t => Q t ∧ G t)
      unfold wbX1_goDown_0 at hR ⊢
      exact ztX6_below hk g hR (fun y1_0 y1_1 h1 g1 => ih.2.1 _ _ _ g1 h1)
    · intro t li lj g hR
      have hR : wbX1_goDown_1 (wpX1_goDown k) k t li lj Q := hR
      show wbX1_goDown_1 (wpX1_goDown k) k t li lj (fun t => Q t ∧ G t)
      unfold wbX1_goDown_1 at hR ⊢
      exact ⟨fun c1 => ⟨(hR.1 c1), g⟩, fun c2 => fun x3 e3 => ⟨fun c4 => ⟨(((hR.2 c2) x3 e3).1 c4), g⟩, fun c5 => wcX11_lowest (((hR.2 c2) x3 e3).2 c5) (fun y6_0 h6 => fun x7 e7 => fun x8 e8 => ⟨((h6 x7 e7) x8 e8).1, fun x9 e9 => ⟨fun c10 => ⟨((((h6 x7 e7) x8 e8).2 x9 e9).1 c10).1, fun x11 e11 => ih.2.2 _ _ _ g (((((h6 x7 e7) x8 e8).2 x9 e9).1 c10).2 x11 e11)⟩, fun c12 => ⟨((((h6 x7 e7) x8 e8).2 x9 e9).2 c12).1, fun x13 e13 => ztX9_signOf hk g (((((h6 x7 e7) x8 e8).2 x9 e9).2 c12).2 x13 e13) (fun y14_0 y14_1 h14 g14 => fun x15 e15 => fun x16 e16 => ih.2.2 _ _ _ g14 ((h14 x15 e15) x16 e16))⟩⟩⟩)⟩⟩
    · intro t li lj g hR
      have hR : wbX1_goDown_2 (wpX1_goDown k) k t li lj Q := hR
      show wbX1_goDown_2 (wpX1_goDown k) k t li lj (fun t => Q t ∧ G t)
      unfold wbX1_goDown_2 at hR ⊢
      exact fun x1 e1 => ⟨(hR x1 e1).1, fun x2 e2 => have g2 : G x2 := (by rw [e2]; exact hk.2.2.2 _ _ _ (by decide) g); fun x3 e3 => ih.2.1 _ _ _ g2 (((hR x1 e1).2 x2 e2) x3 e3)⟩
theorem zgX1_goDown {G : XT → Prop} {k : Nat} {t : XT} {a1 : Int32} {a2 : Int32} {Q : XT → Prop} (hk : kpP G) (g : G t) (hR : wqX1_goDown k t a1 a2 Q) : wqX1_goDown k t a1 a2 (fun t => Q t ∧ G t) := (zfX1_goDown hk Q k).1 t _ _ g hR
theorem ztX1_goDown {G : XT → Prop} {k : Nat} {t : XT} {a1 : Int32} {a2 : Int32} {Q Q' : XT → Prop} (hk : kpP G) (g : G t) (hR : wqX1_goDown k t a1 a2 Q) (hQ : (∀ t, Q t → G t → Q' t)) : wqX1_goDown k t a1 a2 Q' := wmX1_goDown (Nat.le_refl k) (fun t h => hQ t h.1 h.2) (zgX1_goDown hk g hR)
set_option maxHeartbeats 4000000 in
set_option maxRecDepth 100000 in
theorem zfX1_goUp {G : XT → Prop} (hk : kpP G) (Q : XT → Prop) : ∀ k : Nat, (∀ (t : XT) (li : Nat → Int32) (lj : Nat → Int64), G t → wpX1_goUp k 0 t li lj Q → wpX1_goUp k 0 t li lj (fun t => Q t ∧ G t)) ∧ (∀ (t : XT) (li : Nat → Int32) (lj : Nat → Int64), G t → wpX1_goUp k 1 t li lj Q → wpX1_goUp k 1 t li lj (fun t => Q t ∧ G t)) := by
  intro k
  induction k with
  | zero => exact ⟨fun _ _ _ _ hR => False.elim hR, fun _ _ _ _ hR => False.elim hR⟩
  | succ k ih =>
    refine ⟨?_, ?_⟩
    · intro t li lj g hR
      have hR : wbX1_goUp_0 (wpX1_goUp k) k t li lj Q := hR
      show wbX1_goUp_0 (wpX1_goUp k) k t li lj (fun t => Q t ∧ G t)
      unfold wbX1_goUp_0 at hR ⊢
      exact ⟨hR.1, fun x1 e1 => ⟨fun c2 => ⟨((hR.2 x1 e1).1 c2).1, fun x3 e3 => ⟨fun c4 => ⟨((((hR.2 x1 e1).1 c2).2 x3 e3).1 c4).1, fun x5 e5 => ih.2 _ _ _ g (((((hR.2 x1 e1).1 c2).2 x3 e3).1 c4).2 x5 e5)⟩, fun c6 => ⟨((((hR.2 x1 e1).1 c2).2 x3 e3).2 c6).1, fun x7 e7 => fun x8 e8 => ztX9_signOf hk g ((((((hR.2 x1 e1).1 c2).2 x3 e3).2 c6).2 x7 e7) x8 e8) (fun y9_0 y9_1 h9 g9 => fun x10 e10 => fun x11 e11 => ih.2 _ _ _ g9 ((h9 x10 e10) x11 e11))⟩⟩⟩, fun c12 => ⟨((hR.2 x1 e1).2 c12), g⟩⟩⟩
    · intro t li lj g hR
      have hR : wbX1_goUp_1 (wpX1_goUp k) k t li lj Q := hR
      show wbX1_goUp_1 (wpX1_goUp k) k t li lj (fun t => Q t ∧ G t)
      unfold wbX1_goUp_1 at hR ⊢
      exact fun x1 e1 => ⟨(hR x1 e1).1, fun x2 e2 => have g2 : G x2 := (by rw [e2]; exact hk.2.2.2 _ _ _ (by decide) g); ⟨((hR x1 e1).2 x2 e2), g2⟩⟩
theorem zgX1_goUp {G : XT → Prop} {k : Nat} {t : XT} {a1 : Int32} {a2 : Int32} {Q : XT → Prop} (hk : kpP G) (g : G t) (hR : wqX1_goUp k t a1 a2 Q) : wqX1_goUp k t a1 a2 (fun t => Q t ∧ G t) := (zfX1_goUp hk Q k).1 t _ _ g hR
theorem ztX1_goUp {G : XT → Prop} {k : Nat} {t : XT} {a1 : Int32} {a2 : Int32} {Q Q' : XT → Prop} (hk : kpP G) (g : G t) (hR : wqX1_goUp k t a1 a2 Q) (hQ : (∀ t, Q t → G t → Q' t)) : wqX1_goUp k t a1 a2 Q' := wmX1_goUp (Nat.le_refl k) (fun t h => hQ t h.1 h.2) (zgX1_goUp hk g hR)
set_option maxHeartbeats 4000000 in
set_option maxRecDepth 100000 in
theorem zfX1_pour {G : XT → Prop} (hk : kpP G) (Q : XT → Prop) : ∀ k : Nat, (∀ (t : XT) (li : Nat → Int32) (lj : Nat → Int64), G t → wpX1_pour k 0 t li lj Q → wpX1_pour k 0 t li lj (fun t => Q t ∧ G t)) ∧ (∀ (t : XT) (li : Nat → Int32) (lj : Nat → Int64), G t → wpX1_pour k 1 t li lj Q → wpX1_pour k 1 t li lj (fun t => Q t ∧ G t)) ∧ (∀ (t : XT) (li : Nat → Int32) (lj : Nat → Int64), G t → wpX1_pour k 2 t li lj Q → wpX1_pour k 2 t li lj (fun t => Q t ∧ G t)) ∧ (∀ (t : XT) (li : Nat → Int32) (lj : Nat → Int64), G t → wpX1_pour k 3 t li lj Q → wpX1_pour k 3 t li lj (fun t => Q t ∧ G t)) := by
  intro k
  induction k with
  | zero => exact ⟨fun _ _ _ _ hR => False.elim hR, fun _ _ _ _ hR => False.elim hR, fun _ _ _ _ hR => False.elim hR, fun _ _ _ _ hR => False.elim hR⟩
  | succ k ih =>
    refine ⟨?_, ?_, ?_, ?_⟩
    · intro t li lj g hR
      have hR : wbX1_pour_0 (wpX1_pour k) k t li lj Q := hR
      show wbX1_pour_0 (wpX1_pour k) k t li lj (fun t => Q t ∧ G t)
      unfold wbX1_pour_0 at hR ⊢
      exact fun x1 e1 => ih.2.1 _ _ _ g (hR x1 e1)
    · intro t li lj g hR
      have hR : wbX1_pour_1 (wpX1_pour k) k t li lj Q := hR
      show wbX1_pour_1 (wpX1_pour k) k t li lj (fun t => Q t ∧ G t)
      unfold wbX1_pour_1 at hR ⊢
      exact ⟨fun c1 => ⟨(hR.1 c1), g⟩, fun c2 => ⟨(hR.2 c2).1, fun x3 e3 => ⟨((hR.2 c2).2 x3 e3).1, fun x4 e4 => fun x5 e5 => ⟨fun c6 => ih.2.2.1 _ _ _ g (((((hR.2 c2).2 x3 e3).2 x4 e4) x5 e5).1 c6), fun c7 => ⟨(((((hR.2 c2).2 x3 e3).2 x4 e4) x5 e5).2 c7).1, fun x8 e8 => ⟨fun c9 => ih.2.2.1 _ _ _ g (((((((hR.2 c2).2 x3 e3).2 x4 e4) x5 e5).2 c7).2 x8 e8).1 c9), fun c10 => ztX1_goDown hk g (((((((hR.2 c2).2 x3 e3).2 x4 e4) x5 e5).2 c7).2 x8 e8).2 c10) (fun y11_0 h11 g11 => ih.2.2.2 _ _ _ g11 h11)⟩⟩⟩⟩⟩⟩
    · intro t li lj g hR
      have hR : wbX1_pour_2 (wpX1_pour k) k t li lj Q := hR
      show wbX1_pour_2 (wpX1_pour k) k t li lj (fun t => Q t ∧ G t)
      unfold wbX1_pour_2 at hR ⊢
      exact ⟨hR.1, fun x1 e1 => fun x2 e2 => ⟨fun c3 => ih.2.2.2 _ _ _ g (((hR.2 x1 e1) x2 e2).1 c3), fun c4 => ⟨(((hR.2 x1 e1) x2 e2).2 c4).1, fun x5 e5 => fun x6 e6 => ⟨fun c7 => ih.2.2.2 _ _ _ g ((((((hR.2 x1 e1) x2 e2).2 c4).2 x5 e5) x6 e6).1 c7), fun c8 => ztX1_goUp hk g ((((((hR.2 x1 e1) x2 e2).2 c4).2 x5 e5) x6 e6).2 c8) (fun y9_0 h9 g9 => ih.2.2.2 _ _ _ g9 h9)⟩⟩⟩⟩
    · intro t li lj g hR
      have hR : wbX1_pour_3 (wpX1_pour k) k t li lj Q := hR
      show wbX1_pour_3 (wpX1_pour k) k t li lj (fun t => Q t ∧ G t)
      unfold wbX1_pour_3 at hR ⊢
      exact fun x1 e1 => ih.2.1 _ _ _ g (hR x1 e1)
theorem zgX1_pour {G : XT → Prop} {k : Nat} {t : XT} {a1 : Int32} {a2 : Int32} {Q : XT → Prop} (hk : kpP G) (g : G t) (hR : wqX1_pour k t a1 a2 Q) : wqX1_pour k t a1 a2 (fun t => Q t ∧ G t) := (zfX1_pour hk Q k).1 t _ _ g hR
theorem ztX1_pour {G : XT → Prop} {k : Nat} {t : XT} {a1 : Int32} {a2 : Int32} {Q Q' : XT → Prop} (hk : kpP G) (g : G t) (hR : wqX1_pour k t a1 a2 Q) (hQ : (∀ t, Q t → G t → Q' t)) : wqX1_pour k t a1 a2 Q' := wmX1_pour (Nat.le_refl k) (fun t h => hQ t h.1 h.2) (zgX1_pour hk g hR)
set_option maxHeartbeats 4000000 in
set_option maxRecDepth 100000 in
theorem zfX11_incidence {G : XT → Prop} (hk : kpP G) (Q : Int64 → XT → Prop) : ∀ k : Nat, (∀ (t : XT) (li : Nat → Int32) (lj : Nat → Int64), G t → wpX11_incidence k 0 t li lj Q → wpX11_incidence k 0 t li lj (fun r t => Q r t ∧ G t)) := by
  intro k
  induction k with
  | zero => exact fun _ _ _ _ hR => False.elim hR
  | succ k ih =>
    intro t li lj g hR
    have hR : wbX11_incidence_0 (wpX11_incidence k) k t li lj Q := hR
    show wbX11_incidence_0 (wpX11_incidence k) k t li lj (fun r t => Q r t ∧ G t)
    unfold wbX11_incidence_0 at hR ⊢
    exact ztX11_areEnds hk g hR (fun y1_0 y1_1 h1 g1 => ⟨fun c2 => ztX1_start hk g1 (h1.1 c2) (fun y3_0 h3 g3 => ⟨h3.1, fun x4 e4 => ztX1_pour hk g3 (h3.2 x4 e4) (fun y5_0 h5 g5 => ⟨h5.1, fun x6 e6 => ⟨(h5.2 x6 e6), g5⟩⟩)⟩), fun c7 => ⟨(h1.2 c7), g1⟩⟩)
theorem zgX11_incidence {G : XT → Prop} {k : Nat} {t : XT} {a1 : Int32} {a2 : Int32} {Q : Int64 → XT → Prop} (hk : kpP G) (g : G t) (hR : wqX11_incidence k t a1 a2 Q) : wqX11_incidence k t a1 a2 (fun r t => Q r t ∧ G t) := (zfX11_incidence hk Q k) t _ _ g hR
theorem ztX11_incidence {G : XT → Prop} {k : Nat} {t : XT} {a1 : Int32} {a2 : Int32} {Q Q' : Int64 → XT → Prop} (hk : kpP G) (g : G t) (hR : wqX11_incidence k t a1 a2 Q) (hQ : (∀ r t, Q r t → G t → Q' r t)) : wqX11_incidence k t a1 a2 Q' := wmX11_incidence (Nat.le_refl k) (fun r t h => hQ r t h.1 h.2) (zgX11_incidence hk g hR)
set_option maxHeartbeats 4000000 in
set_option maxRecDepth 100000 in
theorem zfX11_chain {G : XT → Prop} (hk : kpP G) (Q : Int64 → XT → Prop) : ∀ k : Nat, (∀ (t : XT) (li : Nat → Int32) (lj : Nat → Int64), G t → wpX11_chain k 0 t li lj Q → wpX11_chain k 0 t li lj (fun r t => Q r t ∧ G t)) ∧ (∀ (t : XT) (li : Nat → Int32) (lj : Nat → Int64), G t → wpX11_chain k 1 t li lj Q → wpX11_chain k 1 t li lj (fun r t => Q r t ∧ G t)) := by
  intro k
  induction k with
  | zero => exact ⟨fun _ _ _ _ hR => False.elim hR, fun _ _ _ _ hR => False.elim hR⟩
  | succ k ih =>
    refine ⟨?_, ?_⟩
    · intro t li lj g hR
      have hR : wbX11_chain_0 (wpX11_chain k) k t li lj Q := hR
      show wbX11_chain_0 (wpX11_chain k) k t li lj (fun r t => Q r t ∧ G t)
      unfold wbX11_chain_0 at hR ⊢
      exact ztX11_isThere hk g hR (fun y1_0 y1_1 h1 g1 => ⟨fun c2 => ih.2 _ _ _ g1 (h1.1 c2), fun c3 => ztX11_isThere hk g1 (h1.2 c3) (fun y4_0 y4_1 h4 g4 => ⟨fun c5 => ih.2 _ _ _ g4 (h4.1 c5), fun c6 => ztX6_isCritical hk g4 (h4.2 c6) (fun y7_0 y7_1 h7 g7 => ⟨fun c8 => ⟨(h7.1 c8).1, fun x9 e9 => ⟨((h7.1 c8).2 x9 e9).1, fun x10 e10 => ⟨fun c11 => ztX1_start hk g7 ((((h7.1 c8).2 x9 e9).2 x10 e10).1 c11) (fun y12_0 h12 g12 => ⟨h12.1, fun x13 e13 => ztX1_pour hk g12 (h12.2 x13 e13) (fun y14_0 h14 g14 => ⟨h14.1, fun x15 e15 => ⟨(h14.2 x15 e15), g14⟩⟩)⟩), fun c16 => ⟨((((h7.1 c8).2 x9 e9).2 x10 e10).2 c16), g7⟩⟩⟩⟩, fun c17 => ih.2 _ _ _ g7 (h7.2 c17)⟩)⟩)⟩)
    · intro t li lj g hR
      have hR : wbX11_chain_1 (wpX11_chain k) k t li lj Q := hR
      show wbX11_chain_1 (wpX11_chain k) k t li lj (fun r t => Q r t ∧ G t)
      unfold wbX11_chain_1 at hR ⊢
      exact ⟨hR, g⟩
theorem zgX11_chain {G : XT → Prop} {k : Nat} {t : XT} {a1 : Int32} {a2 : Int32} {Q : Int64 → XT → Prop} (hk : kpP G) (g : G t) (hR : wqX11_chain k t a1 a2 Q) : wqX11_chain k t a1 a2 (fun r t => Q r t ∧ G t) := (zfX11_chain hk Q k).1 t _ _ g hR
theorem ztX11_chain {G : XT → Prop} {k : Nat} {t : XT} {a1 : Int32} {a2 : Int32} {Q Q' : Int64 → XT → Prop} (hk : kpP G) (g : G t) (hR : wqX11_chain k t a1 a2 Q) (hQ : (∀ r t, Q r t → G t → Q' r t)) : wqX11_chain k t a1 a2 Q' := wmX11_chain (Nat.le_refl k) (fun r t h => hQ r t h.1 h.2) (zgX11_chain hk g hR)
set_option maxHeartbeats 4000000 in
set_option maxRecDepth 100000 in
theorem zfX11_root {G : XT → Prop} (hk : kpP G) (Q : Int32 → XT → Prop) : ∀ k : Nat, (∀ (t : XT) (li : Nat → Int32) (lj : Nat → Int64), G t → wpX11_root k 0 t li lj Q → wpX11_root k 0 t li lj (fun r t => Q r t ∧ G t)) ∧ (∀ (t : XT) (li : Nat → Int32) (lj : Nat → Int64), G t → wpX11_root k 1 t li lj Q → wpX11_root k 1 t li lj (fun r t => Q r t ∧ G t)) ∧ (∀ (t : XT) (li : Nat → Int32) (lj : Nat → Int64), G t → wpX11_root k 2 t li lj Q → wpX11_root k 2 t li lj (fun r t => Q r t ∧ G t)) ∧ (∀ (t : XT) (li : Nat → Int32) (lj : Nat → Int64), G t → wpX11_root k 3 t li lj Q → wpX11_root k 3 t li lj (fun r t => Q r t ∧ G t)) := by
  intro k
  induction k with
  | zero => exact ⟨fun _ _ _ _ hR => False.elim hR, fun _ _ _ _ hR => False.elim hR, fun _ _ _ _ hR => False.elim hR, fun _ _ _ _ hR => False.elim hR⟩
  | succ k ih =>
    refine ⟨?_, ?_, ?_, ?_⟩
    · intro t li lj g hR
      have hR : wbX11_root_0 (wpX11_root k) k t li lj Q := hR
      show wbX11_root_0 (wpX11_root k) k t li lj (fun r t => Q r t ∧ G t)
      unfold wbX11_root_0 at hR ⊢
      exact ztX11_isThere hk g hR (fun y1_0 y1_1 h1 g1 => ⟨fun c2 => ih.2.1 _ _ _ g1 (h1.1 c2), fun c3 => ⟨(h1.2 c3).1, fun x4 e4 => ⟨fun c5 => ih.2.1 _ _ _ g1 (((h1.2 c3).2 x4 e4).1 c5), fun c6 => ⟨fun c7 => ih.2.1 _ _ _ g1 ((((h1.2 c3).2 x4 e4).2 c6).1 c7), fun c8 => ⟨fun c9 => ih.2.2.1 _ _ _ g1 (((((h1.2 c3).2 x4 e4).2 c6).2 c8).1 c9), fun c10 => ih.2.1 _ _ _ g1 (((((h1.2 c3).2 x4 e4).2 c6).2 c8).2 c10)⟩⟩⟩⟩⟩)
    · intro t li lj g hR
      have hR : wbX11_root_1 (wpX11_root k) k t li lj Q := hR
      show wbX11_root_1 (wpX11_root k) k t li lj (fun r t => Q r t ∧ G t)
      unfold wbX11_root_1 at hR ⊢
      exact ⟨hR, g⟩
    · intro t li lj g hR
      have hR : wbX11_root_2 (wpX11_root k) k t li lj Q := hR
      show wbX11_root_2 (wpX11_root k) k t li lj (fun r t => Q r t ∧ G t)
      unfold wbX11_root_2 at hR ⊢
      exact ⟨fun c1 => ih.2.2.2 _ _ _ g (hR.1 c1), fun c2 => ⟨(hR.2 c2).1, fun x3 e3 => ⟨fun c4 => ih.2.2.2 _ _ _ g (((hR.2 c2).2 x3 e3).1 c4), fun c5 => ⟨(((hR.2 c2).2 x3 e3).2 c5).1, fun x6 e6 => ⟨((((hR.2 c2).2 x3 e3).2 c5).2 x6 e6).1, fun x7 e7 => wcX11_bit (((((hR.2 c2).2 x3 e3).2 c5).2 x6 e6).2 x7 e7) (fun y8_0 h8 => fun x9 e9 => fun x10 e10 => wcX11_lowest ((h8 x9 e9) x10 e10) (fun y11_0 h11 => fun x12 e12 => fun x13 e13 => ih.2.2.1 _ _ _ g ((h11 x12 e12) x13 e13)))⟩⟩⟩⟩⟩
    · intro t li lj g hR
      have hR : wbX11_root_3 (wpX11_root k) k t li lj Q := hR
      show wbX11_root_3 (wpX11_root k) k t li lj (fun r t => Q r t ∧ G t)
      unfold wbX11_root_3 at hR ⊢
      exact ⟨fun c1 => ⟨(hR.1 c1), g⟩, fun c2 => ⟨(hR.2 c2), g⟩⟩
theorem zgX11_root {G : XT → Prop} {k : Nat} {t : XT} {a1 : Int32} {a2 : Int32} {Q : Int32 → XT → Prop} (hk : kpP G) (g : G t) (hR : wqX11_root k t a1 a2 Q) : wqX11_root k t a1 a2 (fun r t => Q r t ∧ G t) := (zfX11_root hk Q k).1 t _ _ g hR
theorem ztX11_root {G : XT → Prop} {k : Nat} {t : XT} {a1 : Int32} {a2 : Int32} {Q Q' : Int32 → XT → Prop} (hk : kpP G) (g : G t) (hR : wqX11_root k t a1 a2 Q) (hQ : (∀ r t, Q r t → G t → Q' r t)) : wqX11_root k t a1 a2 Q' := wmX11_root (Nat.le_refl k) (fun r t h => hQ r t h.1 h.2) (zgX11_root hk g hR)
set_option maxHeartbeats 4000000 in
set_option maxRecDepth 100000 in
theorem zfX11_through {G : XT → Prop} (hk : kpP G) (Q : Int64 → XT → Prop) : ∀ k : Nat, (∀ (t : XT) (li : Nat → Int32) (lj : Nat → Int64), G t → wpX11_through k 0 t li lj Q → wpX11_through k 0 t li lj (fun r t => Q r t ∧ G t)) ∧ (∀ (t : XT) (li : Nat → Int32) (lj : Nat → Int64), G t → wpX11_through k 1 t li lj Q → wpX11_through k 1 t li lj (fun r t => Q r t ∧ G t)) := by
  intro k
  induction k with
  | zero => exact ⟨fun _ _ _ _ hR => False.elim hR, fun _ _ _ _ hR => False.elim hR⟩
  | succ k ih =>
    refine ⟨?_, ?_⟩
    · intro t li lj g hR
      have hR : wbX11_through_0 (wpX11_through k) k t li lj Q := hR
      show wbX11_through_0 (wpX11_through k) k t li lj (fun r t => Q r t ∧ G t)
      unfold wbX11_through_0 at hR ⊢
      exact ztX11_areEnds hk g hR (fun y1_0 y1_1 h1 g1 => ⟨fun c2 => ih.2 _ _ _ g1 (h1.1 c2), fun c3 => ztX11_isThere hk g1 (h1.2 c3) (fun y4_0 y4_1 h4 g4 => ⟨fun c5 => ztX1_start hk g4 (h4.1 c5) (fun y6_0 h6 g6 => ⟨h6.1, fun x7 e7 => ztX1_pour hk g6 (h6.2 x7 e7) (fun y8_0 h8 g8 => ztX1_countWays hk g8 h8 (fun y9_0 y9_1 h9 g9 => ⟨h9.1, fun x10 e10 => ⟨(h9.2 x10 e10).1, fun x11 e11 => fun x12 e12 => ⟨(((h9.2 x10 e10).2 x11 e11) x12 e12), g9⟩⟩⟩))⟩), fun c13 => ih.2 _ _ _ g4 (h4.2 c13)⟩)⟩)
    · intro t li lj g hR
      have hR : wbX11_through_1 (wpX11_through k) k t li lj Q := hR
      show wbX11_through_1 (wpX11_through k) k t li lj (fun r t => Q r t ∧ G t)
      unfold wbX11_through_1 at hR ⊢
      exact ⟨hR, g⟩
theorem zgX11_through {G : XT → Prop} {k : Nat} {t : XT} {a1 : Int32} {a2 : Int32} {a3 : Int32} {Q : Int64 → XT → Prop} (hk : kpP G) (g : G t) (hR : wqX11_through k t a1 a2 a3 Q) : wqX11_through k t a1 a2 a3 (fun r t => Q r t ∧ G t) := (zfX11_through hk Q k).1 t _ _ g hR
theorem ztX11_through {G : XT → Prop} {k : Nat} {t : XT} {a1 : Int32} {a2 : Int32} {a3 : Int32} {Q Q' : Int64 → XT → Prop} (hk : kpP G) (g : G t) (hR : wqX11_through k t a1 a2 a3 Q) (hQ : (∀ r t, Q r t → G t → Q' r t)) : wqX11_through k t a1 a2 a3 Q' := wmX11_through (Nat.le_refl k) (fun r t h => hQ r t h.1 h.2) (zgX11_through hk g hR)
set_option maxHeartbeats 4000000 in
set_option maxRecDepth 100000 in
theorem zfX1_holdOnly {G : XT → Prop} (hk : kpP G) (Q : XT → Prop) : ∀ k : Nat, (∀ (t : XT) (li : Nat → Int32) (lj : Nat → Int64), G t → wpX1_holdOnly k 0 t li lj Q → wpX1_holdOnly k 0 t li lj (fun t => Q t ∧ G t)) ∧ (∀ (t : XT) (li : Nat → Int32) (lj : Nat → Int64), G t → wpX1_holdOnly k 1 t li lj Q → wpX1_holdOnly k 1 t li lj (fun t => Q t ∧ G t)) ∧ (∀ (t : XT) (li : Nat → Int32) (lj : Nat → Int64), G t → wpX1_holdOnly k 2 t li lj Q → wpX1_holdOnly k 2 t li lj (fun t => Q t ∧ G t)) := by
  intro k
  induction k with
  | zero => exact ⟨fun _ _ _ _ hR => False.elim hR, fun _ _ _ _ hR => False.elim hR, fun _ _ _ _ hR => False.elim hR⟩
  | succ k ih =>
    refine ⟨?_, ?_, ?_⟩
    · intro t li lj g hR
      have hR : wbX1_holdOnly_0 (wpX1_holdOnly k) k t li lj Q := hR
      show wbX1_holdOnly_0 (wpX1_holdOnly k) k t li lj (fun t => Q t ∧ G t)
      unfold wbX1_holdOnly_0 at hR ⊢
      exact ih.2.1 _ _ _ g hR
    · intro t li lj g hR
      have hR : wbX1_holdOnly_1 (wpX1_holdOnly k) k t li lj Q := hR
      show wbX1_holdOnly_1 (wpX1_holdOnly k) k t li lj (fun t => Q t ∧ G t)
      unfold wbX1_holdOnly_1 at hR ⊢
      exact ⟨fun c1 => ⟨(hR.1 c1), g⟩, fun c2 => wcX11_isIn (hR.2 c2) (fun y3_0 h3 => ⟨fun c4 => ih.2.2 _ _ _ g (h3.1 c4), fun c5 => ⟨(h3.2 c5).1, fun x6 e6 => have g6 : G x6 := (by rw [e6]; exact hk.2.2.2 _ _ _ (by decide) g); ih.2.2 _ _ _ g6 ((h3.2 c5).2 x6 e6)⟩⟩)⟩
    · intro t li lj g hR
      have hR : wbX1_holdOnly_2 (wpX1_holdOnly k) k t li lj Q := hR
      show wbX1_holdOnly_2 (wpX1_holdOnly k) k t li lj (fun t => Q t ∧ G t)
      unfold wbX1_holdOnly_2 at hR ⊢
      exact fun x1 e1 => ih.2.1 _ _ _ g (hR x1 e1)
theorem zgX1_holdOnly {G : XT → Prop} {k : Nat} {t : XT} {a1 : Int64} {Q : XT → Prop} (hk : kpP G) (g : G t) (hR : wqX1_holdOnly k t a1 Q) : wqX1_holdOnly k t a1 (fun t => Q t ∧ G t) := (zfX1_holdOnly hk Q k).1 t _ _ g hR
theorem ztX1_holdOnly {G : XT → Prop} {k : Nat} {t : XT} {a1 : Int64} {Q Q' : XT → Prop} (hk : kpP G) (g : G t) (hR : wqX1_holdOnly k t a1 Q) (hQ : (∀ t, Q t → G t → Q' t)) : wqX1_holdOnly k t a1 Q' := wmX1_holdOnly (Nat.le_refl k) (fun t h => hQ t h.1 h.2) (zgX1_holdOnly hk g hR)
set_option maxHeartbeats 4000000 in
set_option maxRecDepth 100000 in
theorem zfX11_squaresFrom {G : XT → Prop} (hk : kpP G) (Q : Int32 → XT → Prop) : ∀ k : Nat, (∀ (t : XT) (li : Nat → Int32) (lj : Nat → Int64), G t → wpX11_squaresFrom k 0 t li lj Q → wpX11_squaresFrom k 0 t li lj (fun r t => Q r t ∧ G t)) ∧ (∀ (t : XT) (li : Nat → Int32) (lj : Nat → Int64), G t → wpX11_squaresFrom k 1 t li lj Q → wpX11_squaresFrom k 1 t li lj (fun r t => Q r t ∧ G t)) ∧ (∀ (t : XT) (li : Nat → Int32) (lj : Nat → Int64), G t → wpX11_squaresFrom k 2 t li lj Q → wpX11_squaresFrom k 2 t li lj (fun r t => Q r t ∧ G t)) := by
  intro k
  induction k with
  | zero => exact ⟨fun _ _ _ _ hR => False.elim hR, fun _ _ _ _ hR => False.elim hR, fun _ _ _ _ hR => False.elim hR⟩
  | succ k ih =>
    refine ⟨?_, ?_, ?_⟩
    · intro t li lj g hR
      have hR : wbX11_squaresFrom_0 (wpX11_squaresFrom k) k t li lj Q := hR
      show wbX11_squaresFrom_0 (wpX11_squaresFrom k) k t li lj (fun r t => Q r t ∧ G t)
      unfold wbX11_squaresFrom_0 at hR ⊢
      exact ⟨hR.1, fun x1 e1 => ⟨fun c2 => ztX6_unpaired hk g ((hR.2 x1 e1).1 c2) (fun y3_0 y3_1 h3 g3 => fun x4 e4 => ⟨(h3 x4 e4).1, fun x5 e5 => fun x6 e6 => ztX6_unpaired hk g3 (((h3 x4 e4).2 x5 e5) x6 e6) (fun y7_0 y7_1 h7 g7 => fun x8 e8 => ⟨(h7 x8 e8).1, fun x9 e9 => fun x10 e10 => ztX1_start hk g7 (((h7 x8 e8).2 x9 e9) x10 e10) (fun y11_0 h11 g11 => ztX1_pour hk g11 h11 (fun y12_0 h12 g12 => ztX1_holdOnly hk g12 h12 (fun y13_0 h13 g13 => fun x14 e14 => ztX1_pour hk g13 (h13 x14 e14) (fun y15_0 h15 g15 => ih.2.1 _ _ _ g15 h15))))⟩)⟩), fun c16 => ⟨((hR.2 x1 e1).2 c16), g⟩⟩⟩
    · intro t li lj g hR
      have hR : wbX11_squaresFrom_1 (wpX11_squaresFrom k) k t li lj Q := hR
      show wbX11_squaresFrom_1 (wpX11_squaresFrom k) k t li lj (fun r t => Q r t ∧ G t)
      unfold wbX11_squaresFrom_1 at hR ⊢
      exact ⟨fun c1 => ⟨(hR.1 c1), g⟩, fun c2 => wcX11_isIn (hR.2 c2) (fun y3_0 h3 => ⟨fun c4 => ih.2.2 _ _ _ g (h3.1 c4), fun c5 => ⟨(h3.2 c5).1, fun x6 e6 => fun x7 e7 => ⟨fun c8 => ih.2.2 _ _ _ g ((((h3.2 c5).2 x6 e6) x7 e7).1 c8), fun c9 => fun x10 e10 => ih.2.2 _ _ _ g (((((h3.2 c5).2 x6 e6) x7 e7).2 c9) x10 e10)⟩⟩⟩)⟩
    · intro t li lj g hR
      have hR : wbX11_squaresFrom_2 (wpX11_squaresFrom k) k t li lj Q := hR
      show wbX11_squaresFrom_2 (wpX11_squaresFrom k) k t li lj (fun r t => Q r t ∧ G t)
      unfold wbX11_squaresFrom_2 at hR ⊢
      exact fun x1 e1 => ih.2.1 _ _ _ g (hR x1 e1)
theorem zgX11_squaresFrom {G : XT → Prop} {k : Nat} {t : XT} {a1 : Int32} {Q : Int32 → XT → Prop} (hk : kpP G) (g : G t) (hR : wqX11_squaresFrom k t a1 Q) : wqX11_squaresFrom k t a1 (fun r t => Q r t ∧ G t) := (zfX11_squaresFrom hk Q k).1 t _ _ g hR
theorem ztX11_squaresFrom {G : XT → Prop} {k : Nat} {t : XT} {a1 : Int32} {Q Q' : Int32 → XT → Prop} (hk : kpP G) (g : G t) (hR : wqX11_squaresFrom k t a1 Q) (hQ : (∀ r t, Q r t → G t → Q' r t)) : wqX11_squaresFrom k t a1 Q' := wmX11_squaresFrom (Nat.le_refl k) (fun r t h => hQ r t h.1 h.2) (zgX11_squaresFrom hk g hR)
set_option maxHeartbeats 4000000 in
set_option maxRecDepth 100000 in
theorem zfX11_squares {G : XT → Prop} (hk : kpP G) (Q : Int32 → XT → Prop) : ∀ k : Nat, (∀ (t : XT) (li : Nat → Int32) (lj : Nat → Int64), G t → wpX11_squares k 0 t li lj Q → wpX11_squares k 0 t li lj (fun r t => Q r t ∧ G t)) ∧ (∀ (t : XT) (li : Nat → Int32) (lj : Nat → Int64), G t → wpX11_squares k 1 t li lj Q → wpX11_squares k 1 t li lj (fun r t => Q r t ∧ G t)) ∧ (∀ (t : XT) (li : Nat → Int32) (lj : Nat → Int64), G t → wpX11_squares k 2 t li lj Q → wpX11_squares k 2 t li lj (fun r t => Q r t ∧ G t)) := by
  intro k
  induction k with
  | zero => exact ⟨fun _ _ _ _ hR => False.elim hR, fun _ _ _ _ hR => False.elim hR, fun _ _ _ _ hR => False.elim hR⟩
  | succ k ih =>
    refine ⟨?_, ?_, ?_⟩
    · intro t li lj g hR
      have hR : wbX11_squares_0 (wpX11_squares k) k t li lj Q := hR
      show wbX11_squares_0 (wpX11_squares k) k t li lj (fun r t => Q r t ∧ G t)
      unfold wbX11_squares_0 at hR ⊢
      exact ztX6_unpaired hk g hR (fun y1_0 y1_1 h1 g1 => ih.2.1 _ _ _ g1 h1)
    · intro t li lj g hR
      have hR : wbX11_squares_1 (wpX11_squares k) k t li lj Q := hR
      show wbX11_squares_1 (wpX11_squares k) k t li lj (fun r t => Q r t ∧ G t)
      unfold wbX11_squares_1 at hR ⊢
      exact ⟨fun c1 => ⟨(hR.1 c1), g⟩, fun c2 => wcX11_isIn (hR.2 c2) (fun y3_0 h3 => ⟨fun c4 => ih.2.2 _ _ _ g (h3.1 c4), fun c5 => ⟨(h3.2 c5).1, fun x6 e6 => ⟨fun c7 => ih.2.2 _ _ _ g (((h3.2 c5).2 x6 e6).1 c7), fun c8 => ztX11_squaresFrom hk g (((h3.2 c5).2 x6 e6).2 c8) (fun y9_0 y9_1 h9 g9 => fun x10 e10 => ih.2.2 _ _ _ g9 (h9 x10 e10))⟩⟩⟩)⟩
    · intro t li lj g hR
      have hR : wbX11_squares_2 (wpX11_squares k) k t li lj Q := hR
      show wbX11_squares_2 (wpX11_squares k) k t li lj (fun r t => Q r t ∧ G t)
      unfold wbX11_squares_2 at hR ⊢
      exact fun x1 e1 => ih.2.1 _ _ _ g (hR x1 e1)
theorem zgX11_squares {G : XT → Prop} {k : Nat} {t : XT}  {Q : Int32 → XT → Prop} (hk : kpP G) (g : G t) (hR : wqX11_squares k t  Q) : wqX11_squares k t  (fun r t => Q r t ∧ G t) := (zfX11_squares hk Q k).1 t _ _ g hR
theorem ztX11_squares {G : XT → Prop} {k : Nat} {t : XT}  {Q Q' : Int32 → XT → Prop} (hk : kpP G) (g : G t) (hR : wqX11_squares k t  Q) (hQ : (∀ r t, Q r t → G t → Q' r t)) : wqX11_squares k t  Q' := wmX11_squares (Nat.le_refl k) (fun r t h => hQ r t h.1 h.2) (zgX11_squares hk g hR)
set_option maxHeartbeats 4000000 in
set_option maxRecDepth 100000 in
theorem zfX11_basis {G : XT → Prop} (hk : kpP G) (Q : Int64 → XT → Prop) : ∀ k : Nat, (∀ (t : XT) (li : Nat → Int32) (lj : Nat → Int64), G t → wpX11_basis k 0 t li lj Q → wpX11_basis k 0 t li lj (fun r t => Q r t ∧ G t)) := by
  intro k
  induction k with
  | zero => exact fun _ _ _ _ hR => False.elim hR
  | succ k ih =>
    intro t li lj g hR
    have hR : wbX11_basis_0 (wpX11_basis k) k t li lj Q := hR
    show wbX11_basis_0 (wpX11_basis k) k t li lj (fun r t => Q r t ∧ G t)
    unfold wbX11_basis_0 at hR ⊢
    exact ⟨fun c1 => ⟨(hR.1 c1), g⟩, fun c2 => ztX6_unpaired hk g (hR.2 c2) (fun y3_0 y3_1 h3 g3 => ⟨h3, g3⟩)⟩
theorem zgX11_basis {G : XT → Prop} {k : Nat} {t : XT} {a1 : Int32} {Q : Int64 → XT → Prop} (hk : kpP G) (g : G t) (hR : wqX11_basis k t a1 Q) : wqX11_basis k t a1 (fun r t => Q r t ∧ G t) := (zfX11_basis hk Q k) t _ _ g hR
theorem ztX11_basis {G : XT → Prop} {k : Nat} {t : XT} {a1 : Int32} {Q Q' : Int64 → XT → Prop} (hk : kpP G) (g : G t) (hR : wqX11_basis k t a1 Q) (hQ : (∀ r t, Q r t → G t → Q' r t)) : wqX11_basis k t a1 Q' := wmX11_basis (Nat.le_refl k) (fun r t h => hQ r t h.1 h.2) (zgX11_basis hk g hR)
set_option maxHeartbeats 4000000 in
set_option maxRecDepth 100000 in
theorem zfX5_resize {G : XT → Prop} (hk : kpP G) (Q : XT → Prop) : ∀ k : Nat, (∀ (t : XT) (li : Nat → Int32) (lj : Nat → Int64), G t → wpX5_resize k 0 t li lj Q → wpX5_resize k 0 t li lj (fun t => Q t ∧ G t)) ∧ (∀ (t : XT) (li : Nat → Int32) (lj : Nat → Int64), G t → wpX5_resize k 1 t li lj Q → wpX5_resize k 1 t li lj (fun t => Q t ∧ G t)) ∧ (∀ (t : XT) (li : Nat → Int32) (lj : Nat → Int64), G t → wpX5_resize k 2 t li lj Q → wpX5_resize k 2 t li lj (fun t => Q t ∧ G t)) ∧ (∀ (t : XT) (li : Nat → Int32) (lj : Nat → Int64), G t → wpX5_resize k 3 t li lj Q → wpX5_resize k 3 t li lj (fun t => Q t ∧ G t)) ∧ (∀ (t : XT) (li : Nat → Int32) (lj : Nat → Int64), G t → wpX5_resize k 4 t li lj Q → wpX5_resize k 4 t li lj (fun t => Q t ∧ G t)) := by
  intro k
  induction k with
  | zero => exact ⟨fun _ _ _ _ hR => False.elim hR, fun _ _ _ _ hR => False.elim hR, fun _ _ _ _ hR => False.elim hR, fun _ _ _ _ hR => False.elim hR, fun _ _ _ _ hR => False.elim hR⟩
  | succ k ih =>
    refine ⟨?_, ?_, ?_, ?_, ?_⟩
    · intro t li lj g hR
      have hR : wbX5_resize_0 (wpX5_resize k) k t li lj Q := hR
      show wbX5_resize_0 (wpX5_resize k) k t li lj (fun t => Q t ∧ G t)
      unfold wbX5_resize_0 at hR ⊢
      exact ⟨fun c1 => ih.2.1 _ _ _ g (hR.1 c1), fun c2 => ⟨fun c3 => ih.2.1 _ _ _ g ((hR.2 c2).1 c3), fun c4 => ⟨fun c5 => ih.2.1 _ _ _ g (((hR.2 c2).2 c4).1 c5), fun c6 => ⟨fun c7 => ih.2.1 _ _ _ g ((((hR.2 c2).2 c4).2 c6).1 c7), fun c8 => fun x9 e9 => ⟨fun c10 => ih.2.1 _ _ _ g ((((((hR.2 c2).2 c4).2 c6).2 c8) x9 e9).1 c10), fun c11 => ih.2.2.1 _ _ _ g ((((((hR.2 c2).2 c4).2 c6).2 c8) x9 e9).2 c11)⟩⟩⟩⟩⟩
    · intro t li lj g hR
      have hR : wbX5_resize_1 (wpX5_resize k) k t li lj Q := hR
      show wbX5_resize_1 (wpX5_resize k) k t li lj (fun t => Q t ∧ G t)
      unfold wbX5_resize_1 at hR ⊢
      exact ih.2.2.1 _ _ _ g hR
    · intro t li lj g hR
      have hR : wbX5_resize_2 (wpX5_resize k) k t li lj Q := hR
      show wbX5_resize_2 (wpX5_resize k) k t li lj (fun t => Q t ∧ G t)
      unfold wbX5_resize_2 at hR ⊢
      exact ⟨fun c1 => ih.2.2.2.1 _ _ _ g (hR.1 c1), fun c2 => ih.2.2.2.1 _ _ _ g (hR.2 c2)⟩
    · intro t li lj g hR
      have hR : wbX5_resize_3 (wpX5_resize k) k t li lj Q := hR
      show wbX5_resize_3 (wpX5_resize k) k t li lj (fun t => Q t ∧ G t)
      unfold wbX5_resize_3 at hR ⊢
      exact fun x1 e1 => have g1 : G x1 := (by rw [e1]; exact hk.1 _ _ _ (by decide) (by decide) g); ⟨fun c2 => ih.2.2.2.2 _ _ _ g1 ((hR x1 e1).1 c2), fun c3 => ih.2.2.2.2 _ _ _ g1 ((hR x1 e1).2 c3)⟩
    · intro t li lj g hR
      have hR : wbX5_resize_4 (wpX5_resize k) k t li lj Q := hR
      show wbX5_resize_4 (wpX5_resize k) k t li lj (fun t => Q t ∧ G t)
      unfold wbX5_resize_4 at hR ⊢
      exact fun x1 e1 => have g1 : G x1 := (by rw [e1]; exact hk.1 _ _ _ (by decide) (by decide) g); ⟨(hR x1 e1), g1⟩
theorem zgX5_resize {G : XT → Prop} {k : Nat} {t : XT} {a1 : Int32} {a2 : Int32} {Q : XT → Prop} (hk : kpP G) (g : G t) (hR : wqX5_resize k t a1 a2 Q) : wqX5_resize k t a1 a2 (fun t => Q t ∧ G t) := (zfX5_resize hk Q k).1 t _ _ g hR
theorem ztX5_resize {G : XT → Prop} {k : Nat} {t : XT} {a1 : Int32} {a2 : Int32} {Q Q' : XT → Prop} (hk : kpP G) (g : G t) (hR : wqX5_resize k t a1 a2 Q) (hQ : (∀ t, Q t → G t → Q' t)) : wqX5_resize k t a1 a2 Q' := wmX5_resize (Nat.le_refl k) (fun t h => hQ t h.1 h.2) (zgX5_resize hk g hR)
set_option maxHeartbeats 4000000 in
set_option maxRecDepth 100000 in
theorem zfX5_put {G : XT → Prop} (hk : kpP G) (Q : XT → Prop) : ∀ k : Nat, (∀ (t : XT) (li : Nat → Int32) (lj : Nat → Int64), G t → wpX5_put k 0 t li lj Q → wpX5_put k 0 t li lj (fun t => Q t ∧ G t)) := by
  intro k
  induction k with
  | zero => exact fun _ _ _ _ hR => False.elim hR
  | succ k ih =>
    intro t li lj g hR
    have hR : wbX5_put_0 (wpX5_put k) k t li lj Q := hR
    show wbX5_put_0 (wpX5_put k) k t li lj (fun t => Q t ∧ G t)
    unfold wbX5_put_0 at hR ⊢
    exact ⟨fun c1 => ⟨(hR.1 c1), g⟩, fun c2 => ⟨fun c3 => ⟨((hR.2 c2).1 c3), g⟩, fun c4 => ⟨fun c5 => ⟨(((hR.2 c2).2 c4).1 c5), g⟩, fun c6 => ⟨fun c7 => ⟨((((hR.2 c2).2 c4).2 c6).1 c7), g⟩, fun c8 => fun x9 e9 => fun x10 e10 => ⟨((((((hR.2 c2).2 c4).2 c6).2 c8) x9 e9) x10 e10).1, fun x11 e11 => have g11 : G x11 := (by rw [e11]; exact hk.2.2.2 _ _ _ (by decide) g); ⟨(((((((hR.2 c2).2 c4).2 c6).2 c8) x9 e9) x10 e10).2 x11 e11), g11⟩⟩⟩⟩⟩⟩
theorem zgX5_put {G : XT → Prop} {k : Nat} {t : XT} {a1 : Int32} {a2 : Int32} {a3 : Int64} {Q : XT → Prop} (hk : kpP G) (g : G t) (hR : wqX5_put k t a1 a2 a3 Q) : wqX5_put k t a1 a2 a3 (fun t => Q t ∧ G t) := (zfX5_put hk Q k) t _ _ g hR
theorem ztX5_put {G : XT → Prop} {k : Nat} {t : XT} {a1 : Int32} {a2 : Int32} {a3 : Int64} {Q Q' : XT → Prop} (hk : kpP G) (g : G t) (hR : wqX5_put k t a1 a2 a3 Q) (hQ : (∀ t, Q t → G t → Q' t)) : wqX5_put k t a1 a2 a3 Q' := wmX5_put (Nat.le_refl k) (fun t h => hQ t h.1 h.2) (zgX5_put hk g hR)
set_option maxHeartbeats 4000000 in
set_option maxRecDepth 100000 in
theorem zfX0_fillRow {G : XT → Prop} (hk : kpP G) (Q : XT → Prop) : ∀ k : Nat, (∀ (t : XT) (li : Nat → Int32) (lj : Nat → Int64), G t → wpX0_fillRow k 0 t li lj Q → wpX0_fillRow k 0 t li lj (fun t => Q t ∧ G t)) ∧ (∀ (t : XT) (li : Nat → Int32) (lj : Nat → Int64), G t → wpX0_fillRow k 1 t li lj Q → wpX0_fillRow k 1 t li lj (fun t => Q t ∧ G t)) ∧ (∀ (t : XT) (li : Nat → Int32) (lj : Nat → Int64), G t → wpX0_fillRow k 2 t li lj Q → wpX0_fillRow k 2 t li lj (fun t => Q t ∧ G t)) ∧ (∀ (t : XT) (li : Nat → Int32) (lj : Nat → Int64), G t → wpX0_fillRow k 3 t li lj Q → wpX0_fillRow k 3 t li lj (fun t => Q t ∧ G t)) := by
  intro k
  induction k with
  | zero => exact ⟨fun _ _ _ _ hR => False.elim hR, fun _ _ _ _ hR => False.elim hR, fun _ _ _ _ hR => False.elim hR, fun _ _ _ _ hR => False.elim hR⟩
  | succ k ih =>
    refine ⟨?_, ?_, ?_, ?_⟩
    · intro t li lj g hR
      have hR : wbX0_fillRow_0 (wpX0_fillRow k) k t li lj Q := hR
      show wbX0_fillRow_0 (wpX0_fillRow k) k t li lj (fun t => Q t ∧ G t)
      unfold wbX0_fillRow_0 at hR ⊢
      exact ih.2.1 _ _ _ g hR
    · intro t li lj g hR
      have hR : wbX0_fillRow_1 (wpX0_fillRow k) k t li lj Q := hR
      show wbX0_fillRow_1 (wpX0_fillRow k) k t li lj (fun t => Q t ∧ G t)
      unfold wbX0_fillRow_1 at hR ⊢
      exact ⟨fun c1 => ⟨(hR.1 c1), g⟩, fun c2 => wcX11_isIn (hR.2 c2) (fun y3_0 h3 => ⟨fun c4 => ih.2.2.2 _ _ _ g (h3.1 c4), fun c5 => ⟨fun c6 => ztX9_signOf hk g ((h3.2 c5).1 c6) (fun y7_0 y7_1 h7 g7 => fun x8 e8 => ih.2.2.1 _ _ _ g7 (h7 x8 e8)), fun c9 => ⟨((h3.2 c5).2 c9).1, fun x10 e10 => ih.2.2.1 _ _ _ g (((h3.2 c5).2 c9).2 x10 e10)⟩⟩⟩)⟩
    · intro t li lj g hR
      have hR : wbX0_fillRow_2 (wpX0_fillRow k) k t li lj Q := hR
      show wbX0_fillRow_2 (wpX0_fillRow k) k t li lj (fun t => Q t ∧ G t)
      unfold wbX0_fillRow_2 at hR ⊢
      exact ztX5_put hk g hR (fun y1_0 h1 g1 => fun x2 e2 => ih.2.2.2 _ _ _ g1 (h1 x2 e2))
    · intro t li lj g hR
      have hR : wbX0_fillRow_3 (wpX0_fillRow k) k t li lj Q := hR
      show wbX0_fillRow_3 (wpX0_fillRow k) k t li lj (fun t => Q t ∧ G t)
      unfold wbX0_fillRow_3 at hR ⊢
      exact fun x1 e1 => ih.2.1 _ _ _ g (hR x1 e1)
theorem zgX0_fillRow {G : XT → Prop} {k : Nat} {t : XT} {a1 : Int32} {a2 : Int32} {a3 : Int64} {a4 : Int32} {Q : XT → Prop} (hk : kpP G) (g : G t) (hR : wqX0_fillRow k t a1 a2 a3 a4 Q) : wqX0_fillRow k t a1 a2 a3 a4 (fun t => Q t ∧ G t) := (zfX0_fillRow hk Q k).1 t _ _ g hR
theorem ztX0_fillRow {G : XT → Prop} {k : Nat} {t : XT} {a1 : Int32} {a2 : Int32} {a3 : Int64} {a4 : Int32} {Q Q' : XT → Prop} (hk : kpP G) (g : G t) (hR : wqX0_fillRow k t a1 a2 a3 a4 Q) (hQ : (∀ t, Q t → G t → Q' t)) : wqX0_fillRow k t a1 a2 a3 a4 Q' := wmX0_fillRow (Nat.le_refl k) (fun t h => hQ t h.1 h.2) (zgX0_fillRow hk g hR)
set_option maxHeartbeats 4000000 in
set_option maxRecDepth 100000 in
theorem zfX0_fill {G : XT → Prop} (hk : kpP G) (Q : XT → Prop) : ∀ k : Nat, (∀ (t : XT) (li : Nat → Int32) (lj : Nat → Int64), G t → wpX0_fill k 0 t li lj Q → wpX0_fill k 0 t li lj (fun t => Q t ∧ G t)) ∧ (∀ (t : XT) (li : Nat → Int32) (lj : Nat → Int64), G t → wpX0_fill k 1 t li lj Q → wpX0_fill k 1 t li lj (fun t => Q t ∧ G t)) ∧ (∀ (t : XT) (li : Nat → Int32) (lj : Nat → Int64), G t → wpX0_fill k 2 t li lj Q → wpX0_fill k 2 t li lj (fun t => Q t ∧ G t)) ∧ (∀ (t : XT) (li : Nat → Int32) (lj : Nat → Int64), G t → wpX0_fill k 3 t li lj Q → wpX0_fill k 3 t li lj (fun t => Q t ∧ G t)) := by
  intro k
  induction k with
  | zero => exact ⟨fun _ _ _ _ hR => False.elim hR, fun _ _ _ _ hR => False.elim hR, fun _ _ _ _ hR => False.elim hR, fun _ _ _ _ hR => False.elim hR⟩
  | succ k ih =>
    refine ⟨?_, ?_, ?_, ?_⟩
    · intro t li lj g hR
      have hR : wbX0_fill_0 (wpX0_fill k) k t li lj Q := hR
      show wbX0_fill_0 (wpX0_fill k) k t li lj (fun t => Q t ∧ G t)
      unfold wbX0_fill_0 at hR ⊢
      exact wcJ13_bitCount_95d88 hR (fun y1_0 h1 => wcJ13_bitCount_95d88 h1 (fun y2_0 h2 => ztX5_resize hk g h2 (fun y3_0 h3 g3 => ih.2.1 _ _ _ g3 h3)))
    · intro t li lj g hR
      have hR : wbX0_fill_1 (wpX0_fill k) k t li lj Q := hR
      show wbX0_fill_1 (wpX0_fill k) k t li lj (fun t => Q t ∧ G t)
      unfold wbX0_fill_1 at hR ⊢
      exact ⟨fun c1 => ⟨(hR.1 c1), g⟩, fun c2 => wcX11_isIn (hR.2 c2) (fun y3_0 h3 => ⟨fun c4 => ih.2.2.2 _ _ _ g (h3.1 c4), fun c5 => ⟨fun c6 => ih.2.2.1 _ _ _ g ((h3.2 c5).1 c6), fun c7 => ztX1_start hk g ((h3.2 c5).2 c7) (fun y8_0 h8 g8 => ⟨h8.1, fun x9 e9 => ztX1_pour hk g8 (h8.2 x9 e9) (fun y10_0 h10 g10 => ih.2.2.1 _ _ _ g10 h10)⟩)⟩⟩)⟩
    · intro t li lj g hR
      have hR : wbX0_fill_2 (wpX0_fill k) k t li lj Q := hR
      show wbX0_fill_2 (wpX0_fill k) k t li lj (fun t => Q t ∧ G t)
      unfold wbX0_fill_2 at hR ⊢
      exact ztX0_fillRow hk g hR (fun y1_0 h1 g1 => fun x2 e2 => ih.2.2.2 _ _ _ g1 (h1 x2 e2))
    · intro t li lj g hR
      have hR : wbX0_fill_3 (wpX0_fill k) k t li lj Q := hR
      show wbX0_fill_3 (wpX0_fill k) k t li lj (fun t => Q t ∧ G t)
      unfold wbX0_fill_3 at hR ⊢
      exact fun x1 e1 => ih.2.1 _ _ _ g (hR x1 e1)
theorem zgX0_fill {G : XT → Prop} {k : Nat} {t : XT} {a1 : Int64} {a2 : Int64} {a3 : Int32} {Q : XT → Prop} (hk : kpP G) (g : G t) (hR : wqX0_fill k t a1 a2 a3 Q) : wqX0_fill k t a1 a2 a3 (fun t => Q t ∧ G t) := (zfX0_fill hk Q k).1 t _ _ g hR
theorem ztX0_fill {G : XT → Prop} {k : Nat} {t : XT} {a1 : Int64} {a2 : Int64} {a3 : Int32} {Q Q' : XT → Prop} (hk : kpP G) (g : G t) (hR : wqX0_fill k t a1 a2 a3 Q) (hQ : (∀ t, Q t → G t → Q' t)) : wqX0_fill k t a1 a2 a3 Q' := wmX0_fill (Nat.le_refl k) (fun t h => hQ t h.1 h.2) (zgX0_fill hk g hR)
set_option maxHeartbeats 4000000 in
set_option maxRecDepth 100000 in
theorem zfX5_firstRow {G : XT → Prop} (hk : kpP G) (Q : Int32 → XT → Prop) : ∀ k : Nat, (∀ (t : XT) (li : Nat → Int32) (lj : Nat → Int64), G t → wpX5_firstRow k 0 t li lj Q → wpX5_firstRow k 0 t li lj (fun r t => Q r t ∧ G t)) ∧ (∀ (t : XT) (li : Nat → Int32) (lj : Nat → Int64), G t → wpX5_firstRow k 1 t li lj Q → wpX5_firstRow k 1 t li lj (fun r t => Q r t ∧ G t)) := by
  intro k
  induction k with
  | zero => exact ⟨fun _ _ _ _ hR => False.elim hR, fun _ _ _ _ hR => False.elim hR⟩
  | succ k ih =>
    refine ⟨?_, ?_⟩
    · intro t li lj g hR
      have hR : wbX5_firstRow_0 (wpX5_firstRow k) k t li lj Q := hR
      show wbX5_firstRow_0 (wpX5_firstRow k) k t li lj (fun r t => Q r t ∧ G t)
      unfold wbX5_firstRow_0 at hR ⊢
      exact ih.2 _ _ _ g hR
    · intro t li lj g hR
      have hR : wbX5_firstRow_1 (wpX5_firstRow k) k t li lj Q := hR
      show wbX5_firstRow_1 (wpX5_firstRow k) k t li lj (fun r t => Q r t ∧ G t)
      unfold wbX5_firstRow_1 at hR ⊢
      exact ⟨fun c1 => ⟨(hR.1 c1), g⟩, fun c2 => fun x3 e3 => fun x4 e4 => ⟨(((hR.2 c2) x3 e3) x4 e4).1, fun x5 e5 => fun x6 e6 => ⟨fun c7 => fun x8 e8 => ih.2 _ _ _ g (((((((hR.2 c2) x3 e3) x4 e4).2 x5 e5) x6 e6).1 c7) x8 e8), fun c9 => ⟨((((((hR.2 c2) x3 e3) x4 e4).2 x5 e5) x6 e6).2 c9), g⟩⟩⟩⟩
theorem zgX5_firstRow {G : XT → Prop} {k : Nat} {t : XT} {a1 : Int32} {a2 : Int32} {Q : Int32 → XT → Prop} (hk : kpP G) (g : G t) (hR : wqX5_firstRow k t a1 a2 Q) : wqX5_firstRow k t a1 a2 (fun r t => Q r t ∧ G t) := (zfX5_firstRow hk Q k).1 t _ _ g hR
theorem ztX5_firstRow {G : XT → Prop} {k : Nat} {t : XT} {a1 : Int32} {a2 : Int32} {Q Q' : Int32 → XT → Prop} (hk : kpP G) (g : G t) (hR : wqX5_firstRow k t a1 a2 Q) (hQ : (∀ r t, Q r t → G t → Q' r t)) : wqX5_firstRow k t a1 a2 Q' := wmX5_firstRow (Nat.le_refl k) (fun r t h => hQ r t h.1 h.2) (zgX5_firstRow hk g hR)
