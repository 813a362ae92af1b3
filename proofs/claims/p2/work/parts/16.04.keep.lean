set_option maxHeartbeats 4000000 in
set_option maxRecDepth 100000 in
theorem wfX11_torsion {G : XT → Prop} (hk : kp G) (Q : Int64 → XT → Prop) : ∀ k : Nat, (∀ (t : XT) (li : Nat → Int32) (lj : Nat → Int64), G t → wpX11_torsion k 0 t li lj Q → wpX11_torsion k 0 t li lj (fun r t => Q r t ∧ G t)) ∧ (∀ (t : XT) (li : Nat → Int32) (lj : Nat → Int64), G t → wpX11_torsion k 1 t li lj Q → wpX11_torsion k 1 t li lj (fun r t => Q r t ∧ G t)) ∧ (∀ (t : XT) (li : Nat → Int32) (lj : Nat → Int64), G t → wpX11_torsion k 2 t li lj Q → wpX11_torsion k 2 t li lj (fun r t => Q r t ∧ G t)) := by
  intro k
  induction k with
  | zero => exact ⟨fun _ _ _ _ hR => False.elim hR, fun _ _ _ _ hR => False.elim hR, fun _ _ _ _ hR => False.elim hR⟩
  | succ k ih =>
    refine ⟨?_, ?_, ?_⟩
    · intro t li lj g hR
      have hR : wbX11_torsion_0 (wpX11_torsion k) k t li lj Q := hR
      show wbX11_torsion_0 (wpX11_torsion k) k t li lj (fun r t => Q r t ∧ G t)
      unfold wbX11_torsion_0 at hR ⊢
      exact wcX11_isDim hR (fun y1_0 h1 => ⟨fun c2 => ih.2.1 _ _ _ g (h1.1 c2), fun c3 => ⟨fun c4 => ih.2.1 _ _ _ g ((h1.2 c3).1 c4), fun c5 => ⟨fun c6 => ih.2.1 _ _ _ g (((h1.2 c3).2 c5).1 c6), fun c7 => ⟨fun c8 => wcX11_basis hk g ((((h1.2 c3).2 c5).2 c7).1 c8) (fun y9_0 y9_1 h9 g9 => ⟨fun c10 => ih.2.2 _ _ _ g9 (h9.1 c10), fun c11 => ih.2.2 _ _ _ g9 (h9.2 c11)⟩), fun c12 => ih.2.1 _ _ _ g ((((h1.2 c3).2 c5).2 c7).2 c12)⟩⟩⟩⟩)
    · intro t li lj g hR
      have hR : wbX11_torsion_1 (wpX11_torsion k) k t li lj Q := hR
      show wbX11_torsion_1 (wpX11_torsion k) k t li lj (fun r t => Q r t ∧ G t)
      unfold wbX11_torsion_1 at hR ⊢
      exact ⟨hR, g⟩
    · intro t li lj g hR
      have hR : wbX11_torsion_2 (wpX11_torsion k) k t li lj Q := hR
      show wbX11_torsion_2 (wpX11_torsion k) k t li lj (fun r t => Q r t ∧ G t)
      unfold wbX11_torsion_2 at hR ⊢
      exact wcX0_torsionsOf hk g hR (fun y1_0 y1_1 h1 g1 => ⟨fun c2 => ⟨fun c3 => ⟨((h1.1 c2).1 c3), g1⟩, fun c4 => ⟨((h1.1 c2).2 c4).1, fun x5 e5 => ⟨(((h1.1 c2).2 c4).2 x5 e5), g1⟩⟩⟩, fun c6 => fun x7 e7 => ⟨((h1.2 c6) x7 e7), g1⟩⟩)
theorem wgX11_torsion {G : XT → Prop} {k : Nat} {t : XT} {a1 : Int32} {a2 : Int32} {a3 : Int32} {Q : Int64 → XT → Prop} (hk : kp G) (g : G t) (hR : wqX11_torsion k t a1 a2 a3 Q) : wqX11_torsion k t a1 a2 a3 (fun r t => Q r t ∧ G t) := (wfX11_torsion hk Q k).1 t _ _ g hR
theorem wcX11_torsion {G : XT → Prop} {k : Nat} {t : XT} {a1 : Int32} {a2 : Int32} {a3 : Int32} {Q Q' : Int64 → XT → Prop} (hk : kp G) (g : G t) (hR : wqX11_torsion k t a1 a2 a3 Q) (hQ : (∀ r t, Q r t → G t → Q' r t)) : wqX11_torsion k t a1 a2 a3 Q' := wmX11_torsion (Nat.le_refl k) (fun r t h => hQ r t h.1 h.2) (wgX11_torsion hk g hR)
set_option maxHeartbeats 4000000 in
set_option maxRecDepth 100000 in
theorem wfX11_slack {G : XT → Prop} (hk : kp G) (Q : Int32 → XT → Prop) : ∀ k : Nat, (∀ (t : XT) (li : Nat → Int32) (lj : Nat → Int64), G t → wpX11_slack k 0 t li lj Q → wpX11_slack k 0 t li lj (fun r t => Q r t ∧ G t)) ∧ (∀ (t : XT) (li : Nat → Int32) (lj : Nat → Int64), G t → wpX11_slack k 1 t li lj Q → wpX11_slack k 1 t li lj (fun r t => Q r t ∧ G t)) := by
  intro k
  induction k with
  | zero => exact ⟨fun _ _ _ _ hR => False.elim hR, fun _ _ _ _ hR => False.elim hR⟩
  | succ k ih =>
    refine ⟨?_, ?_⟩
    · intro t li lj g hR
      have hR : wbX11_slack_0 (wpX11_slack k) k t li lj Q := hR
      show wbX11_slack_0 (wpX11_slack k) k t li lj (fun r t => Q r t ∧ G t)
      unfold wbX11_slack_0 at hR ⊢
      exact wcX11_isDim hR (fun y1_0 h1 => ⟨fun c2 => ih.2 _ _ _ g (h1.1 c2), fun c3 => ⟨(h1.2 c3), g⟩⟩)
    · intro t li lj g hR
      have hR : wbX11_slack_1 (wpX11_slack k) k t li lj Q := hR
      show wbX11_slack_1 (wpX11_slack k) k t li lj (fun r t => Q r t ∧ G t)
      unfold wbX11_slack_1 at hR ⊢
      exact ⟨fun c1 => ⟨(hR.1 c1), g⟩, fun c2 => wcX6_unpaired hk g (hR.2 c2) (fun y3_0 y3_1 h3 g3 => ⟨h3.1, fun x4 e4 => fun x5 e5 => wcJ13_bitCount_95d88 ((h3.2 x4 e4) x5 e5) (fun y6_0 h6 => wcX0_bettiOf hk g3 h6 (fun y7_0 y7_1 h7 g7 => fun x8 e8 => fun x9 e9 => fun x10 e10 => ih.2 _ _ _ g7 (((h7 x8 e8) x9 e9) x10 e10)))⟩)⟩
theorem wgX11_slack {G : XT → Prop} {k : Nat} {t : XT} {a1 : Int32} {Q : Int32 → XT → Prop} (hk : kp G) (g : G t) (hR : wqX11_slack k t a1 Q) : wqX11_slack k t a1 (fun r t => Q r t ∧ G t) := (wfX11_slack hk Q k).1 t _ _ g hR
theorem wcX11_slack {G : XT → Prop} {k : Nat} {t : XT} {a1 : Int32} {Q Q' : Int32 → XT → Prop} (hk : kp G) (g : G t) (hR : wqX11_slack k t a1 Q) (hQ : (∀ r t, Q r t → G t → Q' r t)) : wqX11_slack k t a1 Q' := wmX11_slack (Nat.le_refl k) (fun r t h => hQ r t h.1 h.2) (wgX11_slack hk g hR)
set_option maxHeartbeats 4000000 in
set_option maxRecDepth 100000 in
theorem wfX11_free {G : XT → Prop} (hk : kp G) (Q : Int32 → XT → Prop) : ∀ k : Nat, (∀ (t : XT) (li : Nat → Int32) (lj : Nat → Int64), G t → wpX11_free k 0 t li lj Q → wpX11_free k 0 t li lj (fun r t => Q r t ∧ G t)) ∧ (∀ (t : XT) (li : Nat → Int32) (lj : Nat → Int64), G t → wpX11_free k 1 t li lj Q → wpX11_free k 1 t li lj (fun r t => Q r t ∧ G t)) ∧ (∀ (t : XT) (li : Nat → Int32) (lj : Nat → Int64), G t → wpX11_free k 2 t li lj Q → wpX11_free k 2 t li lj (fun r t => Q r t ∧ G t)) := by
  intro k
  induction k with
  | zero => exact ⟨fun _ _ _ _ hR => False.elim hR, fun _ _ _ _ hR => False.elim hR, fun _ _ _ _ hR => False.elim hR⟩
  | succ k ih =>
    refine ⟨?_, ?_, ?_⟩
    · intro t li lj g hR
      have hR : wbX11_free_0 (wpX11_free k) k t li lj Q := hR
      show wbX11_free_0 (wpX11_free k) k t li lj (fun r t => Q r t ∧ G t)
      unfold wbX11_free_0 at hR ⊢
      exact ⟨fun c1 => ih.2.1 _ _ _ g (hR.1 c1), fun c2 => ⟨(hR.2 c2), g⟩⟩
    · intro t li lj g hR
      have hR : wbX11_free_1 (wpX11_free k) k t li lj Q := hR
      show wbX11_free_1 (wpX11_free k) k t li lj (fun r t => Q r t ∧ G t)
      unfold wbX11_free_1 at hR ⊢
      exact ⟨fun c1 => wcX11_listed (hR.1 c1) (fun y2_0 h2 => ⟨h2, g⟩), fun c3 => wcX11_isThere hk g (hR.2 c3) (fun y4_0 y4_1 h4 g4 => ⟨fun c5 => ih.2.2 _ _ _ g4 (h4.1 c5), fun c6 => wcX11_isFree hk g4 (h4.2 c6) (fun y7_0 y7_1 h7 g7 => ⟨fun c8 => ih.2.2 _ _ _ g7 (h7.1 c8), fun c9 => wcX11_bit (h7.2 c9) (fun y10_0 h10 => fun x11 e11 => ih.2.2 _ _ _ g7 (h10 x11 e11))⟩)⟩)⟩
    · intro t li lj g hR
      have hR : wbX11_free_2 (wpX11_free k) k t li lj Q := hR
      show wbX11_free_2 (wpX11_free k) k t li lj (fun r t => Q r t ∧ G t)
      unfold wbX11_free_2 at hR ⊢
      exact fun x1 e1 => ih.2.1 _ _ _ g (hR x1 e1)
theorem wgX11_free {G : XT → Prop} {k : Nat} {t : XT} {a1 : Int32} {Q : Int32 → XT → Prop} (hk : kp G) (g : G t) (hR : wqX11_free k t a1 Q) : wqX11_free k t a1 (fun r t => Q r t ∧ G t) := (wfX11_free hk Q k).1 t _ _ g hR
theorem wcX11_free {G : XT → Prop} {k : Nat} {t : XT} {a1 : Int32} {Q Q' : Int32 → XT → Prop} (hk : kp G) (g : G t) (hR : wqX11_free k t a1 Q) (hQ : (∀ r t, Q r t → G t → Q' r t)) : wqX11_free k t a1 Q' := wmX11_free (Nat.le_refl k) (fun r t h => hQ r t h.1 h.2) (wgX11_free hk g hR)
set_option maxHeartbeats 4000000 in
set_option maxRecDepth 100000 in
theorem wfX11_facet {G : XT → Prop} (hk : kp G) (Q : Int32 → XT → Prop) : ∀ k : Nat, (∀ (t : XT) (li : Nat → Int32) (lj : Nat → Int64), G t → wpX11_facet k 0 t li lj Q → wpX11_facet k 0 t li lj (fun r t => Q r t ∧ G t)) ∧ (∀ (t : XT) (li : Nat → Int32) (lj : Nat → Int64), G t → wpX11_facet k 1 t li lj Q → wpX11_facet k 1 t li lj (fun r t => Q r t ∧ G t)) ∧ (∀ (t : XT) (li : Nat → Int32) (lj : Nat → Int64), G t → wpX11_facet k 2 t li lj Q → wpX11_facet k 2 t li lj (fun r t => Q r t ∧ G t)) := by
  intro k
  induction k with
  | zero => exact ⟨fun _ _ _ _ hR => False.elim hR, fun _ _ _ _ hR => False.elim hR, fun _ _ _ _ hR => False.elim hR⟩
  | succ k ih =>
    refine ⟨?_, ?_, ?_⟩
    · intro t li lj g hR
      have hR : wbX11_facet_0 (wpX11_facet k) k t li lj Q := hR
      show wbX11_facet_0 (wpX11_facet k) k t li lj (fun r t => Q r t ∧ G t)
      unfold wbX11_facet_0 at hR ⊢
      exact ⟨fun c1 => ih.2.1 _ _ _ g (hR.1 c1), fun c2 => ⟨(hR.2 c2), g⟩⟩
    · intro t li lj g hR
      have hR : wbX11_facet_1 (wpX11_facet k) k t li lj Q := hR
      show wbX11_facet_1 (wpX11_facet k) k t li lj (fun r t => Q r t ∧ G t)
      unfold wbX11_facet_1 at hR ⊢
      exact ⟨fun c1 => wcX11_listed (hR.1 c1) (fun y2_0 h2 => ⟨h2, g⟩), fun c3 => wcX11_isThere hk g (hR.2 c3) (fun y4_0 y4_1 h4 g4 => ⟨fun c5 => ih.2.2 _ _ _ g4 (h4.1 c5), fun c6 => ⟨(h4.2 c6).1, fun x7 e7 => fun x8 e8 => fun x9 e9 => ⟨fun c10 => ih.2.2 _ _ _ g4 (((((h4.2 c6).2 x7 e7) x8 e8) x9 e9).1 c10), fun c11 => wcX11_bit (((((h4.2 c6).2 x7 e7) x8 e8) x9 e9).2 c11) (fun y12_0 h12 => fun x13 e13 => ih.2.2 _ _ _ g4 (h12 x13 e13))⟩⟩⟩)⟩
    · intro t li lj g hR
      have hR : wbX11_facet_2 (wpX11_facet k) k t li lj Q := hR
      show wbX11_facet_2 (wpX11_facet k) k t li lj (fun r t => Q r t ∧ G t)
      unfold wbX11_facet_2 at hR ⊢
      exact fun x1 e1 => ih.2.1 _ _ _ g (hR x1 e1)
theorem wgX11_facet {G : XT → Prop} {k : Nat} {t : XT} {a1 : Int32} {Q : Int32 → XT → Prop} (hk : kp G) (g : G t) (hR : wqX11_facet k t a1 Q) : wqX11_facet k t a1 (fun r t => Q r t ∧ G t) := (wfX11_facet hk Q k).1 t _ _ g hR
theorem wcX11_facet {G : XT → Prop} {k : Nat} {t : XT} {a1 : Int32} {Q Q' : Int32 → XT → Prop} (hk : kp G) (g : G t) (hR : wqX11_facet k t a1 Q) (hQ : (∀ r t, Q r t → G t → Q' r t)) : wqX11_facet k t a1 Q' := wmX11_facet (Nat.le_refl k) (fun r t h => hQ r t h.1 h.2) (wgX11_facet hk g hR)
set_option maxHeartbeats 4000000 in
set_option maxRecDepth 100000 in
theorem wfX11_linkOf {G : XT → Prop} (hk : kp G) (Q : Int64 → XT → Prop) : ∀ k : Nat, (∀ (t : XT) (li : Nat → Int32) (lj : Nat → Int64), G t → wpX11_linkOf k 0 t li lj Q → wpX11_linkOf k 0 t li lj (fun r t => Q r t ∧ G t)) ∧ (∀ (t : XT) (li : Nat → Int32) (lj : Nat → Int64), G t → wpX11_linkOf k 1 t li lj Q → wpX11_linkOf k 1 t li lj (fun r t => Q r t ∧ G t)) ∧ (∀ (t : XT) (li : Nat → Int32) (lj : Nat → Int64), G t → wpX11_linkOf k 2 t li lj Q → wpX11_linkOf k 2 t li lj (fun r t => Q r t ∧ G t)) ∧ (∀ (t : XT) (li : Nat → Int32) (lj : Nat → Int64), G t → wpX11_linkOf k 3 t li lj Q → wpX11_linkOf k 3 t li lj (fun r t => Q r t ∧ G t)) := by
  intro k
  induction k with
  | zero => exact ⟨fun _ _ _ _ hR => False.elim hR, fun _ _ _ _ hR => False.elim hR, fun _ _ _ _ hR => False.elim hR, fun _ _ _ _ hR => False.elim hR⟩
  | succ k ih =>
    refine ⟨?_, ?_, ?_, ?_⟩
    · intro t li lj g hR
      have hR : wbX11_linkOf_0 (wpX11_linkOf k) k t li lj Q := hR
      show wbX11_linkOf_0 (wpX11_linkOf k) k t li lj (fun r t => Q r t ∧ G t)
      unfold wbX11_linkOf_0 at hR ⊢
      exact ih.2.1 _ _ _ g hR
    · intro t li lj g hR
      have hR : wbX11_linkOf_1 (wpX11_linkOf k) k t li lj Q := hR
      show wbX11_linkOf_1 (wpX11_linkOf k) k t li lj (fun r t => Q r t ∧ G t)
      unfold wbX11_linkOf_1 at hR ⊢
      exact ⟨fun c1 => ⟨(hR.1 c1), g⟩, fun c2 => ⟨(hR.2 c2).1, fun x3 e3 => ⟨((hR.2 c2).2 x3 e3).1, fun x4 e4 => fun x5 e5 => ⟨((((hR.2 c2).2 x3 e3).2 x4 e4) x5 e5).1, fun x6 e6 => ⟨(((((hR.2 c2).2 x3 e3).2 x4 e4) x5 e5).2 x6 e6).1, fun x7 e7 => fun x8 e8 => ⟨fun c9 => ih.2.2.1 _ _ _ g ((((((((hR.2 c2).2 x3 e3).2 x4 e4) x5 e5).2 x6 e6).2 x7 e7) x8 e8).1 c9), fun c10 => ih.2.2.1 _ _ _ g ((((((((hR.2 c2).2 x3 e3).2 x4 e4) x5 e5).2 x6 e6).2 x7 e7) x8 e8).2 c10)⟩⟩⟩⟩⟩⟩
    · intro t li lj g hR
      have hR : wbX11_linkOf_2 (wpX11_linkOf k) k t li lj Q := hR
      show wbX11_linkOf_2 (wpX11_linkOf k) k t li lj (fun r t => Q r t ∧ G t)
      unfold wbX11_linkOf_2 at hR ⊢
      exact wcX11_number hk g hR (fun y1_0 y1_1 h1 g1 => ⟨fun c2 => ih.2.2.2 _ _ _ g1 (h1.1 c2), fun c3 => wcX11_isThere hk g1 (h1.2 c3) (fun y4_0 y4_1 h4 g4 => ⟨fun c5 => ih.2.2.2 _ _ _ g4 (h4.1 c5), fun c6 => wcX11_isThere hk g4 (h4.2 c6) (fun y7_0 y7_1 h7 g7 => ⟨fun c8 => ih.2.2.2 _ _ _ g7 (h7.1 c8), fun c9 => wcX11_bit (h7.2 c9) (fun y10_0 h10 => fun x11 e11 => ih.2.2.2 _ _ _ g7 (h10 x11 e11))⟩)⟩)⟩)
    · intro t li lj g hR
      have hR : wbX11_linkOf_3 (wpX11_linkOf k) k t li lj Q := hR
      show wbX11_linkOf_3 (wpX11_linkOf k) k t li lj (fun r t => Q r t ∧ G t)
      unfold wbX11_linkOf_3 at hR ⊢
      exact fun x1 e1 => ih.2.1 _ _ _ g (hR x1 e1)
theorem wgX11_linkOf {G : XT → Prop} {k : Nat} {t : XT} {a1 : Int32} {Q : Int64 → XT → Prop} (hk : kp G) (g : G t) (hR : wqX11_linkOf k t a1 Q) : wqX11_linkOf k t a1 (fun r t => Q r t ∧ G t) := (wfX11_linkOf hk Q k).1 t _ _ g hR
theorem wcX11_linkOf {G : XT → Prop} {k : Nat} {t : XT} {a1 : Int32} {Q Q' : Int64 → XT → Prop} (hk : kp G) (g : G t) (hR : wqX11_linkOf k t a1 Q) (hQ : (∀ r t, Q r t → G t → Q' r t)) : wqX11_linkOf k t a1 Q' := wmX11_linkOf (Nat.le_refl k) (fun r t h => hQ r t h.1 h.2) (wgX11_linkOf hk g hR)
set_option maxHeartbeats 4000000 in
set_option maxRecDepth 100000 in
theorem wfX9_eulerOf {G : XT → Prop} (hk : kp G) (Q : Int32 → XT → Prop) : ∀ k : Nat, (∀ (t : XT) (li : Nat → Int32) (lj : Nat → Int64), G t → wpX9_eulerOf k 0 t li lj Q → wpX9_eulerOf k 0 t li lj (fun r t => Q r t ∧ G t)) ∧ (∀ (t : XT) (li : Nat → Int32) (lj : Nat → Int64), G t → wpX9_eulerOf k 1 t li lj Q → wpX9_eulerOf k 1 t li lj (fun r t => Q r t ∧ G t)) ∧ (∀ (t : XT) (li : Nat → Int32) (lj : Nat → Int64), G t → wpX9_eulerOf k 2 t li lj Q → wpX9_eulerOf k 2 t li lj (fun r t => Q r t ∧ G t)) := by
  intro k
  induction k with
  | zero => exact ⟨fun _ _ _ _ hR => False.elim hR, fun _ _ _ _ hR => False.elim hR, fun _ _ _ _ hR => False.elim hR⟩
  | succ k ih =>
    refine ⟨?_, ?_, ?_⟩
    · intro t li lj g hR
      have hR : wbX9_eulerOf_0 (wpX9_eulerOf k) k t li lj Q := hR
      show wbX9_eulerOf_0 (wpX9_eulerOf k) k t li lj (fun r t => Q r t ∧ G t)
      unfold wbX9_eulerOf_0 at hR ⊢
      exact ih.2.1 _ _ _ g hR
    · intro t li lj g hR
      have hR : wbX9_eulerOf_1 (wpX9_eulerOf k) k t li lj Q := hR
      show wbX9_eulerOf_1 (wpX9_eulerOf k) k t li lj (fun r t => Q r t ∧ G t)
      unfold wbX9_eulerOf_1 at hR ⊢
      exact ⟨fun c1 => ⟨(hR.1 c1), g⟩, fun c2 => ⟨(hR.2 c2).1, fun x3 e3 => fun x4 e4 => wcJ13_bitCount_95d88 (((hR.2 c2).2 x3 e3) x4 e4) (fun y5_0 h5 => fun x6 e6 => ⟨fun c7 => fun x8 e8 => ih.2.2 _ _ _ g (((h5 x6 e6).1 c7) x8 e8), fun c9 => ih.2.2 _ _ _ g ((h5 x6 e6).2 c9)⟩)⟩⟩
    · intro t li lj g hR
      have hR : wbX9_eulerOf_2 (wpX9_eulerOf k) k t li lj Q := hR
      show wbX9_eulerOf_2 (wpX9_eulerOf k) k t li lj (fun r t => Q r t ∧ G t)
      unfold wbX9_eulerOf_2 at hR ⊢
      exact fun x1 e1 => fun x2 e2 => ih.2.1 _ _ _ g ((hR x1 e1) x2 e2)
theorem wgX9_eulerOf {G : XT → Prop} {k : Nat} {t : XT} {a1 : Int64} {Q : Int32 → XT → Prop} (hk : kp G) (g : G t) (hR : wqX9_eulerOf k t a1 Q) : wqX9_eulerOf k t a1 (fun r t => Q r t ∧ G t) := (wfX9_eulerOf hk Q k).1 t _ _ g hR
theorem wcX9_eulerOf {G : XT → Prop} {k : Nat} {t : XT} {a1 : Int64} {Q Q' : Int32 → XT → Prop} (hk : kp G) (g : G t) (hR : wqX9_eulerOf k t a1 Q) (hQ : (∀ r t, Q r t → G t → Q' r t)) : wqX9_eulerOf k t a1 Q' := wmX9_eulerOf (Nat.le_refl k) (fun r t h => hQ r t h.1 h.2) (wgX9_eulerOf hk g hR)
set_option maxHeartbeats 4000000 in
set_option maxRecDepth 100000 in
theorem wfX11_link {G : XT → Prop} (hk : kp G) (Q : Int32 → XT → Prop) : ∀ k : Nat, (∀ (t : XT) (li : Nat → Int32) (lj : Nat → Int64), G t → wpX11_link k 0 t li lj Q → wpX11_link k 0 t li lj (fun r t => Q r t ∧ G t)) ∧ (∀ (t : XT) (li : Nat → Int32) (lj : Nat → Int64), G t → wpX11_link k 1 t li lj Q → wpX11_link k 1 t li lj (fun r t => Q r t ∧ G t)) := by
  intro k
  induction k with
  | zero => exact ⟨fun _ _ _ _ hR => False.elim hR, fun _ _ _ _ hR => False.elim hR⟩
  | succ k ih =>
    refine ⟨?_, ?_⟩
    · intro t li lj g hR
      have hR : wbX11_link_0 (wpX11_link k) k t li lj Q := hR
      show wbX11_link_0 (wpX11_link k) k t li lj (fun r t => Q r t ∧ G t)
      unfold wbX11_link_0 at hR ⊢
      exact wcX11_isThere hk g hR (fun y1_0 y1_1 h1 g1 => ⟨fun c2 => ih.2 _ _ _ g1 (h1.1 c2), fun c3 => ⟨fun c4 => ih.2 _ _ _ g1 ((h1.2 c3).1 c4), fun c5 => ⟨fun c6 => wcX11_linkOf hk g1 (((h1.2 c3).2 c5).1 c6) (fun y7_0 y7_1 h7 g7 => ⟨fun c8 => wcX9_eulerOf hk g7 (h7.1 c8) (fun y9_0 y9_1 h9 g9 => ⟨h9, g9⟩), fun c10 => wcJ13_bitCount_95d88 (h7.2 c10) (fun y11_0 h11 => ⟨h11, g7⟩)⟩), fun c12 => ih.2 _ _ _ g1 (((h1.2 c3).2 c5).2 c12)⟩⟩⟩)
    · intro t li lj g hR
      have hR : wbX11_link_1 (wpX11_link k) k t li lj Q := hR
      show wbX11_link_1 (wpX11_link k) k t li lj (fun r t => Q r t ∧ G t)
      unfold wbX11_link_1 at hR ⊢
      exact ⟨hR, g⟩
theorem wgX11_link {G : XT → Prop} {k : Nat} {t : XT} {a1 : Int32} {a2 : Int32} {Q : Int32 → XT → Prop} (hk : kp G) (g : G t) (hR : wqX11_link k t a1 a2 Q) : wqX11_link k t a1 a2 (fun r t => Q r t ∧ G t) := (wfX11_link hk Q k).1 t _ _ g hR
theorem wcX11_link {G : XT → Prop} {k : Nat} {t : XT} {a1 : Int32} {a2 : Int32} {Q Q' : Int32 → XT → Prop} (hk : kp G) (g : G t) (hR : wqX11_link k t a1 a2 Q) (hQ : (∀ r t, Q r t → G t → Q' r t)) : wqX11_link k t a1 a2 Q' := wmX11_link (Nat.le_refl k) (fun r t h => hQ r t h.1 h.2) (wgX11_link hk g hR)
set_option maxHeartbeats 4000000 in
set_option maxRecDepth 100000 in
theorem wfX11_roomAbove {G : XT → Prop} (hk : kp G) (Q : Int32 → XT → Prop) : ∀ k : Nat, (∀ (t : XT) (li : Nat → Int32) (lj : Nat → Int64), G t → wpX11_roomAbove k 0 t li lj Q → wpX11_roomAbove k 0 t li lj (fun r t => Q r t ∧ G t)) ∧ (∀ (t : XT) (li : Nat → Int32) (lj : Nat → Int64), G t → wpX11_roomAbove k 1 t li lj Q → wpX11_roomAbove k 1 t li lj (fun r t => Q r t ∧ G t)) ∧ (∀ (t : XT) (li : Nat → Int32) (lj : Nat → Int64), G t → wpX11_roomAbove k 2 t li lj Q → wpX11_roomAbove k 2 t li lj (fun r t => Q r t ∧ G t)) := by
  intro k
  induction k with
  | zero => exact ⟨fun _ _ _ _ hR => False.elim hR, fun _ _ _ _ hR => False.elim hR, fun _ _ _ _ hR => False.elim hR⟩
  | succ k ih =>
    refine ⟨?_, ?_, ?_⟩
    · intro t li lj g hR
      have hR : wbX11_roomAbove_0 (wpX11_roomAbove k) k t li lj Q := hR
      show wbX11_roomAbove_0 (wpX11_roomAbove k) k t li lj (fun r t => Q r t ∧ G t)
      unfold wbX11_roomAbove_0 at hR ⊢
      exact fun x1 e1 => ih.2.1 _ _ _ g (hR x1 e1)
    · intro t li lj g hR
      have hR : wbX11_roomAbove_1 (wpX11_roomAbove k) k t li lj Q := hR
      show wbX11_roomAbove_1 (wpX11_roomAbove k) k t li lj (fun r t => Q r t ∧ G t)
      unfold wbX11_roomAbove_1 at hR ⊢
      exact ⟨fun c1 => ⟨(hR.1 c1), g⟩, fun c2 => wcX11_isIn (hR.2 c2) (fun y3_0 h3 => ⟨fun c4 => ih.2.2 _ _ _ g (h3.1 c4), fun c5 => wcX6_staysAcyclic hk g (h3.2 c5) (fun y6_0 y6_1 h6 g6 => ⟨fun c7 => ih.2.2 _ _ _ g6 (h6.1 c7), fun c8 => fun x9 e9 => ih.2.2 _ _ _ g6 ((h6.2 c8) x9 e9)⟩)⟩)⟩
    · intro t li lj g hR
      have hR : wbX11_roomAbove_2 (wpX11_roomAbove k) k t li lj Q := hR
      show wbX11_roomAbove_2 (wpX11_roomAbove k) k t li lj (fun r t => Q r t ∧ G t)
      unfold wbX11_roomAbove_2 at hR ⊢
      exact fun x1 e1 => ih.2.1 _ _ _ g (hR x1 e1)
theorem wgX11_roomAbove {G : XT → Prop} {k : Nat} {t : XT} {a1 : Int32} {a2 : Int64} {Q : Int32 → XT → Prop} (hk : kp G) (g : G t) (hR : wqX11_roomAbove k t a1 a2 Q) : wqX11_roomAbove k t a1 a2 (fun r t => Q r t ∧ G t) := (wfX11_roomAbove hk Q k).1 t _ _ g hR
theorem wcX11_roomAbove {G : XT → Prop} {k : Nat} {t : XT} {a1 : Int32} {a2 : Int64} {Q Q' : Int32 → XT → Prop} (hk : kp G) (g : G t) (hR : wqX11_roomAbove k t a1 a2 Q) (hQ : (∀ r t, Q r t → G t → Q' r t)) : wqX11_roomAbove k t a1 a2 Q' := wmX11_roomAbove (Nat.le_refl k) (fun r t h => hQ r t h.1 h.2) (wgX11_roomAbove hk g hR)
set_option maxHeartbeats 4000000 in
set_option maxRecDepth 100000 in
theorem wfX11_room {G : XT → Prop} (hk : kp G) (Q : Int32 → XT → Prop) : ∀ k : Nat, (∀ (t : XT) (li : Nat → Int32) (lj : Nat → Int64), G t → wpX11_room k 0 t li lj Q → wpX11_room k 0 t li lj (fun r t => Q r t ∧ G t)) ∧ (∀ (t : XT) (li : Nat → Int32) (lj : Nat → Int64), G t → wpX11_room k 1 t li lj Q → wpX11_room k 1 t li lj (fun r t => Q r t ∧ G t)) ∧ (∀ (t : XT) (li : Nat → Int32) (lj : Nat → Int64), G t → wpX11_room k 2 t li lj Q → wpX11_room k 2 t li lj (fun r t => Q r t ∧ G t)) := by
  intro k
  induction k with
  | zero => exact ⟨fun _ _ _ _ hR => False.elim hR, fun _ _ _ _ hR => False.elim hR, fun _ _ _ _ hR => False.elim hR⟩
  | succ k ih =>
    refine ⟨?_, ?_, ?_⟩
    · intro t li lj g hR
      have hR : wbX11_room_0 (wpX11_room k) k t li lj Q := hR
      show wbX11_room_0 (wpX11_room k) k t li lj (fun r t => Q r t ∧ G t)
      unfold wbX11_room_0 at hR ⊢
      exact wcX11_isDim hR (fun y1_0 h1 => ⟨fun c2 => wcX6_unpaired hk g (h1.1 c2) (fun y3_0 y3_1 h3 g3 => ih.2.1 _ _ _ g3 h3), fun c4 => ⟨(h1.2 c4), g⟩⟩)
    · intro t li lj g hR
      have hR : wbX11_room_1 (wpX11_room k) k t li lj Q := hR
      show wbX11_room_1 (wpX11_room k) k t li lj (fun r t => Q r t ∧ G t)
      unfold wbX11_room_1 at hR ⊢
      exact ⟨fun c1 => ⟨(hR.1 c1), g⟩, fun c2 => wcX11_isIn (hR.2 c2) (fun y3_0 h3 => ⟨fun c4 => ih.2.2 _ _ _ g (h3.1 c4), fun c5 => ⟨(h3.2 c5).1, fun x6 e6 => ⟨fun c7 => ih.2.2 _ _ _ g (((h3.2 c5).2 x6 e6).1 c7), fun c8 => ⟨(((h3.2 c5).2 x6 e6).2 c8).1, fun x9 e9 => fun x10 e10 => wcX11_roomAbove hk g (((((h3.2 c5).2 x6 e6).2 c8).2 x9 e9) x10 e10) (fun y11_0 y11_1 h11 g11 => fun x12 e12 => ih.2.2 _ _ _ g11 (h11 x12 e12))⟩⟩⟩⟩)⟩
    · intro t li lj g hR
      have hR : wbX11_room_2 (wpX11_room k) k t li lj Q := hR
      show wbX11_room_2 (wpX11_room k) k t li lj (fun r t => Q r t ∧ G t)
      unfold wbX11_room_2 at hR ⊢
      exact fun x1 e1 => ih.2.1 _ _ _ g (hR x1 e1)
theorem wgX11_room {G : XT → Prop} {k : Nat} {t : XT} {a1 : Int32} {Q : Int32 → XT → Prop} (hk : kp G) (g : G t) (hR : wqX11_room k t a1 Q) : wqX11_room k t a1 (fun r t => Q r t ∧ G t) := (wfX11_room hk Q k).1 t _ _ g hR
theorem wcX11_room {G : XT → Prop} {k : Nat} {t : XT} {a1 : Int32} {Q Q' : Int32 → XT → Prop} (hk : kp G) (g : G t) (hR : wqX11_room k t a1 Q) (hQ : (∀ r t, Q r t → G t → Q' r t)) : wqX11_room k t a1 Q' := wmX11_room (Nat.le_refl k) (fun r t h => hQ r t h.1 h.2) (wgX11_room hk g hR)
set_option maxHeartbeats 4000000 in
set_option maxRecDepth 100000 in
theorem wfX11_draws {G : XT → Prop} (hk : kp G) (Q : Int32 → XT → Prop) : ∀ k : Nat, (∀ (t : XT) (li : Nat → Int32) (lj : Nat → Int64), G t → wpX11_draws k 0 t li lj Q → wpX11_draws k 0 t li lj (fun r t => Q r t ∧ G t)) := by
  intro k
  induction k with
  | zero => exact fun _ _ _ _ hR => False.elim hR
  | succ k ih =>
    intro t li lj g hR
    have hR : wbX11_draws_0 (wpX11_draws k) k t li lj Q := hR
    show wbX11_draws_0 (wpX11_draws k) k t li lj (fun r t => Q r t ∧ G t)
    unfold wbX11_draws_0 at hR ⊢
    exact ⟨fun c1 => fun x2 e2 => have g2 : G x2 := (by rw [e2]; exact hk.1 _ _ _ (by decide) g); ⟨((hR.1 c1) x2 e2), g2⟩, fun c3 => ⟨(hR.2 c3), g⟩⟩
theorem wgX11_draws {G : XT → Prop} {k : Nat} {t : XT} {a1 : Int32} {Q : Int32 → XT → Prop} (hk : kp G) (g : G t) (hR : wqX11_draws k t a1 Q) : wqX11_draws k t a1 (fun r t => Q r t ∧ G t) := (wfX11_draws hk Q k) t _ _ g hR
theorem wcX11_draws {G : XT → Prop} {k : Nat} {t : XT} {a1 : Int32} {Q Q' : Int32 → XT → Prop} (hk : kp G) (g : G t) (hR : wqX11_draws k t a1 Q) (hQ : (∀ r t, Q r t → G t → Q' r t)) : wqX11_draws k t a1 Q' := wmX11_draws (Nat.le_refl k) (fun r t h => hQ r t h.1 h.2) (wgX11_draws hk g hR)
set_option maxHeartbeats 4000000 in
set_option maxRecDepth 100000 in
theorem wfX9_greatestDim {G : XT → Prop} (hk : kp G) (Q : Int32 → XT → Prop) : ∀ k : Nat, (∀ (t : XT) (li : Nat → Int32) (lj : Nat → Int64), G t → wpX9_greatestDim k 0 t li lj Q → wpX9_greatestDim k 0 t li lj (fun r t => Q r t ∧ G t)) ∧ (∀ (t : XT) (li : Nat → Int32) (lj : Nat → Int64), G t → wpX9_greatestDim k 1 t li lj Q → wpX9_greatestDim k 1 t li lj (fun r t => Q r t ∧ G t)) ∧ (∀ (t : XT) (li : Nat → Int32) (lj : Nat → Int64), G t → wpX9_greatestDim k 2 t li lj Q → wpX9_greatestDim k 2 t li lj (fun r t => Q r t ∧ G t)) := by
  intro k
  induction k with
  | zero => exact ⟨fun _ _ _ _ hR => False.elim hR, fun _ _ _ _ hR => False.elim hR, fun _ _ _ _ hR => False.elim hR⟩
  | succ k ih =>
    refine ⟨?_, ?_, ?_⟩
    · intro t li lj g hR
      have hR : wbX9_greatestDim_0 (wpX9_greatestDim k) k t li lj Q := hR
      show wbX9_greatestDim_0 (wpX9_greatestDim k) k t li lj (fun r t => Q r t ∧ G t)
      unfold wbX9_greatestDim_0 at hR ⊢
      exact ih.2.1 _ _ _ g hR
    · intro t li lj g hR
      have hR : wbX9_greatestDim_1 (wpX9_greatestDim k) k t li lj Q := hR
      show wbX9_greatestDim_1 (wpX9_greatestDim k) k t li lj (fun r t => Q r t ∧ G t)
      unfold wbX9_greatestDim_1 at hR ⊢
      exact ⟨fun c1 => ⟨(hR.1 c1), g⟩, fun c2 => ⟨(hR.2 c2).1, fun x3 e3 => fun x4 e4 => fun x5 e5 => ⟨fun c6 => ih.2.2 _ _ _ g (((((hR.2 c2).2 x3 e3) x4 e4) x5 e5).1 c6), fun c7 => ih.2.2 _ _ _ g (((((hR.2 c2).2 x3 e3) x4 e4) x5 e5).2 c7)⟩⟩⟩
    · intro t li lj g hR
      have hR : wbX9_greatestDim_2 (wpX9_greatestDim k) k t li lj Q := hR
      show wbX9_greatestDim_2 (wpX9_greatestDim k) k t li lj (fun r t => Q r t ∧ G t)
      unfold wbX9_greatestDim_2 at hR ⊢
      exact fun x1 e1 => ih.2.1 _ _ _ g (hR x1 e1)
theorem wgX9_greatestDim {G : XT → Prop} {k : Nat} {t : XT} {a1 : Int64} {Q : Int32 → XT → Prop} (hk : kp G) (g : G t) (hR : wqX9_greatestDim k t a1 Q) : wqX9_greatestDim k t a1 (fun r t => Q r t ∧ G t) := (wfX9_greatestDim hk Q k).1 t _ _ g hR
theorem wcX9_greatestDim {G : XT → Prop} {k : Nat} {t : XT} {a1 : Int64} {Q Q' : Int32 → XT → Prop} (hk : kp G) (g : G t) (hR : wqX9_greatestDim k t a1 Q) (hQ : (∀ r t, Q r t → G t → Q' r t)) : wqX9_greatestDim k t a1 Q' := wmX9_greatestDim (Nat.le_refl k) (fun r t h => hQ r t h.1 h.2) (wgX9_greatestDim hk g hR)
set_option maxHeartbeats 4000000 in
set_option maxRecDepth 100000 in
theorem wfX7_greatest {G : XT → Prop} (hk : kp G) (Q : Int64 → XT → Prop) : ∀ k : Nat, (∀ (t : XT) (li : Nat → Int32) (lj : Nat → Int64), G t → wpX7_greatest k 0 t li lj Q → wpX7_greatest k 0 t li lj (fun r t => Q r t ∧ G t)) := by
  intro k
  induction k with
  | zero => exact fun _ _ _ _ hR => False.elim hR
  | succ k ih =>
    intro t li lj g hR
    have hR : wbX7_greatest_0 (wpX7_greatest k) k t li lj Q := hR
    show wbX7_greatest_0 (wpX7_greatest k) k t li lj (fun r t => Q r t ∧ G t)
    unfold wbX7_greatest_0 at hR ⊢
    exact wcX9_greatestDim hk g hR (fun y1_0 y1_1 h1 g1 => wcX11_isDim h1 (fun y2_0 h2 => ⟨fun c3 => ⟨(h2.1 c3), g1⟩, fun c4 => ⟨(h2.2 c4).1, fun x5 e5 => fun x6 e6 => ⟨(((h2.2 c4).2 x5 e5) x6 e6), g1⟩⟩⟩))
theorem wgX7_greatest {G : XT → Prop} {k : Nat} {t : XT}  {Q : Int64 → XT → Prop} (hk : kp G) (g : G t) (hR : wqX7_greatest k t  Q) : wqX7_greatest k t  (fun r t => Q r t ∧ G t) := (wfX7_greatest hk Q k) t _ _ g hR
theorem wcX7_greatest {G : XT → Prop} {k : Nat} {t : XT}  {Q Q' : Int64 → XT → Prop} (hk : kp G) (g : G t) (hR : wqX7_greatest k t  Q) (hQ : (∀ r t, Q r t → G t → Q' r t)) : wqX7_greatest k t  Q' := wmX7_greatest (Nat.le_refl k) (fun r t h => hQ r t h.1 h.2) (wgX7_greatest hk g hR)
set_option maxHeartbeats 4000000 in
set_option maxRecDepth 100000 in
theorem wfX11_drawFrom {G : XT → Prop} (hk : kp G) (Q : Int32 → XT → Prop) : ∀ k : Nat, (∀ (t : XT) (li : Nat → Int32) (lj : Nat → Int64), G t → wpX11_drawFrom k 0 t li lj Q → wpX11_drawFrom k 0 t li lj (fun r t => Q r t ∧ G t)) := by
  intro k
  induction k with
  | zero => exact fun _ _ _ _ hR => False.elim hR
  | succ k ih =>
    intro t li lj g hR
    have hR : wbX11_drawFrom_0 (wpX11_drawFrom k) k t li lj Q := hR
    show wbX11_drawFrom_0 (wpX11_drawFrom k) k t li lj (fun r t => Q r t ∧ G t)
    unfold wbX11_drawFrom_0 at hR ⊢
    exact wcJ13_bitCount_95d88 hR (fun y1_0 h1 => fun x2 e2 => fun x3 e3 => fun x4 e4 => ⟨(((h1 x2 e2) x3 e3) x4 e4).1, fun x5 e5 => fun x6 e6 => fun x7 e7 => have g7 : G x7 := (by rw [e7]; exact hk.1 _ _ _ (by decide) g); ⟨fun c8 => ⟨(((((((h1 x2 e2) x3 e3) x4 e4).2 x5 e5) x6 e6) x7 e7).1 c8), g7⟩, fun c9 => ⟨(((((((h1 x2 e2) x3 e3) x4 e4).2 x5 e5) x6 e6) x7 e7).2 c9).1, fun x10 e10 => ⟨((((((((h1 x2 e2) x3 e3) x4 e4).2 x5 e5) x6 e6) x7 e7).2 c9).2 x10 e10).1, fun x11 e11 => wcX11_nth (((((((((h1 x2 e2) x3 e3) x4 e4).2 x5 e5) x6 e6) x7 e7).2 c9).2 x10 e10).2 x11 e11) (fun y12_0 h12 => ⟨h12, g7⟩)⟩⟩⟩⟩)
theorem wgX11_drawFrom {G : XT → Prop} {k : Nat} {t : XT} {a1 : Int64} {Q : Int32 → XT → Prop} (hk : kp G) (g : G t) (hR : wqX11_drawFrom k t a1 Q) : wqX11_drawFrom k t a1 (fun r t => Q r t ∧ G t) := (wfX11_drawFrom hk Q k) t _ _ g hR
theorem wcX11_drawFrom {G : XT → Prop} {k : Nat} {t : XT} {a1 : Int64} {Q Q' : Int32 → XT → Prop} (hk : kp G) (g : G t) (hR : wqX11_drawFrom k t a1 Q) (hQ : (∀ r t, Q r t → G t → Q' r t)) : wqX11_drawFrom k t a1 Q' := wmX11_drawFrom (Nat.le_refl k) (fun r t h => hQ r t h.1 h.2) (wgX11_drawFrom hk g hR)
set_option maxHeartbeats 4000000 in
set_option maxRecDepth 100000 in
theorem wfX11_peelByDraws {G : XT → Prop} (hk : kp G) (Q : Int32 → XT → Prop) : ∀ k : Nat, (∀ (t : XT) (li : Nat → Int32) (lj : Nat → Int64), G t → wpX11_peelByDraws k 0 t li lj Q → wpX11_peelByDraws k 0 t li lj (fun r t => Q r t ∧ G t)) ∧ (∀ (t : XT) (li : Nat → Int32) (lj : Nat → Int64), G t → wpX11_peelByDraws k 1 t li lj Q → wpX11_peelByDraws k 1 t li lj (fun r t => Q r t ∧ G t)) ∧ (∀ (t : XT) (li : Nat → Int32) (lj : Nat → Int64), G t → wpX11_peelByDraws k 2 t li lj Q → wpX11_peelByDraws k 2 t li lj (fun r t => Q r t ∧ G t)) ∧ (∀ (t : XT) (li : Nat → Int32) (lj : Nat → Int64), G t → wpX11_peelByDraws k 3 t li lj Q → wpX11_peelByDraws k 3 t li lj (fun r t => Q r t ∧ G t)) := by
  intro k
  induction k with
  | zero => exact ⟨fun _ _ _ _ hR => False.elim hR, fun _ _ _ _ hR => False.elim hR, fun _ _ _ _ hR => False.elim hR, fun _ _ _ _ hR => False.elim hR⟩
  | succ k ih =>
    refine ⟨?_, ?_, ?_, ?_⟩
    · intro t li lj g hR
      have hR : wbX11_peelByDraws_0 (wpX11_peelByDraws k) k t li lj Q := hR
      show wbX11_peelByDraws_0 (wpX11_peelByDraws k) k t li lj (fun r t => Q r t ∧ G t)
      unfold wbX11_peelByDraws_0 at hR ⊢
      exact wcX7_begin hk g hR (fun y1_0 h1 g1 => ih.2.1 _ _ _ g1 h1)
    · intro t li lj g hR
      have hR : wbX11_peelByDraws_1 (wpX11_peelByDraws k) k t li lj Q := hR
      show wbX11_peelByDraws_1 (wpX11_peelByDraws k) k t li lj (fun r t => Q r t ∧ G t)
      unfold wbX11_peelByDraws_1 at hR ⊢
      exact ⟨fun c1 => ih.2.2.2 _ _ _ g (hR.1 c1), fun c2 => fun x3 e3 => ⟨fun c4 => ih.2.2.2 _ _ _ g (((hR.2 c2) x3 e3).1 c4), fun c5 => fun x6 e6 => ⟨fun c7 => wcX7_greatest hk g (((((hR.2 c2) x3 e3).2 c5) x6 e6).1 c7) (fun y8_0 y8_1 h8 g8 => wcX11_drawFrom hk g8 h8 (fun y9_0 y9_1 h9 g9 => wcX7_close hk g9 h9 (fun y10_0 h10 g10 => fun x11 e11 => ih.2.2.1 _ _ _ g10 (h10 x11 e11)))), fun c12 => wcX11_drawFrom hk g (((((hR.2 c2) x3 e3).2 c5) x6 e6).2 c12) (fun y13_0 y13_1 h13 g13 => wcX7_above hk g13 h13 (fun y14_0 y14_1 h14 g14 => wcX7_close hk g14 h14 (fun y15_0 h15 g15 => wcX7_close hk g15 h15 (fun y16_0 h16 g16 => ih.2.2.1 _ _ _ g16 h16))))⟩⟩⟩
    · intro t li lj g hR
      have hR : wbX11_peelByDraws_2 (wpX11_peelByDraws k) k t li lj Q := hR
      show wbX11_peelByDraws_2 (wpX11_peelByDraws k) k t li lj (fun r t => Q r t ∧ G t)
      unfold wbX11_peelByDraws_2 at hR ⊢
      exact fun x1 e1 => ih.2.1 _ _ _ g (hR x1 e1)
    · intro t li lj g hR
      have hR : wbX11_peelByDraws_3 (wpX11_peelByDraws k) k t li lj Q := hR
      show wbX11_peelByDraws_3 (wpX11_peelByDraws k) k t li lj (fun r t => Q r t ∧ G t)
      unfold wbX11_peelByDraws_3 at hR ⊢
      exact ⟨hR, g⟩
theorem wgX11_peelByDraws {G : XT → Prop} {k : Nat} {t : XT}  {Q : Int32 → XT → Prop} (hk : kp G) (g : G t) (hR : wqX11_peelByDraws k t  Q) : wqX11_peelByDraws k t  (fun r t => Q r t ∧ G t) := (wfX11_peelByDraws hk Q k).1 t _ _ g hR
theorem wcX11_peelByDraws {G : XT → Prop} {k : Nat} {t : XT}  {Q Q' : Int32 → XT → Prop} (hk : kp G) (g : G t) (hR : wqX11_peelByDraws k t  Q) (hQ : (∀ r t, Q r t → G t → Q' r t)) : wqX11_peelByDraws k t  Q' := wmX11_peelByDraws (Nat.le_refl k) (fun r t h => hQ r t h.1 h.2) (wgX11_peelByDraws hk g hR)
set_option maxHeartbeats 4000000 in
set_option maxRecDepth 100000 in
theorem wfX11_drawn {G : XT → Prop} (hk : kp G) (Q : Int32 → XT → Prop) : ∀ k : Nat, (∀ (t : XT) (li : Nat → Int32) (lj : Nat → Int64), G t → wpX11_drawn k 0 t li lj Q → wpX11_drawn k 0 t li lj (fun r t => Q r t ∧ G t)) ∧ (∀ (t : XT) (li : Nat → Int32) (lj : Nat → Int64), G t → wpX11_drawn k 1 t li lj Q → wpX11_drawn k 1 t li lj (fun r t => Q r t ∧ G t)) ∧ (∀ (t : XT) (li : Nat → Int32) (lj : Nat → Int64), G t → wpX11_drawn k 2 t li lj Q → wpX11_drawn k 2 t li lj (fun r t => Q r t ∧ G t)) ∧ (∀ (t : XT) (li : Nat → Int32) (lj : Nat → Int64), G t → wpX11_drawn k 3 t li lj Q → wpX11_drawn k 3 t li lj (fun r t => Q r t ∧ G t)) ∧ (∀ (t : XT) (li : Nat → Int32) (lj : Nat → Int64), G t → wpX11_drawn k 4 t li lj Q → wpX11_drawn k 4 t li lj (fun r t => Q r t ∧ G t)) := by
  intro k
  induction k with
  | zero => exact ⟨fun _ _ _ _ hR => False.elim hR, fun _ _ _ _ hR => False.elim hR, fun _ _ _ _ hR => False.elim hR, fun _ _ _ _ hR => False.elim hR, fun _ _ _ _ hR => False.elim hR⟩
  | succ k ih =>
    refine ⟨?_, ?_, ?_, ?_, ?_⟩
    · intro t li lj g hR
      have hR : wbX11_drawn_0 (wpX11_drawn k) k t li lj Q := hR
      show wbX11_drawn_0 (wpX11_drawn k) k t li lj (fun r t => Q r t ∧ G t)
      unfold wbX11_drawn_0 at hR ⊢
      exact ⟨fun c1 => ih.2.1 _ _ _ g (hR.1 c1), fun c2 => ⟨fun c3 => ih.2.1 _ _ _ g ((hR.2 c2).1 c3), fun c4 => ⟨fun c5 => ih.2.1 _ _ _ g (((hR.2 c2).2 c4).1 c5), fun c6 => ⟨fun c7 => ih.2.1 _ _ _ g ((((hR.2 c2).2 c4).2 c6).1 c7), fun c8 => ⟨fun c9 => ih.2.2.1 _ _ _ g (((((hR.2 c2).2 c4).2 c6).2 c8).1 c9), fun c10 => ih.2.1 _ _ _ g (((((hR.2 c2).2 c4).2 c6).2 c8).2 c10)⟩⟩⟩⟩⟩
    · intro t li lj g hR
      have hR : wbX11_drawn_1 (wpX11_drawn k) k t li lj Q := hR
      show wbX11_drawn_1 (wpX11_drawn k) k t li lj (fun r t => Q r t ∧ G t)
      unfold wbX11_drawn_1 at hR ⊢
      exact ⟨hR, g⟩
    · intro t li lj g hR
      have hR : wbX11_drawn_2 (wpX11_drawn k) k t li lj Q := hR
      show wbX11_drawn_2 (wpX11_drawn k) k t li lj (fun r t => Q r t ∧ G t)
      unfold wbX11_drawn_2 at hR ⊢
      exact ⟨fun c1 => fun x2 e2 => have g2 : G x2 := (by rw [e2]; exact hk.1 _ _ _ (by decide) g); ⟨fun c3 => ⟨fun c4 => ⟨((((hR.1 c1) x2 e2).1 c3).1 c4), g2⟩, fun c5 => ⟨((((hR.1 c1) x2 e2).1 c3).2 c5), g2⟩⟩, fun c6 => ⟨(((hR.1 c1) x2 e2).2 c6), g2⟩⟩, fun c7 => wcX11_peelByDraws hk g (hR.2 c7) (fun y8_0 y8_1 h8 g8 => fun x9 e9 => ⟨fun c10 => ih.2.2.2.1 _ _ _ g8 ((h8 x9 e9).1 c10), fun c11 => ih.2.2.2.1 _ _ _ g8 ((h8 x9 e9).2 c11)⟩)⟩
    · intro t li lj g hR
      have hR : wbX11_drawn_3 (wpX11_drawn k) k t li lj Q := hR
      show wbX11_drawn_3 (wpX11_drawn k) k t li lj (fun r t => Q r t ∧ G t)
      unfold wbX11_drawn_3 at hR ⊢
      exact ⟨fun c1 => ih.2.2.2.2 _ _ _ g (hR.1 c1), fun c2 => fun x3 e3 => ih.2.2.2.2 _ _ _ g ((hR.2 c2) x3 e3)⟩
    · intro t li lj g hR
      have hR : wbX11_drawn_4 (wpX11_drawn k) k t li lj Q := hR
      show wbX11_drawn_4 (wpX11_drawn k) k t li lj (fun r t => Q r t ∧ G t)
      unfold wbX11_drawn_4 at hR ⊢
      exact fun x1 e1 => ih.2.2.1 _ _ _ g (hR x1 e1)
theorem wgX11_drawn {G : XT → Prop} {k : Nat} {t : XT} {a1 : Int32} {a2 : Int32} {Q : Int32 → XT → Prop} (hk : kp G) (g : G t) (hR : wqX11_drawn k t a1 a2 Q) : wqX11_drawn k t a1 a2 (fun r t => Q r t ∧ G t) := (wfX11_drawn hk Q k).1 t _ _ g hR
theorem wcX11_drawn {G : XT → Prop} {k : Nat} {t : XT} {a1 : Int32} {a2 : Int32} {Q Q' : Int32 → XT → Prop} (hk : kp G) (g : G t) (hR : wqX11_drawn k t a1 a2 Q) (hQ : (∀ r t, Q r t → G t → Q' r t)) : wqX11_drawn k t a1 a2 Q' := wmX11_drawn (Nat.le_refl k) (fun r t h => hQ r t h.1 h.2) (wgX11_drawn hk g hR)
set_option maxHeartbeats 4000000 in
set_option maxRecDepth 100000 in
theorem wfX2_upTo {G : XT → Prop} (hk : kp G) (Q : Int64 → XT → Prop) : ∀ k : Nat, (∀ (t : XT) (li : Nat → Int32) (lj : Nat → Int64), G t → wpX2_upTo k 0 t li lj Q → wpX2_upTo k 0 t li lj (fun r t => Q r t ∧ G t)) ∧ (∀ (t : XT) (li : Nat → Int32) (lj : Nat → Int64), G t → wpX2_upTo k 1 t li lj Q → wpX2_upTo k 1 t li lj (fun r t => Q r t ∧ G t)) ∧ (∀ (t : XT) (li : Nat → Int32) (lj : Nat → Int64), G t → wpX2_upTo k 2 t li lj Q → wpX2_upTo k 2 t li lj (fun r t => Q r t ∧ G t)) := by
  intro k
  induction k with
  | zero => exact ⟨fun _ _ _ _ hR => False.elim hR, fun _ _ _ _ hR => False.elim hR, fun _ _ _ _ hR => False.elim hR⟩
  | succ k ih =>
    refine ⟨?_, ?_, ?_⟩
    · intro t li lj g hR
      have hR : wbX2_upTo_0 (wpX2_upTo k) k t li lj Q := hR
      show wbX2_upTo_0 (wpX2_upTo k) k t li lj (fun r t => Q r t ∧ G t)
      unfold wbX2_upTo_0 at hR ⊢
      exact wcX2_measure hk g hR (fun y1_0 h1 g1 => ih.2.1 _ _ _ g1 h1)
    · intro t li lj g hR
      have hR : wbX2_upTo_1 (wpX2_upTo k) k t li lj Q := hR
      show wbX2_upTo_1 (wpX2_upTo k) k t li lj (fun r t => Q r t ∧ G t)
      unfold wbX2_upTo_1 at hR ⊢
      exact ⟨fun c1 => ⟨(hR.1 c1), g⟩, fun c2 => ⟨(hR.2 c2).1, fun x3 e3 => ⟨((hR.2 c2).2 x3 e3).1, fun x4 e4 => ⟨fun c5 => ih.2.2 _ _ _ g ((((hR.2 c2).2 x3 e3).2 x4 e4).1 c5), fun c6 => ⟨((((hR.2 c2).2 x3 e3).2 x4 e4).2 c6).1, fun x7 e7 => wcX11_bit (((((hR.2 c2).2 x3 e3).2 x4 e4).2 c6).2 x7 e7) (fun y8_0 h8 => fun x9 e9 => ih.2.2 _ _ _ g (h8 x9 e9))⟩⟩⟩⟩⟩
    · intro t li lj g hR
      have hR : wbX2_upTo_2 (wpX2_upTo k) k t li lj Q := hR
      show wbX2_upTo_2 (wpX2_upTo k) k t li lj (fun r t => Q r t ∧ G t)
      unfold wbX2_upTo_2 at hR ⊢
      exact fun x1 e1 => ih.2.1 _ _ _ g (hR x1 e1)
theorem wgX2_upTo {G : XT → Prop} {k : Nat} {t : XT} {a1 : Int32} {Q : Int64 → XT → Prop} (hk : kp G) (g : G t) (hR : wqX2_upTo k t a1 Q) : wqX2_upTo k t a1 (fun r t => Q r t ∧ G t) := (wfX2_upTo hk Q k).1 t _ _ g hR
theorem wcX2_upTo {G : XT → Prop} {k : Nat} {t : XT} {a1 : Int32} {Q Q' : Int64 → XT → Prop} (hk : kp G) (g : G t) (hR : wqX2_upTo k t a1 Q) (hQ : (∀ r t, Q r t → G t → Q' r t)) : wqX2_upTo k t a1 Q' := wmX2_upTo (Nat.le_refl k) (fun r t h => hQ r t h.1 h.2) (wgX2_upTo hk g hR)
set_option maxHeartbeats 4000000 in
set_option maxRecDepth 100000 in
theorem wfX11_level {G : XT → Prop} (hk : kp G) (Q : Int32 → XT → Prop) : ∀ k : Nat, (∀ (t : XT) (li : Nat → Int32) (lj : Nat → Int64), G t → wpX11_level k 0 t li lj Q → wpX11_level k 0 t li lj (fun r t => Q r t ∧ G t)) ∧ (∀ (t : XT) (li : Nat → Int32) (lj : Nat → Int64), G t → wpX11_level k 1 t li lj Q → wpX11_level k 1 t li lj (fun r t => Q r t ∧ G t)) := by
  intro k
  induction k with
  | zero => exact ⟨fun _ _ _ _ hR => False.elim hR, fun _ _ _ _ hR => False.elim hR⟩
  | succ k ih =>
    refine ⟨?_, ?_⟩
    · intro t li lj g hR
      have hR : wbX11_level_0 (wpX11_level k) k t li lj Q := hR
      show wbX11_level_0 (wpX11_level k) k t li lj (fun r t => Q r t ∧ G t)
      unfold wbX11_level_0 at hR ⊢
      exact ⟨fun c1 => ih.2 _ _ _ g (hR.1 c1), fun c2 => ⟨fun c3 => ih.2 _ _ _ g ((hR.2 c2).1 c3), fun c4 => ⟨fun c5 => wcX2_upTo hk g (((hR.2 c2).2 c4).1 c5) (fun y6_0 y6_1 h6 g6 => ⟨fun c7 => wcX9_eulerOf hk g6 (h6.1 c7) (fun y8_0 y8_1 h8 g8 => ⟨h8, g8⟩), fun c9 => wcJ13_bitCount_95d88 (h6.2 c9) (fun y10_0 h10 => ⟨h10, g6⟩)⟩), fun c11 => ih.2 _ _ _ g (((hR.2 c2).2 c4).2 c11)⟩⟩⟩
    · intro t li lj g hR
      have hR : wbX11_level_1 (wpX11_level k) k t li lj Q := hR
      show wbX11_level_1 (wpX11_level k) k t li lj (fun r t => Q r t ∧ G t)
      unfold wbX11_level_1 at hR ⊢
      exact ⟨hR, g⟩
theorem wgX11_level {G : XT → Prop} {k : Nat} {t : XT} {a1 : Int32} {a2 : Int32} {Q : Int32 → XT → Prop} (hk : kp G) (g : G t) (hR : wqX11_level k t a1 a2 Q) : wqX11_level k t a1 a2 (fun r t => Q r t ∧ G t) := (wfX11_level hk Q k).1 t _ _ g hR
theorem wcX11_level {G : XT → Prop} {k : Nat} {t : XT} {a1 : Int32} {a2 : Int32} {Q Q' : Int32 → XT → Prop} (hk : kp G) (g : G t) (hR : wqX11_level k t a1 a2 Q) (hQ : (∀ r t, Q r t → G t → Q' r t)) : wqX11_level k t a1 a2 Q' := wmX11_level (Nat.le_refl k) (fun r t h => hQ r t h.1 h.2) (wgX11_level hk g hR)
set_option maxHeartbeats 4000000 in
set_option maxRecDepth 100000 in
theorem wfX9_withFaces {G : XT → Prop} (hk : kp G) (Q : Int64 → XT → Prop) : ∀ k : Nat, (∀ (t : XT) (li : Nat → Int32) (lj : Nat → Int64), G t → wpX9_withFaces k 0 t li lj Q → wpX9_withFaces k 0 t li lj (fun r t => Q r t ∧ G t)) ∧ (∀ (t : XT) (li : Nat → Int32) (lj : Nat → Int64), G t → wpX9_withFaces k 1 t li lj Q → wpX9_withFaces k 1 t li lj (fun r t => Q r t ∧ G t)) ∧ (∀ (t : XT) (li : Nat → Int32) (lj : Nat → Int64), G t → wpX9_withFaces k 2 t li lj Q → wpX9_withFaces k 2 t li lj (fun r t => Q r t ∧ G t)) := by
  intro k
  induction k with
  | zero => exact ⟨fun _ _ _ _ hR => False.elim hR, fun _ _ _ _ hR => False.elim hR, fun _ _ _ _ hR => False.elim hR⟩
  | succ k ih =>
    refine ⟨?_, ?_, ?_⟩
    · intro t li lj g hR
      have hR : wbX9_withFaces_0 (wpX9_withFaces k) k t li lj Q := hR
      show wbX9_withFaces_0 (wpX9_withFaces k) k t li lj (fun r t => Q r t ∧ G t)
      unfold wbX9_withFaces_0 at hR ⊢
      exact fun x1 e1 => ih.2.1 _ _ _ g (hR x1 e1)
    · intro t li lj g hR
      have hR : wbX9_withFaces_1 (wpX9_withFaces k) k t li lj Q := hR
      show wbX9_withFaces_1 (wpX9_withFaces k) k t li lj (fun r t => Q r t ∧ G t)
      unfold wbX9_withFaces_1 at hR ⊢
      exact ⟨fun c1 => ⟨(hR.1 c1), g⟩, fun c2 => wcX11_isIn (hR.2 c2) (fun y3_0 h3 => ⟨fun c4 => ih.2.2 _ _ _ g (h3.1 c4), fun c5 => ⟨(h3.2 c5).1, fun x6 e6 => fun x7 e7 => ih.2.2 _ _ _ g (((h3.2 c5).2 x6 e6) x7 e7)⟩⟩)⟩
    · intro t li lj g hR
      have hR : wbX9_withFaces_2 (wpX9_withFaces k) k t li lj Q := hR
      show wbX9_withFaces_2 (wpX9_withFaces k) k t li lj (fun r t => Q r t ∧ G t)
      unfold wbX9_withFaces_2 at hR ⊢
      exact fun x1 e1 => ih.2.1 _ _ _ g (hR x1 e1)
theorem wgX9_withFaces {G : XT → Prop} {k : Nat} {t : XT} {a1 : Int64} {Q : Int64 → XT → Prop} (hk : kp G) (g : G t) (hR : wqX9_withFaces k t a1 Q) : wqX9_withFaces k t a1 (fun r t => Q r t ∧ G t) := (wfX9_withFaces hk Q k).1 t _ _ g hR
theorem wcX9_withFaces {G : XT → Prop} {k : Nat} {t : XT} {a1 : Int64} {Q Q' : Int64 → XT → Prop} (hk : kp G) (g : G t) (hR : wqX9_withFaces k t a1 Q) (hQ : (∀ r t, Q r t → G t → Q' r t)) : wqX9_withFaces k t a1 Q' := wmX9_withFaces (Nat.le_refl k) (fun r t h => hQ r t h.1 h.2) (wgX9_withFaces hk g hR)
set_option maxHeartbeats 4000000 in
set_option maxRecDepth 100000 in
theorem wfX11_levelBetti {G : XT → Prop} (hk : kp G) (Q : Int32 → XT → Prop) : ∀ k : Nat, (∀ (t : XT) (li : Nat → Int32) (lj : Nat → Int64), G t → wpX11_levelBetti k 0 t li lj Q → wpX11_levelBetti k 0 t li lj (fun r t => Q r t ∧ G t)) ∧ (∀ (t : XT) (li : Nat → Int32) (lj : Nat → Int64), G t → wpX11_levelBetti k 1 t li lj Q → wpX11_levelBetti k 1 t li lj (fun r t => Q r t ∧ G t)) := by
  intro k
  induction k with
  | zero => exact ⟨fun _ _ _ _ hR => False.elim hR, fun _ _ _ _ hR => False.elim hR⟩
  | succ k ih =>
    refine ⟨?_, ?_⟩
    · intro t li lj g hR
      have hR : wbX11_levelBetti_0 (wpX11_levelBetti k) k t li lj Q := hR
      show wbX11_levelBetti_0 (wpX11_levelBetti k) k t li lj (fun r t => Q r t ∧ G t)
      unfold wbX11_levelBetti_0 at hR ⊢
      exact ⟨fun c1 => ih.2 _ _ _ g (hR.1 c1), fun c2 => wcX11_isDim (hR.2 c2) (fun y3_0 h3 => ⟨fun c4 => wcX2_upTo hk g (h3.1 c4) (fun y5_0 y5_1 h5 g5 => wcX9_withFaces hk g5 h5 (fun y6_0 y6_1 h6 g6 => wcX0_bettiOf hk g6 h6 (fun y7_0 y7_1 h7 g7 => ⟨h7, g7⟩))), fun c8 => ih.2 _ _ _ g (h3.2 c8)⟩)⟩
    · intro t li lj g hR
      have hR : wbX11_levelBetti_1 (wpX11_levelBetti k) k t li lj Q := hR
      show wbX11_levelBetti_1 (wpX11_levelBetti k) k t li lj (fun r t => Q r t ∧ G t)
      unfold wbX11_levelBetti_1 at hR ⊢
      exact ⟨hR, g⟩
theorem wgX11_levelBetti {G : XT → Prop} {k : Nat} {t : XT} {a1 : Int32} {a2 : Int32} {Q : Int32 → XT → Prop} (hk : kp G) (g : G t) (hR : wqX11_levelBetti k t a1 a2 Q) : wqX11_levelBetti k t a1 a2 (fun r t => Q r t ∧ G t) := (wfX11_levelBetti hk Q k).1 t _ _ g hR
theorem wcX11_levelBetti {G : XT → Prop} {k : Nat} {t : XT} {a1 : Int32} {a2 : Int32} {Q Q' : Int32 → XT → Prop} (hk : kp G) (g : G t) (hR : wqX11_levelBetti k t a1 a2 Q) (hQ : (∀ r t, Q r t → G t → Q' r t)) : wqX11_levelBetti k t a1 a2 Q' := wmX11_levelBetti (Nat.le_refl k) (fun r t h => hQ r t h.1 h.2) (wgX11_levelBetti hk g hR)
set_option maxHeartbeats 4000000 in
set_option maxRecDepth 100000 in
theorem wfX4_store_c4 {G : XT → Prop} (hk : kp G) (Q : XT → Prop) : ∀ k : Nat, (∀ (t : XT) (li : Nat → Int32) (lj : Nat → Int64), G t → wpX4_store_c4 k 0 t li lj Q → wpX4_store_c4 k 0 t li lj (fun t => Q t ∧ G t)) := by
  intro k
  induction k with
  | zero => exact fun _ _ _ _ hR => False.elim hR
  | succ k ih =>
    intro t li lj g hR
    have hR : wbX4_store_c4_0 (wpX4_store_c4 k) k t li lj Q := hR
    show wbX4_store_c4_0 (wpX4_store_c4 k) k t li lj (fun t => Q t ∧ G t)
    unfold wbX4_store_c4_0 at hR ⊢
    exact fun x1 e1 => ⟨(hR x1 e1).1, (hR x1 e1).2.1, (hR x1 e1).2.2.1, (hR x1 e1).2.2.2.1, (hR x1 e1).2.2.2.2.1, fun x2 e2 => have g2 : G x2 := (by rw [e2]; exact hk.2.2.1 _ _ _ (by decide) (by decide) (by decide) g); wcX11_bit ((hR x1 e1).2.2.2.2.2 x2 e2) (fun y3_0 h3 => fun x4 e4 => fun x5 e5 => have g5 : G x5 := (by rw [e5]; exact hk.2.1 _ _ _ g2); ⟨((h3 x4 e4) x5 e5), g5⟩)⟩
theorem wgX4_store_c4 {G : XT → Prop} {k : Nat} {t : XT} {a1 : Int32} {Q : XT → Prop} (hk : kp G) (g : G t) (hR : wqX4_store_c4 k t a1 Q) : wqX4_store_c4 k t a1 (fun t => Q t ∧ G t) := (wfX4_store_c4 hk Q k) t _ _ g hR
theorem wcX4_store_c4 {G : XT → Prop} {k : Nat} {t : XT} {a1 : Int32} {Q Q' : XT → Prop} (hk : kp G) (g : G t) (hR : wqX4_store_c4 k t a1 Q) (hQ : (∀ t, Q t → G t → Q' t)) : wqX4_store_c4 k t a1 Q' := wmX4_store_c4 (Nat.le_refl k) (fun t h => hQ t h.1 h.2) (wgX4_store_c4 hk g hR)
set_option maxHeartbeats 4000000 in
set_option maxRecDepth 100000 in
theorem wfX6_howMany {G : XT → Prop} (hk : kp G) (Q : Int32 → XT → Prop) : ∀ k : Nat, (∀ (t : XT) (li : Nat → Int32) (lj : Nat → Int64), G t → wpX6_howMany k 0 t li lj Q → wpX6_howMany k 0 t li lj (fun r t => Q r t ∧ G t)) := by
  intro k
  induction k with
  | zero => exact fun _ _ _ _ hR => False.elim hR
  | succ k ih =>
    intro t li lj g hR
    have hR : wbX6_howMany_0 (wpX6_howMany k) k t li lj Q := hR
    show wbX6_howMany_0 (wpX6_howMany k) k t li lj (fun r t => Q r t ∧ G t)
    unfold wbX6_howMany_0 at hR ⊢
    exact wcJ13_bitCount_95d88 hR (fun y1_0 h1 => ⟨h1, g⟩)
theorem wgX6_howMany {G : XT → Prop} {k : Nat} {t : XT}  {Q : Int32 → XT → Prop} (hk : kp G) (g : G t) (hR : wqX6_howMany k t  Q) : wqX6_howMany k t  (fun r t => Q r t ∧ G t) := (wfX6_howMany hk Q k) t _ _ g hR
theorem wcX6_howMany {G : XT → Prop} {k : Nat} {t : XT}  {Q Q' : Int32 → XT → Prop} (hk : kp G) (g : G t) (hR : wqX6_howMany k t  Q) (hQ : (∀ r t, Q r t → G t → Q' r t)) : wqX6_howMany k t  Q' := wmX6_howMany (Nat.le_refl k) (fun r t h => hQ r t h.1 h.2) (wgX6_howMany hk g hR)
set_option maxHeartbeats 4000000 in
set_option maxRecDepth 100000 in
theorem wfX11_keep {G : XT → Prop} (hk : kp G) (Q : Int32 → XT → Prop) : ∀ k : Nat, (∀ (t : XT) (li : Nat → Int32) (lj : Nat → Int64), G t → wpX11_keep k 0 t li lj Q → wpX11_keep k 0 t li lj (fun r t => Q r t ∧ G t)) ∧ (∀ (t : XT) (li : Nat → Int32) (lj : Nat → Int64), G t → wpX11_keep k 1 t li lj Q → wpX11_keep k 1 t li lj (fun r t => Q r t ∧ G t)) := by
  intro k
  induction k with
  | zero => exact ⟨fun _ _ _ _ hR => False.elim hR, fun _ _ _ _ hR => False.elim hR⟩
  | succ k ih =>
    refine ⟨?_, ?_⟩
    · intro t li lj g hR
      have hR : wbX11_keep_0 (wpX11_keep k) k t li lj Q := hR
      show wbX11_keep_0 (wpX11_keep k) k t li lj (fun r t => Q r t ∧ G t)
      unfold wbX11_keep_0 at hR ⊢
      exact ⟨fun c1 => ih.2 _ _ _ g (hR.1 c1), fun c2 => ⟨fun c3 => ih.2 _ _ _ g ((hR.2 c2).1 c3), fun c4 => ⟨fun c5 => wcX4_store_c4 hk g (((hR.2 c2).2 c4).1 c5) (fun y6_0 h6 g6 => wcX6_howMany hk g6 h6 (fun y7_0 y7_1 h7 g7 => ⟨h7, g7⟩)), fun c8 => ih.2 _ _ _ g (((hR.2 c2).2 c4).2 c8)⟩⟩⟩
    · intro t li lj g hR
      have hR : wbX11_keep_1 (wpX11_keep k) k t li lj Q := hR
      show wbX11_keep_1 (wpX11_keep k) k t li lj (fun r t => Q r t ∧ G t)
      unfold wbX11_keep_1 at hR ⊢
      exact ⟨hR, g⟩
theorem wgX11_keep {G : XT → Prop} {k : Nat} {t : XT} {a1 : Int32} {Q : Int32 → XT → Prop} (hk : kp G) (g : G t) (hR : wqX11_keep k t a1 Q) : wqX11_keep k t a1 (fun r t => Q r t ∧ G t) := (wfX11_keep hk Q k).1 t _ _ g hR
theorem wcX11_keep {G : XT → Prop} {k : Nat} {t : XT} {a1 : Int32} {Q Q' : Int32 → XT → Prop} (hk : kp G) (g : G t) (hR : wqX11_keep k t a1 Q) (hQ : (∀ r t, Q r t → G t → Q' r t)) : wqX11_keep k t a1 Q' := wmX11_keep (Nat.le_refl k) (fun r t h => hQ r t h.1 h.2) (wgX11_keep hk g hR)
set_option maxHeartbeats 4000000 in
set_option maxRecDepth 100000 in
theorem wfX4_shared_c4 {G : XT → Prop} (hk : kp G) (Q : Int32 → XT → Prop) : ∀ k : Nat, (∀ (t : XT) (li : Nat → Int32) (lj : Nat → Int64), G t → wpX4_shared_c4 k 0 t li lj Q → wpX4_shared_c4 k 0 t li lj (fun r t => Q r t ∧ G t)) ∧ (∀ (t : XT) (li : Nat → Int32) (lj : Nat → Int64), G t → wpX4_shared_c4 k 1 t li lj Q → wpX4_shared_c4 k 1 t li lj (fun r t => Q r t ∧ G t)) ∧ (∀ (t : XT) (li : Nat → Int32) (lj : Nat → Int64), G t → wpX4_shared_c4 k 2 t li lj Q → wpX4_shared_c4 k 2 t li lj (fun r t => Q r t ∧ G t)) := by
  intro k
  induction k with
  | zero => exact ⟨fun _ _ _ _ hR => False.elim hR, fun _ _ _ _ hR => False.elim hR, fun _ _ _ _ hR => False.elim hR⟩
  | succ k ih =>
    refine ⟨?_, ?_, ?_⟩
    · intro t li lj g hR
      have hR : wbX4_shared_c4_0 (wpX4_shared_c4 k) k t li lj Q := hR
      show wbX4_shared_c4_0 (wpX4_shared_c4 k) k t li lj (fun r t => Q r t ∧ G t)
      unfold wbX4_shared_c4_0 at hR ⊢
      exact ih.2.1 _ _ _ g hR
    · intro t li lj g hR
      have hR : wbX4_shared_c4_1 (wpX4_shared_c4 k) k t li lj Q := hR
      show wbX4_shared_c4_1 (wpX4_shared_c4 k) k t li lj (fun r t => Q r t ∧ G t)
      unfold wbX4_shared_c4_1 at hR ⊢
      exact ⟨fun c1 => ⟨(hR.1 c1), g⟩, fun c2 => ⟨(hR.2 c2).1, fun x3 e3 => ⟨fun c4 => ih.2.2 _ _ _ g (((hR.2 c2).2 x3 e3).1 c4), fun c5 => ⟨(((hR.2 c2).2 x3 e3).2 c5).1, fun x6 e6 => fun x7 e7 => fun x8 e8 => ⟨((((((hR.2 c2).2 x3 e3).2 c5).2 x6 e6) x7 e7) x8 e8).1, fun x9 e9 => ⟨fun c10 => ih.2.2 _ _ _ g ((((((((hR.2 c2).2 x3 e3).2 c5).2 x6 e6) x7 e7) x8 e8).2 x9 e9).1 c10), fun c11 => fun x12 e12 => ih.2.2 _ _ _ g (((((((((hR.2 c2).2 x3 e3).2 c5).2 x6 e6) x7 e7) x8 e8).2 x9 e9).2 c11) x12 e12)⟩⟩⟩⟩⟩⟩
    · intro t li lj g hR
      have hR : wbX4_shared_c4_2 (wpX4_shared_c4 k) k t li lj Q := hR
      show wbX4_shared_c4_2 (wpX4_shared_c4 k) k t li lj (fun r t => Q r t ∧ G t)
      unfold wbX4_shared_c4_2 at hR ⊢
      exact fun x1 e1 => ih.2.1 _ _ _ g (hR x1 e1)
theorem wgX4_shared_c4 {G : XT → Prop} {k : Nat} {t : XT} {a1 : Int32} {Q : Int32 → XT → Prop} (hk : kp G) (g : G t) (hR : wqX4_shared_c4 k t a1 Q) : wqX4_shared_c4 k t a1 (fun r t => Q r t ∧ G t) := (wfX4_shared_c4 hk Q k).1 t _ _ g hR
theorem wcX4_shared_c4 {G : XT → Prop} {k : Nat} {t : XT} {a1 : Int32} {Q Q' : Int32 → XT → Prop} (hk : kp G) (g : G t) (hR : wqX4_shared_c4 k t a1 Q) (hQ : (∀ r t, Q r t → G t → Q' r t)) : wqX4_shared_c4 k t a1 Q' := wmX4_shared_c4 (Nat.le_refl k) (fun r t h => hQ r t h.1 h.2) (wgX4_shared_c4 hk g hR)
