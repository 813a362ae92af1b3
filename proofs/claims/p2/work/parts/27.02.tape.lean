set_option maxHeartbeats 4000000 in
set_option maxRecDepth 100000 in
theorem vfX1_goUp {G : XT → Prop} (hk : kpA G) (Q : XT → Prop) : ∀ k : Nat, (∀ (t : XT) (li : Nat → Int32) (lj : Nat → Int64), G t → wpX1_goUp k 0 t li lj Q → wpX1_goUp k 0 t li lj (fun t => Q t ∧ G t)) ∧ (∀ (t : XT) (li : Nat → Int32) (lj : Nat → Int64), G t → wpX1_goUp k 1 t li lj Q → wpX1_goUp k 1 t li lj (fun t => Q t ∧ G t)) := by
  intro k
  induction k with
  | zero => exact ⟨fun _ _ _ _ hR => False.elim hR, fun _ _ _ _ hR => False.elim hR⟩
  | succ k ih =>
    refine ⟨?_, ?_⟩
    · intro t li lj g hR
      have hR : wbX1_goUp_0 (wpX1_goUp k) k t li lj Q := hR
      show wbX1_goUp_0 (wpX1_goUp k) k t li lj (fun t => Q t ∧ G t)
      unfold wbX1_goUp_0 at hR ⊢
      exact ⟨hR.1, fun x1 e1 => ⟨fun c2 => ⟨((hR.2 x1 e1).1 c2).1, fun x3 e3 => ⟨fun c4 => ⟨((((hR.2 x1 e1).1 c2).2 x3 e3).1 c4).1, fun x5 e5 => ih.2 _ _ _ g (((((hR.2 x1 e1).1 c2).2 x3 e3).1 c4).2 x5 e5)⟩, fun c6 => ⟨((((hR.2 x1 e1).1 c2).2 x3 e3).2 c6).1, fun x7 e7 => fun x8 e8 => vtX9_signOf hk g ((((((hR.2 x1 e1).1 c2).2 x3 e3).2 c6).2 x7 e7) x8 e8) (fun y9_0 y9_1 h9 g9 => fun x10 e10 => fun x11 e11 => ih.2 _ _ _ g9 ((h9 x10 e10) x11 e11))⟩⟩⟩, fun c12 => ⟨((hR.2 x1 e1).2 c12), g⟩⟩⟩
    · intro t li lj g hR
      have hR : wbX1_goUp_1 (wpX1_goUp k) k t li lj Q := hR
      show wbX1_goUp_1 (wpX1_goUp k) k t li lj (fun t => Q t ∧ G t)
      unfold wbX1_goUp_1 at hR ⊢
      exact fun x1 e1 => ⟨(hR x1 e1).1, fun x2 e2 => have g2 : G x2 := (by rw [e2]; exact hk.2.2.2 _ _ _ g); ⟨((hR x1 e1).2 x2 e2), g2⟩⟩
theorem vgX1_goUp {G : XT → Prop} {k : Nat} {t : XT} {a1 : Int32} {a2 : Int32} {Q : XT → Prop} (hk : kpA G) (g : G t) (hR : wqX1_goUp k t a1 a2 Q) : wqX1_goUp k t a1 a2 (fun t => Q t ∧ G t) := (vfX1_goUp hk Q k).1 t _ _ g hR
theorem vtX1_goUp {G : XT → Prop} {k : Nat} {t : XT} {a1 : Int32} {a2 : Int32} {Q Q' : XT → Prop} (hk : kpA G) (g : G t) (hR : wqX1_goUp k t a1 a2 Q) (hQ : (∀ t, Q t → G t → Q' t)) : wqX1_goUp k t a1 a2 Q' := wmX1_goUp (Nat.le_refl k) (fun t h => hQ t h.1 h.2) (vgX1_goUp hk g hR)
set_option maxHeartbeats 4000000 in
set_option maxRecDepth 100000 in
theorem vfX1_pour {G : XT → Prop} (hk : kpA G) (Q : XT → Prop) : ∀ k : Nat, (∀ (t : XT) (li : Nat → Int32) (lj : Nat → Int64), G t → wpX1_pour k 0 t li lj Q → wpX1_pour k 0 t li lj (fun t => Q t ∧ G t)) ∧ (∀ (t : XT) (li : Nat → Int32) (lj : Nat → Int64), G t → wpX1_pour k 1 t li lj Q → wpX1_pour k 1 t li lj (fun t => Q t ∧ G t)) ∧ (∀ (t : XT) (li : Nat → Int32) (lj : Nat → Int64), G t → wpX1_pour k 2 t li lj Q → wpX1_pour k 2 t li lj (fun t => Q t ∧ G t)) ∧ (∀ (t : XT) (li : Nat → Int32) (lj : Nat → Int64), G t → wpX1_pour k 3 t li lj Q → wpX1_pour k 3 t li lj (fun t => Q t ∧ G t)) := by
  intro k
  induction k with
  | zero => exact ⟨fun _ _ _ _ hR => False.elim hR, fun _ _ _ _ hR => False.elim hR, fun _ _ _ _ hR => False.elim hR, fun _ _ _ _ hR => False.elim hR⟩
  | succ k ih =>
    refine ⟨?_, ?_, ?_, ?_⟩
    · intro t li lj g hR
      have hR : wbX1_pour_0 (wpX1_pour k) k t li lj Q := hR
      show wbX1_pour_0 (wpX1_pour k) k t li lj (fun t => Q t ∧ G t)
      unfold wbX1_pour_0 at hR ⊢
      exact fun x1 e1 => ih.2.1 _ _ _ g (hR x1 e1)
    · intro t li lj g hR
      have hR : wbX1_pour_1 (wpX1_pour k) k t li lj Q := hR
      show wbX1_pour_1 (wpX1_pour k) k t li lj (fun t => Q t ∧ G t)
      unfold wbX1_pour_1 at hR ⊢
      exact ⟨fun c1 => ⟨(hR.1 c1), g⟩, fun c2 => ⟨(hR.2 c2).1, fun x3 e3 => ⟨((hR.2 c2).2 x3 e3).1, fun x4 e4 => fun x5 e5 => ⟨fun c6 => ih.2.2.1 _ _ _ g (((((hR.2 c2).2 x3 e3).2 x4 e4) x5 e5).1 c6), fun c7 => ⟨(((((hR.2 c2).2 x3 e3).2 x4 e4) x5 e5).2 c7).1, fun x8 e8 => ⟨fun c9 => ih.2.2.1 _ _ _ g (((((((hR.2 c2).2 x3 e3).2 x4 e4) x5 e5).2 c7).2 x8 e8).1 c9), fun c10 => vtX1_goDown hk g (((((((hR.2 c2).2 x3 e3).2 x4 e4) x5 e5).2 c7).2 x8 e8).2 c10) (fun y11_0 h11 g11 => ih.2.2.2 _ _ _ g11 h11)⟩⟩⟩⟩⟩⟩
    · intro t li lj g hR
      have hR : wbX1_pour_2 (wpX1_pour k) k t li lj Q := hR
      show wbX1_pour_2 (wpX1_pour k) k t li lj (fun t => Q t ∧ G t)
      unfold wbX1_pour_2 at hR ⊢
      exact ⟨hR.1, fun x1 e1 => fun x2 e2 => ⟨fun c3 => ih.2.2.2 _ _ _ g (((hR.2 x1 e1) x2 e2).1 c3), fun c4 => ⟨(((hR.2 x1 e1) x2 e2).2 c4).1, fun x5 e5 => fun x6 e6 => ⟨fun c7 => ih.2.2.2 _ _ _ g ((((((hR.2 x1 e1) x2 e2).2 c4).2 x5 e5) x6 e6).1 c7), fun c8 => vtX1_goUp hk g ((((((hR.2 x1 e1) x2 e2).2 c4).2 x5 e5) x6 e6).2 c8) (fun y9_0 h9 g9 => ih.2.2.2 _ _ _ g9 h9)⟩⟩⟩⟩
    · intro t li lj g hR
      have hR : wbX1_pour_3 (wpX1_pour k) k t li lj Q := hR
      show wbX1_pour_3 (wpX1_pour k) k t li lj (fun t => Q t ∧ G t)
      unfold wbX1_pour_3 at hR ⊢
      exact fun x1 e1 => ih.2.1 _ _ _ g (hR x1 e1)
theorem vgX1_pour {G : XT → Prop} {k : Nat} {t : XT} {a1 : Int32} {a2 : Int32} {Q : XT → Prop} (hk : kpA G) (g : G t) (hR : wqX1_pour k t a1 a2 Q) : wqX1_pour k t a1 a2 (fun t => Q t ∧ G t) := (vfX1_pour hk Q k).1 t _ _ g hR
theorem vtX1_pour {G : XT → Prop} {k : Nat} {t : XT} {a1 : Int32} {a2 : Int32} {Q Q' : XT → Prop} (hk : kpA G) (g : G t) (hR : wqX1_pour k t a1 a2 Q) (hQ : (∀ t, Q t → G t → Q' t)) : wqX1_pour k t a1 a2 Q' := wmX1_pour (Nat.le_refl k) (fun t h => hQ t h.1 h.2) (vgX1_pour hk g hR)
set_option maxHeartbeats 4000000 in
set_option maxRecDepth 100000 in
theorem vfX11_incidence {G : XT → Prop} (hk : kpA G) (Q : Int64 → XT → Prop) : ∀ k : Nat, (∀ (t : XT) (li : Nat → Int32) (lj : Nat → Int64), G t → wpX11_incidence k 0 t li lj Q → wpX11_incidence k 0 t li lj (fun r t => Q r t ∧ G t)) := by
  intro k
  induction k with
  | zero => exact fun _ _ _ _ hR => False.elim hR
  | succ k ih =>
    intro t li lj g hR
    have hR : wbX11_incidence_0 (wpX11_incidence k) k t li lj Q := hR
    show wbX11_incidence_0 (wpX11_incidence k) k t li lj (fun r t => Q r t ∧ G t)
    unfold wbX11_incidence_0 at hR ⊢
    exact vtX11_areEnds hk g hR (fun y1_0 y1_1 h1 g1 => ⟨fun c2 => vtX1_start hk g1 (h1.1 c2) (fun y3_0 h3 g3 => ⟨h3.1, fun x4 e4 => vtX1_pour hk g3 (h3.2 x4 e4) (fun y5_0 h5 g5 => ⟨h5.1, fun x6 e6 => ⟨(h5.2 x6 e6), g5⟩⟩)⟩), fun c7 => ⟨(h1.2 c7), g1⟩⟩)
theorem vgX11_incidence {G : XT → Prop} {k : Nat} {t : XT} {a1 : Int32} {a2 : Int32} {Q : Int64 → XT → Prop} (hk : kpA G) (g : G t) (hR : wqX11_incidence k t a1 a2 Q) : wqX11_incidence k t a1 a2 (fun r t => Q r t ∧ G t) := (vfX11_incidence hk Q k) t _ _ g hR
theorem vtX11_incidence {G : XT → Prop} {k : Nat} {t : XT} {a1 : Int32} {a2 : Int32} {Q Q' : Int64 → XT → Prop} (hk : kpA G) (g : G t) (hR : wqX11_incidence k t a1 a2 Q) (hQ : (∀ r t, Q r t → G t → Q' r t)) : wqX11_incidence k t a1 a2 Q' := wmX11_incidence (Nat.le_refl k) (fun r t h => hQ r t h.1 h.2) (vgX11_incidence hk g hR)
set_option maxHeartbeats 4000000 in
set_option maxRecDepth 100000 in
theorem vfX11_chain {G : XT → Prop} (hk : kpA G) (Q : Int64 → XT → Prop) : ∀ k : Nat, (∀ (t : XT) (li : Nat → Int32) (lj : Nat → Int64), G t → wpX11_chain k 0 t li lj Q → wpX11_chain k 0 t li lj (fun r t => Q r t ∧ G t)) ∧ (∀ (t : XT) (li : Nat → Int32) (lj : Nat → Int64), G t → wpX11_chain k 1 t li lj Q → wpX11_chain k 1 t li lj (fun r t => Q r t ∧ G t)) := by
  intro k
  induction k with
  | zero => exact ⟨fun _ _ _ _ hR => False.elim hR, fun _ _ _ _ hR => False.elim hR⟩
  | succ k ih =>
    refine ⟨?_, ?_⟩
    · intro t li lj g hR
      have hR : wbX11_chain_0 (wpX11_chain k) k t li lj Q := hR
      show wbX11_chain_0 (wpX11_chain k) k t li lj (fun r t => Q r t ∧ G t)
      unfold wbX11_chain_0 at hR ⊢
      exact vtX11_isThere hk g hR (fun y1_0 y1_1 h1 g1 => ⟨fun c2 => ih.2 _ _ _ g1 (h1.1 c2), fun c3 => vtX11_isThere hk g1 (h1.2 c3) (fun y4_0 y4_1 h4 g4 => ⟨fun c5 => ih.2 _ _ _ g4 (h4.1 c5), fun c6 => vtX6_isCritical hk g4 (h4.2 c6) (fun y7_0 y7_1 h7 g7 => ⟨fun c8 => ⟨(h7.1 c8).1, fun x9 e9 => ⟨((h7.1 c8).2 x9 e9).1, fun x10 e10 => ⟨fun c11 => vtX1_start hk g7 ((((h7.1 c8).2 x9 e9).2 x10 e10).1 c11) (fun y12_0 h12 g12 => ⟨h12.1, fun x13 e13 => vtX1_pour hk g12 (h12.2 x13 e13) (fun y14_0 h14 g14 => ⟨h14.1, fun x15 e15 => ⟨(h14.2 x15 e15), g14⟩⟩)⟩), fun c16 => ⟨((((h7.1 c8).2 x9 e9).2 x10 e10).2 c16), g7⟩⟩⟩⟩, fun c17 => ih.2 _ _ _ g7 (h7.2 c17)⟩)⟩)⟩)
    · intro t li lj g hR
      have hR : wbX11_chain_1 (wpX11_chain k) k t li lj Q := hR
      show wbX11_chain_1 (wpX11_chain k) k t li lj (fun r t => Q r t ∧ G t)
      unfold wbX11_chain_1 at hR ⊢
      exact ⟨hR, g⟩
theorem vgX11_chain {G : XT → Prop} {k : Nat} {t : XT} {a1 : Int32} {a2 : Int32} {Q : Int64 → XT → Prop} (hk : kpA G) (g : G t) (hR : wqX11_chain k t a1 a2 Q) : wqX11_chain k t a1 a2 (fun r t => Q r t ∧ G t) := (vfX11_chain hk Q k).1 t _ _ g hR
theorem vtX11_chain {G : XT → Prop} {k : Nat} {t : XT} {a1 : Int32} {a2 : Int32} {Q Q' : Int64 → XT → Prop} (hk : kpA G) (g : G t) (hR : wqX11_chain k t a1 a2 Q) (hQ : (∀ r t, Q r t → G t → Q' r t)) : wqX11_chain k t a1 a2 Q' := wmX11_chain (Nat.le_refl k) (fun r t h => hQ r t h.1 h.2) (vgX11_chain hk g hR)
set_option maxHeartbeats 4000000 in
set_option maxRecDepth 100000 in
theorem vfX11_root {G : XT → Prop} (hk : kpA G) (Q : Int32 → XT → Prop) : ∀ k : Nat, (∀ (t : XT) (li : Nat → Int32) (lj : Nat → Int64), G t → wpX11_root k 0 t li lj Q → wpX11_root k 0 t li lj (fun r t => Q r t ∧ G t)) ∧ (∀ (t : XT) (li : Nat → Int32) (lj : Nat → Int64), G t → wpX11_root k 1 t li lj Q → wpX11_root k 1 t li lj (fun r t => Q r t ∧ G t)) ∧ (∀ (t : XT) (li : Nat → Int32) (lj : Nat → Int64), G t → wpX11_root k 2 t li lj Q → wpX11_root k 2 t li lj (fun r t => Q r t ∧ G t)) ∧ (∀ (t : XT) (li : Nat → Int32) (lj : Nat → Int64), G t → wpX11_root k 3 t li lj Q → wpX11_root k 3 t li lj (fun r t => Q r t ∧ G t)) := by
  intro k
  induction k with
  | zero => exact ⟨fun _ _ _ _ hR => False.elim hR, fun _ _ _ _ hR => False.elim hR, fun _ _ _ _ hR => False.elim hR, fun _ _ _ _ hR => False.elim hR⟩
  | succ k ih =>
    refine ⟨?_, ?_, ?_, ?_⟩
    · intro t li lj g hR
      have hR : wbX11_root_0 (wpX11_root k) k t li lj Q := hR
      show wbX11_root_0 (wpX11_root k) k t li lj (fun r t => Q r t ∧ G t)
      unfold wbX11_root_0 at hR ⊢
      exact vtX11_isThere hk g hR (fun y1_0 y1_1 h1 g1 => ⟨fun c2 => ih.2.1 _ _ _ g1 (h1.1 c2), fun c3 => ⟨(h1.2 c3).1, fun x4 e4 => ⟨fun c5 => ih.2.1 _ _ _ g1 (((h1.2 c3).2 x4 e4).1 c5), fun c6 => ⟨fun c7 => ih.2.1 _ _ _ g1 ((((h1.2 c3).2 x4 e4).2 c6).1 c7), fun c8 => ⟨fun c9 => ih.2.2.1 _ _ _ g1 (((((h1.2 c3).2 x4 e4).2 c6).2 c8).1 c9), fun c10 => ih.2.1 _ _ _ g1 (((((h1.2 c3).2 x4 e4).2 c6).2 c8).2 c10)⟩⟩⟩⟩⟩)
    · intro t li lj g hR
      have hR : wbX11_root_1 (wpX11_root k) k t li lj Q := hR
      show wbX11_root_1 (wpX11_root k) k t li lj (fun r t => Q r t ∧ G t)
      unfold wbX11_root_1 at hR ⊢
      exact ⟨hR, g⟩
    · intro t li lj g hR
      have hR : wbX11_root_2 (wpX11_root k) k t li lj Q := hR
      show wbX11_root_2 (wpX11_root k) k t li lj (fun r t => Q r t ∧ G t)
      unfold wbX11_root_2 at hR ⊢
      exact ⟨fun c1 => ih.2.2.2 _ _ _ g (hR.1 c1), fun c2 => ⟨(hR.2 c2).1, fun x3 e3 => ⟨fun c4 => ih.2.2.2 _ _ _ g (((hR.2 c2).2 x3 e3).1 c4), fun c5 => ⟨(((hR.2 c2).2 x3 e3).2 c5).1, fun x6 e6 => ⟨((((hR.2 c2).2 x3 e3).2 c5).2 x6 e6).1, fun x7 e7 => wcX11_bit (((((hR.2 c2).2 x3 e3).2 c5).2 x6 e6).2 x7 e7) (fun y8_0 h8 => fun x9 e9 => fun x10 e10 => wcX11_lowest ((h8 x9 e9) x10 e10) (fun y11_0 h11 => fun x12 e12 => fun x13 e13 => ih.2.2.1 _ _ _ g ((h11 x12 e12) x13 e13)))⟩⟩⟩⟩⟩
    · intro t li lj g hR
      have hR : wbX11_root_3 (wpX11_root k) k t li lj Q := hR
      show wbX11_root_3 (wpX11_root k) k t li lj (fun r t => Q r t ∧ G t)
      unfold wbX11_root_3 at hR ⊢
      exact ⟨fun c1 => ⟨(hR.1 c1), g⟩, fun c2 => ⟨(hR.2 c2), g⟩⟩
theorem vgX11_root {G : XT → Prop} {k : Nat} {t : XT} {a1 : Int32} {a2 : Int32} {Q : Int32 → XT → Prop} (hk : kpA G) (g : G t) (hR : wqX11_root k t a1 a2 Q) : wqX11_root k t a1 a2 (fun r t => Q r t ∧ G t) := (vfX11_root hk Q k).1 t _ _ g hR
theorem vtX11_root {G : XT → Prop} {k : Nat} {t : XT} {a1 : Int32} {a2 : Int32} {Q Q' : Int32 → XT → Prop} (hk : kpA G) (g : G t) (hR : wqX11_root k t a1 a2 Q) (hQ : (∀ r t, Q r t → G t → Q' r t)) : wqX11_root k t a1 a2 Q' := wmX11_root (Nat.le_refl k) (fun r t h => hQ r t h.1 h.2) (vgX11_root hk g hR)
set_option maxHeartbeats 4000000 in
set_option maxRecDepth 100000 in
theorem vfX11_through {G : XT → Prop} (hk : kpA G) (Q : Int64 → XT → Prop) : ∀ k : Nat, (∀ (t : XT) (li : Nat → Int32) (lj : Nat → Int64), G t → wpX11_through k 0 t li lj Q → wpX11_through k 0 t li lj (fun r t => Q r t ∧ G t)) ∧ (∀ (t : XT) (li : Nat → Int32) (lj : Nat → Int64), G t → wpX11_through k 1 t li lj Q → wpX11_through k 1 t li lj (fun r t => Q r t ∧ G t)) := by
  intro k
  induction k with
  | zero => exact ⟨fun _ _ _ _ hR => False.elim hR, fun _ _ _ _ hR => False.elim hR⟩
  | succ k ih =>
    refine ⟨?_, ?_⟩
    · intro t li lj g hR
      have hR : wbX11_through_0 (wpX11_through k) k t li lj Q := hR
      show wbX11_through_0 (wpX11_through k) k t li lj (fun r t => Q r t ∧ G t)
      unfold wbX11_through_0 at hR ⊢
      exact vtX11_areEnds hk g hR (fun y1_0 y1_1 h1 g1 => ⟨fun c2 => ih.2 _ _ _ g1 (h1.1 c2), fun c3 => vtX11_isThere hk g1 (h1.2 c3) (fun y4_0 y4_1 h4 g4 => ⟨fun c5 => vtX1_start hk g4 (h4.1 c5) (fun y6_0 h6 g6 => ⟨h6.1, fun x7 e7 => vtX1_pour hk g6 (h6.2 x7 e7) (fun y8_0 h8 g8 => vtX1_countWays hk g8 h8 (fun y9_0 y9_1 h9 g9 => ⟨h9.1, fun x10 e10 => ⟨(h9.2 x10 e10).1, fun x11 e11 => fun x12 e12 => ⟨(((h9.2 x10 e10).2 x11 e11) x12 e12), g9⟩⟩⟩))⟩), fun c13 => ih.2 _ _ _ g4 (h4.2 c13)⟩)⟩)
    · intro t li lj g hR
      have hR : wbX11_through_1 (wpX11_through k) k t li lj Q := hR
      show wbX11_through_1 (wpX11_through k) k t li lj (fun r t => Q r t ∧ G t)
      unfold wbX11_through_1 at hR ⊢
      exact ⟨hR, g⟩
theorem vgX11_through {G : XT → Prop} {k : Nat} {t : XT} {a1 : Int32} {a2 : Int32} {a3 : Int32} {Q : Int64 → XT → Prop} (hk : kpA G) (g : G t) (hR : wqX11_through k t a1 a2 a3 Q) : wqX11_through k t a1 a2 a3 (fun r t => Q r t ∧ G t) := (vfX11_through hk Q k).1 t _ _ g hR
theorem vtX11_through {G : XT → Prop} {k : Nat} {t : XT} {a1 : Int32} {a2 : Int32} {a3 : Int32} {Q Q' : Int64 → XT → Prop} (hk : kpA G) (g : G t) (hR : wqX11_through k t a1 a2 a3 Q) (hQ : (∀ r t, Q r t → G t → Q' r t)) : wqX11_through k t a1 a2 a3 Q' := wmX11_through (Nat.le_refl k) (fun r t h => hQ r t h.1 h.2) (vgX11_through hk g hR)
set_option maxHeartbeats 4000000 in
set_option maxRecDepth 100000 in
theorem vfX1_holdOnly {G : XT → Prop} (hk : kpA G) (Q : XT → Prop) : ∀ k : Nat, (∀ (t : XT) (li : Nat → Int32) (lj : Nat → Int64), G t → wpX1_holdOnly k 0 t li lj Q → wpX1_holdOnly k 0 t li lj (fun t => Q t ∧ G t)) ∧ (∀ (t : XT) (li : Nat → Int32) (lj : Nat → Int64), G t → wpX1_holdOnly k 1 t li lj Q → wpX1_holdOnly k 1 t li lj (fun t => Q t ∧ G t)) ∧ (∀ (t : XT) (li : Nat → Int32) (lj : Nat → Int64), G t → wpX1_holdOnly k 2 t li lj Q → wpX1_holdOnly k 2 t li lj (fun t => Q t ∧ G t)) := by
  intro k
  induction k with
  | zero => exact ⟨fun _ _ _ _ hR => False.elim hR, fun _ _ _ _ hR => False.elim hR, fun _ _ _ _ hR => False.elim hR⟩
  | succ k ih =>
    refine ⟨?_, ?_, ?_⟩
    · intro t li lj g hR
      have hR : wbX1_holdOnly_0 (wpX1_holdOnly k) k t li lj Q := hR
      show wbX1_holdOnly_0 (wpX1_holdOnly k) k t li lj (fun t => Q t ∧ G t)
      unfold wbX1_holdOnly_0 at hR ⊢
      exact ih.2.1 _ _ _ g hR
    · intro t li lj g hR
      have hR : wbX1_holdOnly_1 (wpX1_holdOnly k) k t li lj Q := hR
      show wbX1_holdOnly_1 (wpX1_holdOnly k) k t li lj (fun t => Q t ∧ G t)
      unfold wbX1_holdOnly_1 at hR ⊢
      exact ⟨fun c1 => ⟨(hR.1 c1), g⟩, fun c2 => wcX11_isIn (hR.2 c2) (fun y3_0 h3 => ⟨fun c4 => ih.2.2 _ _ _ g (h3.1 c4), fun c5 => ⟨(h3.2 c5).1, fun x6 e6 => have g6 : G x6 := (by rw [e6]; exact hk.2.2.2 _ _ _ g); ih.2.2 _ _ _ g6 ((h3.2 c5).2 x6 e6)⟩⟩)⟩
    · intro t li lj g hR
      have hR : wbX1_holdOnly_2 (wpX1_holdOnly k) k t li lj Q := hR
      show wbX1_holdOnly_2 (wpX1_holdOnly k) k t li lj (fun t => Q t ∧ G t)
      unfold wbX1_holdOnly_2 at hR ⊢
      exact fun x1 e1 => ih.2.1 _ _ _ g (hR x1 e1)
theorem vgX1_holdOnly {G : XT → Prop} {k : Nat} {t : XT} {a1 : Int64} {Q : XT → Prop} (hk : kpA G) (g : G t) (hR : wqX1_holdOnly k t a1 Q) : wqX1_holdOnly k t a1 (fun t => Q t ∧ G t) := (vfX1_holdOnly hk Q k).1 t _ _ g hR
theorem vtX1_holdOnly {G : XT → Prop} {k : Nat} {t : XT} {a1 : Int64} {Q Q' : XT → Prop} (hk : kpA G) (g : G t) (hR : wqX1_holdOnly k t a1 Q) (hQ : (∀ t, Q t → G t → Q' t)) : wqX1_holdOnly k t a1 Q' := wmX1_holdOnly (Nat.le_refl k) (fun t h => hQ t h.1 h.2) (vgX1_holdOnly hk g hR)
set_option maxHeartbeats 4000000 in
set_option maxRecDepth 100000 in
theorem vfX11_squaresFrom {G : XT → Prop} (hk : kpA G) (Q : Int32 → XT → Prop) : ∀ k : Nat, (∀ (t : XT) (li : Nat → Int32) (lj : Nat → Int64), G t → wpX11_squaresFrom k 0 t li lj Q → wpX11_squaresFrom k 0 t li lj (fun r t => Q r t ∧ G t)) ∧ (∀ (t : XT) (li : Nat → Int32) (lj : Nat → Int64), G t → wpX11_squaresFrom k 1 t li lj Q → wpX11_squaresFrom k 1 t li lj (fun r t => Q r t ∧ G t)) ∧ (∀ (t : XT) (li : Nat → Int32) (lj : Nat → Int64), G t → wpX11_squaresFrom k 2 t li lj Q → wpX11_squaresFrom k 2 t li lj (fun r t => Q r t ∧ G t)) := by
  intro k
  induction k with
  | zero => exact ⟨fun _ _ _ _ hR => False.elim hR, fun _ _ _ _ hR => False.elim hR, fun _ _ _ _ hR => False.elim hR⟩
  | succ k ih =>
    refine ⟨?_, ?_, ?_⟩
    · intro t li lj g hR
      have hR : wbX11_squaresFrom_0 (wpX11_squaresFrom k) k t li lj Q := hR
      show wbX11_squaresFrom_0 (wpX11_squaresFrom k) k t li lj (fun r t => Q r t ∧ G t)
      unfold wbX11_squaresFrom_0 at hR ⊢
      exact ⟨hR.1, fun x1 e1 => ⟨fun c2 => vtX6_unpaired hk g ((hR.2 x1 e1).1 c2) (fun y3_0 y3_1 h3 g3 => fun x4 e4 => ⟨(h3 x4 e4).1, fun x5 e5 => fun x6 e6 => vtX6_unpaired hk g3 (((h3 x4 e4).2 x5 e5) x6 e6) (fun y7_0 y7_1 h7 g7 => fun x8 e8 => ⟨(h7 x8 e8).1, fun x9 e9 => fun x10 e10 => vtX1_start hk g7 (((h7 x8 e8).2 x9 e9) x10 e10) (fun y11_0 h11 g11 => vtX1_pour hk g11 h11 (fun y12_0 h12 g12 => vtX1_holdOnly hk g12 h12 (fun y13_0 h13 g13 => fun x14 e14 => vtX1_pour hk g13 (h13 x14 e14) (fun y15_0 h15 g15 => ih.2.1 _ _ _ g15 h15))))⟩)⟩), fun c16 => ⟨((hR.2 x1 e1).2 c16), g⟩⟩⟩
    · intro t li lj g hR
      have hR : wbX11_squaresFrom_1 (wpX11_squaresFrom k) k t li lj Q := hR
      show wbX11_squaresFrom_1 (wpX11_squaresFrom k) k t li lj (fun r t => Q r t ∧ G t)
      unfold wbX11_squaresFrom_1 at hR ⊢
      exact ⟨fun c1 => ⟨(hR.1 c1), g⟩, fun c2 => wcX11_isIn (hR.2 c2) (fun y3_0 h3 => ⟨fun c4 => ih.2.2 _ _ _ g (h3.1 c4), fun c5 => ⟨(h3.2 c5).1, fun x6 e6 => fun x7 e7 => ⟨fun c8 => ih.2.2 _ _ _ g ((((h3.2 c5).2 x6 e6) x7 e7).1 c8), fun c9 => fun x10 e10 => ih.2.2 _ _ _ g (((((h3.2 c5).2 x6 e6) x7 e7).2 c9) x10 e10)⟩⟩⟩)⟩
    · intro t li lj g hR
      have hR : wbX11_squaresFrom_2 (wpX11_squaresFrom k) k t li lj Q := hR
      show wbX11_squaresFrom_2 (wpX11_squaresFrom k) k t li lj (fun r t => Q r t ∧ G t)
      unfold wbX11_squaresFrom_2 at hR ⊢
      exact fun x1 e1 => ih.2.1 _ _ _ g (hR x1 e1)
theorem vgX11_squaresFrom {G : XT → Prop} {k : Nat} {t : XT} {a1 : Int32} {Q : Int32 → XT → Prop} (hk : kpA G) (g : G t) (hR : wqX11_squaresFrom k t a1 Q) : wqX11_squaresFrom k t a1 (fun r t => Q r t ∧ G t) := (vfX11_squaresFrom hk Q k).1 t _ _ g hR
theorem vtX11_squaresFrom {G : XT → Prop} {k : Nat} {t : XT} {a1 : Int32} {Q Q' : Int32 → XT → Prop} (hk : kpA G) (g : G t) (hR : wqX11_squaresFrom k t a1 Q) (hQ : (∀ r t, Q r t → G t → Q' r t)) : wqX11_squaresFrom k t a1 Q' := wmX11_squaresFrom (Nat.le_refl k) (fun r t h => hQ r t h.1 h.2) (vgX11_squaresFrom hk g hR)
set_option maxHeartbeats 4000000 in
set_option maxRecDepth 100000 in
theorem vfX11_squares {G : XT → Prop} (hk : kpA G) (Q : Int32 → XT → Prop) : ∀ k : Nat, (∀ (t : XT) (li : Nat → Int32) (lj : Nat → Int64), G t → wpX11_squares k 0 t li lj Q → wpX11_squares k 0 t li lj (fun r t => Q r t ∧ G t)) ∧ (∀ (t : XT) (li : Nat → Int32) (lj : Nat → Int64), G t → wpX11_squares k 1 t li lj Q → wpX11_squares k 1 t li lj (fun r t => Q r t ∧ G t)) ∧ (∀ (t : XT) (li : Nat → Int32) (lj : Nat → Int64), G t → wpX11_squares k 2 t li lj Q → wpX11_squares k 2 t li lj (fun r t => Q r t ∧ G t)) := by
  intro k
  induction k with
  | zero => exact ⟨fun _ _ _ _ hR => False.elim hR, fun _ _ _ _ hR => False.elim hR, fun _ _ _ _ hR => False.elim hR⟩
  | succ k ih =>
    refine ⟨?_, ?_, ?_⟩
    · intro t li lj g hR
      have hR : wbX11_squares_0 (wpX11_squares k) k t li lj Q := hR
      show wbX11_squares_0 (wpX11_squares k) k t li lj (fun r t => Q r t ∧ G t)
      unfold wbX11_squares_0 at hR ⊢
      exact vtX6_unpaired hk g hR (fun y1_0 y1_1 h1 g1 => ih.2.1 _ _ _ g1 h1)
    · intro t li lj g hR
      have hR : wbX11_squares_1 (wpX11_squares k) k t li lj Q := hR
      show wbX11_squares_1 (wpX11_squares k) k t li lj (fun r t => Q r t ∧ G t)
      unfold wbX11_squares_1 at hR ⊢
      exact ⟨fun c1 => ⟨(hR.1 c1), g⟩, fun c2 => wcX11_isIn (hR.2 c2) (fun y3_0 h3 => ⟨fun c4 => ih.2.2 _ _ _ g (h3.1 c4), fun c5 => ⟨(h3.2 c5).1, fun x6 e6 => ⟨fun c7 => ih.2.2 _ _ _ g (((h3.2 c5).2 x6 e6).1 c7), fun c8 => vtX11_squaresFrom hk g (((h3.2 c5).2 x6 e6).2 c8) (fun y9_0 y9_1 h9 g9 => fun x10 e10 => ih.2.2 _ _ _ g9 (h9 x10 e10))⟩⟩⟩)⟩
    · intro t li lj g hR
      have hR : wbX11_squares_2 (wpX11_squares k) k t li lj Q := hR
      show wbX11_squares_2 (wpX11_squares k) k t li lj (fun r t => Q r t ∧ G t)
      unfold wbX11_squares_2 at hR ⊢
      exact fun x1 e1 => ih.2.1 _ _ _ g (hR x1 e1)
theorem vgX11_squares {G : XT → Prop} {k : Nat} {t : XT}  {Q : Int32 → XT → Prop} (hk : kpA G) (g : G t) (hR : wqX11_squares k t  Q) : wqX11_squares k t  (fun r t => Q r t ∧ G t) := (vfX11_squares hk Q k).1 t _ _ g hR
theorem vtX11_squares {G : XT → Prop} {k : Nat} {t : XT}  {Q Q' : Int32 → XT → Prop} (hk : kpA G) (g : G t) (hR : wqX11_squares k t  Q) (hQ : (∀ r t, Q r t → G t → Q' r t)) : wqX11_squares k t  Q' := wmX11_squares (Nat.le_refl k) (fun r t h => hQ r t h.1 h.2) (vgX11_squares hk g hR)
set_option maxHeartbeats 4000000 in
set_option maxRecDepth 100000 in
theorem vfX11_basis {G : XT → Prop} (hk : kpA G) (Q : Int64 → XT → Prop) : ∀ k : Nat, (∀ (t : XT) (li : Nat → Int32) (lj : Nat → Int64), G t → wpX11_basis k 0 t li lj Q → wpX11_basis k 0 t li lj (fun r t => Q r t ∧ G t)) := by
  intro k
  induction k with
  | zero => exact fun _ _ _ _ hR => False.elim hR
  | succ k ih =>
    intro t li lj g hR
    have hR : wbX11_basis_0 (wpX11_basis k) k t li lj Q := hR
    show wbX11_basis_0 (wpX11_basis k) k t li lj (fun r t => Q r t ∧ G t)
    unfold wbX11_basis_0 at hR ⊢
    exact ⟨fun c1 => ⟨(hR.1 c1), g⟩, fun c2 => vtX6_unpaired hk g (hR.2 c2) (fun y3_0 y3_1 h3 g3 => ⟨h3, g3⟩)⟩
theorem vgX11_basis {G : XT → Prop} {k : Nat} {t : XT} {a1 : Int32} {Q : Int64 → XT → Prop} (hk : kpA G) (g : G t) (hR : wqX11_basis k t a1 Q) : wqX11_basis k t a1 (fun r t => Q r t ∧ G t) := (vfX11_basis hk Q k) t _ _ g hR
theorem vtX11_basis {G : XT → Prop} {k : Nat} {t : XT} {a1 : Int32} {Q Q' : Int64 → XT → Prop} (hk : kpA G) (g : G t) (hR : wqX11_basis k t a1 Q) (hQ : (∀ r t, Q r t → G t → Q' r t)) : wqX11_basis k t a1 Q' := wmX11_basis (Nat.le_refl k) (fun r t h => hQ r t h.1 h.2) (vgX11_basis hk g hR)
set_option maxHeartbeats 4000000 in
set_option maxRecDepth 100000 in
theorem vfX5_resize {G : XT → Prop} (hk : kpA G) (Q : XT → Prop) : ∀ k : Nat, (∀ (t : XT) (li : Nat → Int32) (lj : Nat → Int64), G t → wpX5_resize k 0 t li lj Q → wpX5_resize k 0 t li lj (fun t => Q t ∧ G t)) ∧ (∀ (t : XT) (li : Nat → Int32) (lj : Nat → Int64), G t → wpX5_resize k 1 t li lj Q → wpX5_resize k 1 t li lj (fun t => Q t ∧ G t)) ∧ (∀ (t : XT) (li : Nat → Int32) (lj : Nat → Int64), G t → wpX5_resize k 2 t li lj Q → wpX5_resize k 2 t li lj (fun t => Q t ∧ G t)) ∧ (∀ (t : XT) (li : Nat → Int32) (lj : Nat → Int64), G t → wpX5_resize k 3 t li lj Q → wpX5_resize k 3 t li lj (fun t => Q t ∧ G t)) ∧ (∀ (t : XT) (li : Nat → Int32) (lj : Nat → Int64), G t → wpX5_resize k 4 t li lj Q → wpX5_resize k 4 t li lj (fun t => Q t ∧ G t)) := by
  intro k
  induction k with
  | zero => exact ⟨fun _ _ _ _ hR => False.elim hR, fun _ _ _ _ hR => False.elim hR, fun _ _ _ _ hR => False.elim hR, fun _ _ _ _ hR => False.elim hR, fun _ _ _ _ hR => False.elim hR⟩
  | succ k ih =>
    refine ⟨?_, ?_, ?_, ?_, ?_⟩
    · intro t li lj g hR
      have hR : wbX5_resize_0 (wpX5_resize k) k t li lj Q := hR
      show wbX5_resize_0 (wpX5_resize k) k t li lj (fun t => Q t ∧ G t)
      unfold wbX5_resize_0 at hR ⊢
      exact ⟨fun c1 => ih.2.1 _ _ _ g (hR.1 c1), fun c2 => ⟨fun c3 => ih.2.1 _ _ _ g ((hR.2 c2).1 c3), fun c4 => ⟨fun c5 => ih.2.1 _ _ _ g (((hR.2 c2).2 c4).1 c5), fun c6 => ⟨fun c7 => ih.2.1 _ _ _ g ((((hR.2 c2).2 c4).2 c6).1 c7), fun c8 => fun x9 e9 => ⟨fun c10 => ih.2.1 _ _ _ g ((((((hR.2 c2).2 c4).2 c6).2 c8) x9 e9).1 c10), fun c11 => ih.2.2.1 _ _ _ g ((((((hR.2 c2).2 c4).2 c6).2 c8) x9 e9).2 c11)⟩⟩⟩⟩⟩
    · intro t li lj g hR
      have hR : wbX5_resize_1 (wpX5_resize k) k t li lj Q := hR
      show wbX5_resize_1 (wpX5_resize k) k t li lj (fun t => Q t ∧ G t)
      unfold wbX5_resize_1 at hR ⊢
      exact ih.2.2.1 _ _ _ g hR
    · intro t li lj g hR
      have hR : wbX5_resize_2 (wpX5_resize k) k t li lj Q := hR
      show wbX5_resize_2 (wpX5_resize k) k t li lj (fun t => Q t ∧ G t)
      unfold wbX5_resize_2 at hR ⊢
      exact ⟨fun c1 => ih.2.2.2.1 _ _ _ g (hR.1 c1), fun c2 => ih.2.2.2.1 _ _ _ g (hR.2 c2)⟩
    · intro t li lj g hR
      have hR : wbX5_resize_3 (wpX5_resize k) k t li lj Q := hR
      show wbX5_resize_3 (wpX5_resize k) k t li lj (fun t => Q t ∧ G t)
      unfold wbX5_resize_3 at hR ⊢
      exact fun x1 e1 => have g1 : G x1 := (by rw [e1]; exact hk.1 _ _ _ g); ⟨fun c2 => ih.2.2.2.2 _ _ _ g1 ((hR x1 e1).1 c2), fun c3 => ih.2.2.2.2 _ _ _ g1 ((hR x1 e1).2 c3)⟩
    · intro t li lj g hR
      have hR : wbX5_resize_4 (wpX5_resize k) k t li lj Q := hR
      show wbX5_resize_4 (wpX5_resize k) k t li lj (fun t => Q t ∧ G t)
      unfold wbX5_resize_4 at hR ⊢
      exact fun x1 e1 => have g1 : G x1 := (by rw [e1]; exact hk.1 _ _ _ g); ⟨(hR x1 e1), g1⟩
theorem vgX5_resize {G : XT → Prop} {k : Nat} {t : XT} {a1 : Int32} {a2 : Int32} {Q : XT → Prop} (hk : kpA G) (g : G t) (hR : wqX5_resize k t a1 a2 Q) : wqX5_resize k t a1 a2 (fun t => Q t ∧ G t) := (vfX5_resize hk Q k).1 t _ _ g hR
theorem vtX5_resize {G : XT → Prop} {k : Nat} {t : XT} {a1 : Int32} {a2 : Int32} {Q Q' : XT → Prop} (hk : kpA G) (g : G t) (hR : wqX5_resize k t a1 a2 Q) (hQ : (∀ t, Q t → G t → Q' t)) : wqX5_resize k t a1 a2 Q' := wmX5_resize (Nat.le_refl k) (fun t h => hQ t h.1 h.2) (vgX5_resize hk g hR)
set_option maxHeartbeats 4000000 in
set_option maxRecDepth 100000 in
theorem vfX5_put {G : XT → Prop} (hk : kpA G) (Q : XT → Prop) : ∀ k : Nat, (∀ (t : XT) (li : Nat → Int32) (lj : Nat → Int64), G t → wpX5_put k 0 t li lj Q → wpX5_put k 0 t li lj (fun t => Q t ∧ G t)) := by
  intro k
  induction k with
  | zero => exact fun _ _ _ _ hR => False.elim hR
  | succ k ih =>
    intro t li lj g hR
    have hR : wbX5_put_0 (wpX5_put k) k t li lj Q := hR
    show wbX5_put_0 (wpX5_put k) k t li lj (fun t => Q t ∧ G t)
    unfold wbX5_put_0 at hR ⊢
    exact ⟨fun c1 => ⟨(hR.1 c1), g⟩, fun c2 => ⟨fun c3 => ⟨((hR.2 c2).1 c3), g⟩, fun c4 => ⟨fun c5 => ⟨(((hR.2 c2).2 c4).1 c5), g⟩, fun c6 => ⟨fun c7 => ⟨((((hR.2 c2).2 c4).2 c6).1 c7), g⟩, fun c8 => fun x9 e9 => fun x10 e10 => ⟨((((((hR.2 c2).2 c4).2 c6).2 c8) x9 e9) x10 e10).1, fun x11 e11 => have g11 : G x11 := (by rw [e11]; exact hk.2.2.2 _ _ _ g); ⟨(((((((hR.2 c2).2 c4).2 c6).2 c8) x9 e9) x10 e10).2 x11 e11), g11⟩⟩⟩⟩⟩⟩
theorem vgX5_put {G : XT → Prop} {k : Nat} {t : XT} {a1 : Int32} {a2 : Int32} {a3 : Int64} {Q : XT → Prop} (hk : kpA G) (g : G t) (hR : wqX5_put k t a1 a2 a3 Q) : wqX5_put k t a1 a2 a3 (fun t => Q t ∧ G t) := (vfX5_put hk Q k) t _ _ g hR
theorem vtX5_put {G : XT → Prop} {k : Nat} {t : XT} {a1 : Int32} {a2 : Int32} {a3 : Int64} {Q Q' : XT → Prop} (hk : kpA G) (g : G t) (hR : wqX5_put k t a1 a2 a3 Q) (hQ : (∀ t, Q t → G t → Q' t)) : wqX5_put k t a1 a2 a3 Q' := wmX5_put (Nat.le_refl k) (fun t h => hQ t h.1 h.2) (vgX5_put hk g hR)
set_option maxHeartbeats 4000000 in
set_option maxRecDepth 100000 in
theorem vfX0_fillRow {G : XT → Prop} (hk : kpA G) (Q : XT → Prop) : ∀ k : Nat, (∀ (t : XT) (li : Nat → Int32) (lj : Nat → Int64), G t → wpX0_fillRow k 0 t li lj Q → wpX0_fillRow k 0 t li lj (fun t => Q t ∧ G t)) ∧ (∀ (t : XT) (li : Nat → Int32) (lj : Nat → Int64), G t → wpX0_fillRow k 1 t li lj Q → wpX0_fillRow k 1 t li lj (fun t => Q t ∧ G t)) ∧ (∀ (t : XT) (li : Nat → Int32) (lj : Nat → Int64), G t → wpX0_fillRow k 2 t li lj Q → wpX0_fillRow k 2 t li lj (fun t => Q t ∧ G t)) ∧ (∀ (t : XT) (li : Nat → Int32) (lj : Nat → Int64), G t → wpX0_fillRow k 3 t li lj Q → wpX0_fillRow k 3 t li lj (fun t => Q t ∧ G t)) := by
  intro k
  induction k with
  | zero => exact ⟨fun _ _ _ _ hR => False.elim hR, fun _ _ _ _ hR => False.elim hR, fun _ _ _ _ hR => False.elim hR, fun _ _ _ _ hR => False.elim hR⟩
  | succ k ih =>
    refine ⟨?_, ?_, ?_, ?_⟩
    · intro t li lj g hR
      have hR : wbX0_fillRow_0 (wpX0_fillRow k) k t li lj Q := hR
      show wbX0_fillRow_0 (wpX0_fillRow k) k t li lj (fun t => Q t ∧ G t)
      unfold wbX0_fillRow_0 at hR ⊢
      exact ih.2.1 _ _ _ g hR
    · intro t li lj g hR
      have hR : wbX0_fillRow_1 (wpX0_fillRow k) k t li lj Q := hR
      show wbX0_fillRow_1 (wpX0_fillRow k) k t li lj (fun t => Q t ∧ G t)
      unfold wbX0_fillRow_1 at hR ⊢
      exact ⟨fun c1 => ⟨(hR.1 c1), g⟩, fun c2 => wcX11_isIn (hR.2 c2) (fun y3_0 h3 => ⟨fun c4 => ih.2.2.2 _ _ _ g (h3.1 c4), fun c5 => ⟨fun c6 => vtX9_signOf hk g ((h3.2 c5).1 c6) (fun y7_0 y7_1 h7 g7 => fun x8 e8 => ih.2.2.1 _ _ _ g7 (h7 x8 e8)), fun c9 => ⟨((h3.2 c5).2 c9).1, fun x10 e10 => ih.2.2.1 _ _ _ g (((h3.2 c5).2 c9).2 x10 e10)⟩⟩⟩)⟩
    · intro t li lj g hR
      have hR : wbX0_fillRow_2 (wpX0_fillRow k) k t li lj Q := hR
      show wbX0_fillRow_2 (wpX0_fillRow k) k t li lj (fun t => Q t ∧ G t)
      unfold wbX0_fillRow_2 at hR ⊢
      exact vtX5_put hk g hR (fun y1_0 h1 g1 => fun x2 e2 => ih.2.2.2 _ _ _ g1 (h1 x2 e2))
    · intro t li lj g hR
      have hR : wbX0_fillRow_3 (wpX0_fillRow k) k t li lj Q := hR
      show wbX0_fillRow_3 (wpX0_fillRow k) k t li lj (fun t => Q t ∧ G t)
      unfold wbX0_fillRow_3 at hR ⊢
      exact fun x1 e1 => ih.2.1 _ _ _ g (hR x1 e1)
theorem vgX0_fillRow {G : XT → Prop} {k : Nat} {t : XT} {a1 : Int32} {a2 : Int32} {a3 : Int64} {a4 : Int32} {Q : XT → Prop} (hk : kpA G) (g : G t) (hR : wqX0_fillRow k t a1 a2 a3 a4 Q) : wqX0_fillRow k t a1 a2 a3 a4 (fun t => Q t ∧ G t) := (vfX0_fillRow hk Q k).1 t _ _ g hR
theorem vtX0_fillRow {G : XT → Prop} {k : Nat} {t : XT} {a1 : Int32} {a2 : Int32} {a3 : Int64} {a4 : Int32} {Q Q' : XT → Prop} (hk : kpA G) (g : G t) (hR : wqX0_fillRow k t a1 a2 a3 a4 Q) (hQ : (∀ t, Q t → G t → Q' t)) : wqX0_fillRow k t a1 a2 a3 a4 Q' := wmX0_fillRow (Nat.le_refl k) (fun t h => hQ t h.1 h.2) (vgX0_fillRow hk g hR)
set_option maxHeartbeats 4000000 in
set_option maxRecDepth 100000 in
theorem vfX0_fill {G : XT → Prop} (hk : kpA G) (Q : XT → Prop) : ∀ k : Nat, (∀ (t : XT) (li : Nat → Int32) (lj : Nat → Int64), G t → wpX0_fill k 0 t li lj Q → wpX0_fill k 0 t li lj (fun t => Q t ∧ G t)) ∧ (∀ (t : XT) (li : Nat → Int32) (lj : Nat → Int64), G t → wpX0_fill k 1 t li lj Q → wpX0_fill k 1 t li lj (fun t => Q t ∧ G t)) ∧ (∀ (t : XT) (li : Nat → Int32) (lj : Nat → Int64), G t → wpX0_fill k 2 t li lj Q → wpX0_fill k 2 t li lj (fun t => Q t ∧ G t)) ∧ (∀ (t : XT) (li : Nat → Int32) (lj : Nat → Int64), G t → wpX0_fill k 3 t li lj Q → wpX0_fill k 3 t li lj (fun t => Q t ∧ G t)) := by
  intro k
  induction k with
  | zero => exact ⟨fun _ _ _ _ hR => False.elim hR, fun _ _ _ _ hR => False.elim hR, fun _ _ _ _ hR => False.elim hR, fun _ _ _ _ hR => False.elim hR⟩
  | succ k ih =>
    refine ⟨?_, ?_, ?_, ?_⟩
    · intro t li lj g hR
      have hR : wbX0_fill_0 (wpX0_fill k) k t li lj Q := hR
      show wbX0_fill_0 (wpX0_fill k) k t li lj (fun t => Q t ∧ G t)
      unfold wbX0_fill_0 at hR ⊢
      exact wcJ13_bitCount_95d88 hR (fun y1_0 h1 => wcJ13_bitCount_95d88 h1 (fun y2_0 h2 => vtX5_resize hk g h2 (fun y3_0 h3 g3 => ih.2.1 _ _ _ g3 h3)))
    · intro t li lj g hR
      have hR : wbX0_fill_1 (wpX0_fill k) k t li lj Q := hR
      show wbX0_fill_1 (wpX0_fill k) k t li lj (fun t => Q t ∧ G t)
      unfold wbX0_fill_1 at hR ⊢
      exact ⟨fun c1 => ⟨(hR.1 c1), g⟩, fun c2 => wcX11_isIn (hR.2 c2) (fun y3_0 h3 => ⟨fun c4 => ih.2.2.2 _ _ _ g (h3.1 c4), fun c5 => ⟨fun c6 => ih.2.2.1 _ _ _ g ((h3.2 c5).1 c6), fun c7 => vtX1_start hk g ((h3.2 c5).2 c7) (fun y8_0 h8 g8 => ⟨h8.1, fun x9 e9 => vtX1_pour hk g8 (h8.2 x9 e9) (fun y10_0 h10 g10 => ih.2.2.1 _ _ _ g10 h10)⟩)⟩⟩)⟩
    · intro t li lj g hR
      have hR : wbX0_fill_2 (wpX0_fill k) k t li lj Q := hR
      show wbX0_fill_2 (wpX0_fill k) k t li lj (fun t => Q t ∧ G t)
      unfold wbX0_fill_2 at hR ⊢
      exact vtX0_fillRow hk g hR (fun y1_0 h1 g1 => fun x2 e2 => ih.2.2.2 _ _ _ g1 (h1 x2 e2))
    · intro t li lj g hR
      have hR : wbX0_fill_3 (wpX0_fill k) k t li lj Q := hR
      show wbX0_fill_3 (wpX0_fill k) k t li lj (fun t => Q t ∧ G t)
      unfold wbX0_fill_3 at hR ⊢
      exact fun x1 e1 => ih.2.1 _ _ _ g (hR x1 e1)
theorem vgX0_fill {G : XT → Prop} {k : Nat} {t : XT} {a1 : Int64} {a2 : Int64} {a3 : Int32} {Q : XT → Prop} (hk : kpA G) (g : G t) (hR : wqX0_fill k t a1 a2 a3 Q) : wqX0_fill k t a1 a2 a3 (fun t => Q t ∧ G t) := (vfX0_fill hk Q k).1 t _ _ g hR
theorem vtX0_fill {G : XT → Prop} {k : Nat} {t : XT} {a1 : Int64} {a2 : Int64} {a3 : Int32} {Q Q' : XT → Prop} (hk : kpA G) (g : G t) (hR : wqX0_fill k t a1 a2 a3 Q) (hQ : (∀ t, Q t → G t → Q' t)) : wqX0_fill k t a1 a2 a3 Q' := wmX0_fill (Nat.le_refl k) (fun t h => hQ t h.1 h.2) (vgX0_fill hk g hR)
set_option maxHeartbeats 4000000 in
set_option maxRecDepth 100000 in
theorem vfX5_firstRow {G : XT → Prop} (hk : kpA G) (Q : Int32 → XT → Prop) : ∀ k : Nat, (∀ (t : XT) (li : Nat → Int32) (lj : Nat → Int64), G t → wpX5_firstRow k 0 t li lj Q → wpX5_firstRow k 0 t li lj (fun r t => Q r t ∧ G t)) ∧ (∀ (t : XT) (li : Nat → Int32) (lj : Nat → Int64), G t → wpX5_firstRow k 1 t li lj Q → wpX5_firstRow k 1 t li lj (fun r t => Q r t ∧ G t)) := by
  intro k
  induction k with
  | zero => exact ⟨fun _ _ _ _ hR => False.elim hR, fun _ _ _ _ hR => False.elim hR⟩
  | succ k ih =>
    refine ⟨?_, ?_⟩
    · intro t li lj g hR
      have hR : wbX5_firstRow_0 (wpX5_firstRow k) k t li lj Q := hR
      show wbX5_firstRow_0 (wpX5_firstRow k) k t li lj (fun r t => Q r t ∧ G t)
      unfold wbX5_firstRow_0 at hR ⊢
      exact ih.2 _ _ _ g hR
    · intro t li lj g hR
      have hR : wbX5_firstRow_1 (wpX5_firstRow k) k t li lj Q := hR
      show wbX5_firstRow_1 (wpX5_firstRow k) k t li lj (fun r t => Q r t ∧ G t)
      unfold wbX5_firstRow_1 at hR ⊢
      exact ⟨fun c1 => ⟨(hR.1 c1), g⟩, fun c2 => fun x3 e3 => fun x4 e4 => ⟨(((hR.2 c2) x3 e3) x4 e4).1, fun x5 e5 => fun x6 e6 => ⟨fun c7 => fun x8 e8 => ih.2 _ _ _ g (((((((hR.2 c2) x3 e3) x4 e4).2 x5 e5) x6 e6).1 c7) x8 e8), fun c9 => ⟨((((((hR.2 c2) x3 e3) x4 e4).2 x5 e5) x6 e6).2 c9), g⟩⟩⟩⟩
theorem vgX5_firstRow {G : XT → Prop} {k : Nat} {t : XT} {a1 : Int32} {a2 : Int32} {Q : Int32 → XT → Prop} (hk : kpA G) (g : G t) (hR : wqX5_firstRow k t a1 a2 Q) : wqX5_firstRow k t a1 a2 (fun r t => Q r t ∧ G t) := (vfX5_firstRow hk Q k).1 t _ _ g hR
theorem vtX5_firstRow {G : XT → Prop} {k : Nat} {t : XT} {a1 : Int32} {a2 : Int32} {Q Q' : Int32 → XT → Prop} (hk : kpA G) (g : G t) (hR : wqX5_firstRow k t a1 a2 Q) (hQ : (∀ r t, Q r t → G t → Q' r t)) : wqX5_firstRow k t a1 a2 Q' := wmX5_firstRow (Nat.le_refl k) (fun r t h => hQ r t h.1 h.2) (vgX5_firstRow hk g hR)
set_option maxHeartbeats 4000000 in
set_option maxRecDepth 100000 in
theorem vfX5_swapRows_c31 {G : XT → Prop} (hk : kpA G) (Q : XT → Prop) : ∀ k : Nat, (∀ (t : XT) (li : Nat → Int32) (lj : Nat → Int64), G t → wpX5_swapRows_c31 k 0 t li lj Q → wpX5_swapRows_c31 k 0 t li lj (fun t => Q t ∧ G t)) ∧ (∀ (t : XT) (li : Nat → Int32) (lj : Nat → Int64), G t → wpX5_swapRows_c31 k 1 t li lj Q → wpX5_swapRows_c31 k 1 t li lj (fun t => Q t ∧ G t)) := by
  intro k
  induction k with
  | zero => exact ⟨fun _ _ _ _ hR => False.elim hR, fun _ _ _ _ hR => False.elim hR⟩
  | succ k ih =>
    refine ⟨?_, ?_⟩
    · intro t li lj g hR
      have hR : wbX5_swapRows_c31_0 (wpX5_swapRows_c31 k) k t li lj Q := hR
      show wbX5_swapRows_c31_0 (wpX5_swapRows_c31 k) k t li lj (fun t => Q t ∧ G t)
      unfold wbX5_swapRows_c31_0 at hR ⊢
      exact ih.2 _ _ _ g hR
    · intro t li lj g hR
      have hR : wbX5_swapRows_c31_1 (wpX5_swapRows_c31 k) k t li lj Q := hR
      show wbX5_swapRows_c31_1 (wpX5_swapRows_c31 k) k t li lj (fun t => Q t ∧ G t)
      unfold wbX5_swapRows_c31_1 at hR ⊢
      exact ⟨fun c1 => ⟨(hR.1 c1), g⟩, fun c2 => ⟨fun c3 => ⟨((hR.2 c2).1 c3), g⟩, fun c4 => fun x5 e5 => fun x6 e6 => ⟨((((hR.2 c2).2 c4) x5 e5) x6 e6).1, fun x7 e7 => fun x8 e8 => fun x9 e9 => fun x10 e10 => fun x11 e11 => ⟨(((((((((hR.2 c2).2 c4) x5 e5) x6 e6).2 x7 e7) x8 e8) x9 e9) x10 e10) x11 e11).1, fun x12 e12 => ⟨((((((((((hR.2 c2).2 c4) x5 e5) x6 e6).2 x7 e7) x8 e8) x9 e9) x10 e10) x11 e11).2 x12 e12).1, fun x13 e13 => have g13 : G x13 := (by rw [e13]; exact hk.2.2.2 _ _ _ g); fun x14 e14 => fun x15 e15 => ⟨(((((((((((((hR.2 c2).2 c4) x5 e5) x6 e6).2 x7 e7) x8 e8) x9 e9) x10 e10) x11 e11).2 x12 e12).2 x13 e13) x14 e14) x15 e15).1, fun x16 e16 => have g16 : G x16 := (by rw [e16]; exact hk.2.2.2 _ _ _ g13); fun x17 e17 => ih.2 _ _ _ g16 (((((((((((((((hR.2 c2).2 c4) x5 e5) x6 e6).2 x7 e7) x8 e8) x9 e9) x10 e10) x11 e11).2 x12 e12).2 x13 e13) x14 e14) x15 e15).2 x16 e16) x17 e17)⟩⟩⟩⟩⟩⟩
theorem vgX5_swapRows_c31 {G : XT → Prop} {k : Nat} {t : XT} {a2 : Int32} {a3 : Int32} {Q : XT → Prop} (hk : kpA G) (g : G t) (hR : wqX5_swapRows_c31 k t a2 a3 Q) : wqX5_swapRows_c31 k t a2 a3 (fun t => Q t ∧ G t) := (vfX5_swapRows_c31 hk Q k).1 t _ _ g hR
theorem vtX5_swapRows_c31 {G : XT → Prop} {k : Nat} {t : XT} {a2 : Int32} {a3 : Int32} {Q Q' : XT → Prop} (hk : kpA G) (g : G t) (hR : wqX5_swapRows_c31 k t a2 a3 Q) (hQ : (∀ t, Q t → G t → Q' t)) : wqX5_swapRows_c31 k t a2 a3 Q' := wmX5_swapRows_c31 (Nat.le_refl k) (fun t h => hQ t h.1 h.2) (vgX5_swapRows_c31 hk g hR)
set_option maxHeartbeats 4000000 in
set_option maxRecDepth 100000 in
theorem vfX5_makePositive {G : XT → Prop} (hk : kpA G) (Q : XT → Prop) : ∀ k : Nat, (∀ (t : XT) (li : Nat → Int32) (lj : Nat → Int64), G t → wpX5_makePositive k 0 t li lj Q → wpX5_makePositive k 0 t li lj (fun t => Q t ∧ G t)) ∧ (∀ (t : XT) (li : Nat → Int32) (lj : Nat → Int64), G t → wpX5_makePositive k 1 t li lj Q → wpX5_makePositive k 1 t li lj (fun t => Q t ∧ G t)) := by
  intro k
  induction k with
  | zero => exact ⟨fun _ _ _ _ hR => False.elim hR, fun _ _ _ _ hR => False.elim hR⟩
  | succ k ih =>
    refine ⟨?_, ?_⟩
    · intro t li lj g hR
      have hR : wbX5_makePositive_0 (wpX5_makePositive k) k t li lj Q := hR
      show wbX5_makePositive_0 (wpX5_makePositive k) k t li lj (fun t => Q t ∧ G t)
      unfold wbX5_makePositive_0 at hR ⊢
      exact fun x1 e1 => fun x2 e2 => ⟨((hR x1 e1) x2 e2).1, fun x3 e3 => fun x4 e4 => ⟨fun c5 => ih.2 _ _ _ g (((((hR x1 e1) x2 e2).2 x3 e3) x4 e4).1 c5), fun c6 => ⟨(((((hR x1 e1) x2 e2).2 x3 e3) x4 e4).2 c6), g⟩⟩⟩
    · intro t li lj g hR
      have hR : wbX5_makePositive_1 (wpX5_makePositive k) k t li lj Q := hR
      show wbX5_makePositive_1 (wpX5_makePositive k) k t li lj (fun t => Q t ∧ G t)
      unfold wbX5_makePositive_1 at hR ⊢
      exact ⟨fun c1 => ⟨(hR.1 c1), g⟩, fun c2 => fun x3 e3 => fun x4 e4 => fun x5 e5 => fun x6 e6 => ⟨(((((hR.2 c2) x3 e3) x4 e4) x5 e5) x6 e6).1, fun x7 e7 => fun x8 e8 => ⟨(((((((hR.2 c2) x3 e3) x4 e4) x5 e5) x6 e6).2 x7 e7) x8 e8).1, fun x9 e9 => have g9 : G x9 := (by rw [e9]; exact hk.2.2.2 _ _ _ g); fun x10 e10 => ih.2 _ _ _ g9 (((((((((hR.2 c2) x3 e3) x4 e4) x5 e5) x6 e6).2 x7 e7) x8 e8).2 x9 e9) x10 e10)⟩⟩⟩
theorem vgX5_makePositive {G : XT → Prop} {k : Nat} {t : XT} {a1 : Int32} {a2 : Int32} {Q : XT → Prop} (hk : kpA G) (g : G t) (hR : wqX5_makePositive k t a1 a2 Q) : wqX5_makePositive k t a1 a2 (fun t => Q t ∧ G t) := (vfX5_makePositive hk Q k).1 t _ _ g hR
theorem vtX5_makePositive {G : XT → Prop} {k : Nat} {t : XT} {a1 : Int32} {a2 : Int32} {Q Q' : XT → Prop} (hk : kpA G) (g : G t) (hR : wqX5_makePositive k t a1 a2 Q) (hQ : (∀ t, Q t → G t → Q' t)) : wqX5_makePositive k t a1 a2 Q' := wmX5_makePositive (Nat.le_refl k) (fun t h => hQ t h.1 h.2) (vgX5_makePositive hk g hR)
set_option maxHeartbeats 4000000 in
set_option maxRecDepth 100000 in
theorem vfX5_clearBelow {G : XT → Prop} (hk : kpA G) (Q : XT → Prop) : ∀ k : Nat, (∀ (t : XT) (li : Nat → Int32) (lj : Nat → Int64), G t → wpX5_clearBelow k 0 t li lj Q → wpX5_clearBelow k 0 t li lj (fun t => Q t ∧ G t)) ∧ (∀ (t : XT) (li : Nat → Int32) (lj : Nat → Int64), G t → wpX5_clearBelow k 1 t li lj Q → wpX5_clearBelow k 1 t li lj (fun t => Q t ∧ G t)) ∧ (∀ (t : XT) (li : Nat → Int32) (lj : Nat → Int64), G t → wpX5_clearBelow k 2 t li lj Q → wpX5_clearBelow k 2 t li lj (fun t => Q t ∧ G t)) ∧ (∀ (t : XT) (li : Nat → Int32) (lj : Nat → Int64), G t → wpX5_clearBelow k 3 t li lj Q → wpX5_clearBelow k 3 t li lj (fun t => Q t ∧ G t)) ∧ (∀ (t : XT) (li : Nat → Int32) (lj : Nat → Int64), G t → wpX5_clearBelow k 4 t li lj Q → wpX5_clearBelow k 4 t li lj (fun t => Q t ∧ G t)) ∧ (∀ (t : XT) (li : Nat → Int32) (lj : Nat → Int64), G t → wpX5_clearBelow k 5 t li lj Q → wpX5_clearBelow k 5 t li lj (fun t => Q t ∧ G t)) := by
  intro k
  induction k with
  | zero => exact ⟨fun _ _ _ _ hR => False.elim hR, fun _ _ _ _ hR => False.elim hR, fun _ _ _ _ hR => False.elim hR, fun _ _ _ _ hR => False.elim hR, fun _ _ _ _ hR => False.elim hR, fun _ _ _ _ hR => False.elim hR⟩
  | succ k ih =>
    refine ⟨?_, ?_, ?_, ?_, ?_, ?_⟩
    · intro t li lj g hR
      have hR : wbX5_clearBelow_0 (wpX5_clearBelow k) k t li lj Q := hR
      show wbX5_clearBelow_0 (wpX5_clearBelow k) k t li lj (fun t => Q t ∧ G t)
      unfold wbX5_clearBelow_0 at hR ⊢
      exact fun x1 e1 => fun x2 e2 => ⟨((hR x1 e1) x2 e2).1, fun x3 e3 => fun x4 e4 => ⟨fun c5 => fun x6 e6 => ih.2.1 _ _ _ g ((((((hR x1 e1) x2 e2).2 x3 e3) x4 e4).1 c5) x6 e6), fun c7 => ⟨(((((hR x1 e1) x2 e2).2 x3 e3) x4 e4).2 c7), g⟩⟩⟩
    · intro t li lj g hR
      have hR : wbX5_clearBelow_1 (wpX5_clearBelow k) k t li lj Q := hR
      show wbX5_clearBelow_1 (wpX5_clearBelow k) k t li lj (fun t => Q t ∧ G t)
      unfold wbX5_clearBelow_1 at hR ⊢
      exact ⟨fun c1 => ⟨(hR.1 c1), g⟩, fun c2 => fun x3 e3 => fun x4 e4 => ⟨(((hR.2 c2) x3 e3) x4 e4).1, fun x5 e5 => fun x6 e6 => ⟨fun c7 => ih.2.2.1 _ _ _ g ((((((hR.2 c2) x3 e3) x4 e4).2 x5 e5) x6 e6).1 c7), fun c8 => fun x9 e9 => ⟨fun c10 => ih.2.2.2.1 _ _ _ g ((((((((hR.2 c2) x3 e3) x4 e4).2 x5 e5) x6 e6).2 c8) x9 e9).1 c10), fun c11 => ih.2.2.1 _ _ _ g ((((((((hR.2 c2) x3 e3) x4 e4).2 x5 e5) x6 e6).2 c8) x9 e9).2 c11)⟩⟩⟩⟩
    · intro t li lj g hR
      have hR : wbX5_clearBelow_2 (wpX5_clearBelow k) k t li lj Q := hR
      show wbX5_clearBelow_2 (wpX5_clearBelow k) k t li lj (fun t => Q t ∧ G t)
      unfold wbX5_clearBelow_2 at hR ⊢
      exact ih.2.2.2.1 _ _ _ g hR
    · intro t li lj g hR
      have hR : wbX5_clearBelow_3 (wpX5_clearBelow k) k t li lj Q := hR
      show wbX5_clearBelow_3 (wpX5_clearBelow k) k t li lj (fun t => Q t ∧ G t)
      unfold wbX5_clearBelow_3 at hR ⊢
      exact ih.2.2.2.2.1 _ _ _ g hR
    · intro t li lj g hR
      have hR : wbX5_clearBelow_4 (wpX5_clearBelow k) k t li lj Q := hR
      show wbX5_clearBelow_4 (wpX5_clearBelow k) k t li lj (fun t => Q t ∧ G t)
      unfold wbX5_clearBelow_4 at hR ⊢
      exact ⟨fun c1 => ih.2.2.2.2.2 _ _ _ g (hR.1 c1), fun c2 => ⟨fun c3 => ih.2.2.2.2.2 _ _ _ g ((hR.2 c2).1 c3), fun c4 => fun x5 e5 => fun x6 e6 => ⟨((((hR.2 c2).2 c4) x5 e5) x6 e6).1, fun x7 e7 => fun x8 e8 => fun x9 e9 => fun x10 e10 => ⟨((((((((hR.2 c2).2 c4) x5 e5) x6 e6).2 x7 e7) x8 e8) x9 e9) x10 e10).1, fun x11 e11 => fun x12 e12 => fun x13 e13 => ⟨(((((((((((hR.2 c2).2 c4) x5 e5) x6 e6).2 x7 e7) x8 e8) x9 e9) x10 e10).2 x11 e11) x12 e12) x13 e13).1, fun x14 e14 => ⟨((((((((((((hR.2 c2).2 c4) x5 e5) x6 e6).2 x7 e7) x8 e8) x9 e9) x10 e10).2 x11 e11) x12 e12) x13 e13).2 x14 e14).1, fun x15 e15 => have g15 : G x15 := (by rw [e15]; exact hk.2.2.2 _ _ _ g); fun x16 e16 => ih.2.2.2.2.1 _ _ _ g15 ((((((((((((((hR.2 c2).2 c4) x5 e5) x6 e6).2 x7 e7) x8 e8) x9 e9) x10 e10).2 x11 e11) x12 e12) x13 e13).2 x14 e14).2 x15 e15) x16 e16)⟩⟩⟩⟩⟩⟩
    · intro t li lj g hR
      have hR : wbX5_clearBelow_5 (wpX5_clearBelow k) k t li lj Q := hR
      show wbX5_clearBelow_5 (wpX5_clearBelow k) k t li lj (fun t => Q t ∧ G t)
      unfold wbX5_clearBelow_5 at hR ⊢
      exact fun x1 e1 => ih.2.1 _ _ _ g (hR x1 e1)
theorem vgX5_clearBelow {G : XT → Prop} {k : Nat} {t : XT} {a1 : Int32} {a2 : Int32} {a3 : Int64} {Q : XT → Prop} (hk : kpA G) (g : G t) (hR : wqX5_clearBelow k t a1 a2 a3 Q) : wqX5_clearBelow k t a1 a2 a3 (fun t => Q t ∧ G t) := (vfX5_clearBelow hk Q k).1 t _ _ g hR
theorem vtX5_clearBelow {G : XT → Prop} {k : Nat} {t : XT} {a1 : Int32} {a2 : Int32} {a3 : Int64} {Q Q' : XT → Prop} (hk : kpA G) (g : G t) (hR : wqX5_clearBelow k t a1 a2 a3 Q) (hQ : (∀ t, Q t → G t → Q' t)) : wqX5_clearBelow k t a1 a2 a3 Q' := wmX5_clearBelow (Nat.le_refl k) (fun t h => hQ t h.1 h.2) (vgX5_clearBelow hk g hR)
set_option maxHeartbeats 4000000 in
set_option maxRecDepth 100000 in
theorem vfX5_eliminate {G : XT → Prop} (hk : kpA G) (Q : Int32 → XT → Prop) : ∀ k : Nat, (∀ (t : XT) (li : Nat → Int32) (lj : Nat → Int64), G t → wpX5_eliminate k 0 t li lj Q → wpX5_eliminate k 0 t li lj (fun r t => Q r t ∧ G t)) ∧ (∀ (t : XT) (li : Nat → Int32) (lj : Nat → Int64), G t → wpX5_eliminate k 1 t li lj Q → wpX5_eliminate k 1 t li lj (fun r t => Q r t ∧ G t)) ∧ (∀ (t : XT) (li : Nat → Int32) (lj : Nat → Int64), G t → wpX5_eliminate k 2 t li lj Q → wpX5_eliminate k 2 t li lj (fun r t => Q r t ∧ G t)) ∧ (∀ (t : XT) (li : Nat → Int32) (lj : Nat → Int64), G t → wpX5_eliminate k 3 t li lj Q → wpX5_eliminate k 3 t li lj (fun r t => Q r t ∧ G t)) := by
  intro k
  induction k with
  | zero => exact ⟨fun _ _ _ _ hR => False.elim hR, fun _ _ _ _ hR => False.elim hR, fun _ _ _ _ hR => False.elim hR, fun _ _ _ _ hR => False.elim hR⟩
  | succ k ih =>
    refine ⟨?_, ?_, ?_, ?_⟩
    · intro t li lj g hR
      have hR : wbX5_eliminate_0 (wpX5_eliminate k) k t li lj Q := hR
      show wbX5_eliminate_0 (wpX5_eliminate k) k t li lj (fun r t => Q r t ∧ G t)
      unfold wbX5_eliminate_0 at hR ⊢
      exact fun x1 e1 => ⟨(hR x1 e1).1, (hR x1 e1).2.1, (hR x1 e1).2.2.1, (hR x1 e1).2.2.2.1, (hR x1 e1).2.2.2.2.1, fun x2 e2 => have g2 : G x2 := (by rw [e2]; exact hk.2.2.2 _ _ _ g); ih.2.1 _ _ _ g2 ((hR x1 e1).2.2.2.2.2 x2 e2)⟩
    · intro t li lj g hR
      have hR : wbX5_eliminate_1 (wpX5_eliminate k) k t li lj Q := hR
      show wbX5_eliminate_1 (wpX5_eliminate k) k t li lj (fun r t => Q r t ∧ G t)
      unfold wbX5_eliminate_1 at hR ⊢
      exact ⟨fun c1 => ih.2.2.2 _ _ _ g (hR.1 c1), fun c2 => ⟨fun c3 => ih.2.2.2 _ _ _ g ((hR.2 c2).1 c3), fun c4 => vtX5_firstRow hk g ((hR.2 c2).2 c4) (fun y5_0 y5_1 h5 g5 => ⟨fun c6 => ih.2.2.1 _ _ _ g5 (h5.1 c6), fun c7 => vtX5_swapRows_c31 hk g5 (h5.2 c7) (fun y8_0 h8 g8 => vtX5_makePositive hk g8 h8 (fun y9_0 h9 g9 => vtX5_clearBelow hk g9 h9 (fun y10_0 h10 g10 => fun x11 e11 => fun x12 e12 => ⟨((h10 x11 e11) x12 e12).1, fun x13 e13 => fun x14 e14 => ih.2.2.1 _ _ _ g10 ((((h10 x11 e11) x12 e12).2 x13 e13) x14 e14)⟩)))⟩)⟩⟩
    · intro t li lj g hR
      have hR : wbX5_eliminate_2 (wpX5_eliminate k) k t li lj Q := hR
      show wbX5_eliminate_2 (wpX5_eliminate k) k t li lj (fun r t => Q r t ∧ G t)
      unfold wbX5_eliminate_2 at hR ⊢
      exact fun x1 e1 => ih.2.1 _ _ _ g (hR x1 e1)
    · intro t li lj g hR
      have hR : wbX5_eliminate_3 (wpX5_eliminate k) k t li lj Q := hR
      show wbX5_eliminate_3 (wpX5_eliminate k) k t li lj (fun r t => Q r t ∧ G t)
      unfold wbX5_eliminate_3 at hR ⊢
      exact fun x1 e1 => have g1 : G x1 := (by rw [e1]; exact hk.2.1 _ _ _ g); ⟨(hR x1 e1), g1⟩
theorem vgX5_eliminate {G : XT → Prop} {k : Nat} {t : XT}  {Q : Int32 → XT → Prop} (hk : kpA G) (g : G t) (hR : wqX5_eliminate k t  Q) : wqX5_eliminate k t  (fun r t => Q r t ∧ G t) := (vfX5_eliminate hk Q k).1 t _ _ g hR
theorem vtX5_eliminate {G : XT → Prop} {k : Nat} {t : XT}  {Q Q' : Int32 → XT → Prop} (hk : kpA G) (g : G t) (hR : wqX5_eliminate k t  Q) (hQ : (∀ r t, Q r t → G t → Q' r t)) : wqX5_eliminate k t  Q' := wmX5_eliminate (Nat.le_refl k) (fun r t h => hQ r t h.1 h.2) (vgX5_eliminate hk g hR)
set_option maxHeartbeats 4000000 in
set_option maxRecDepth 100000 in
theorem vfX0_rankOf {G : XT → Prop} (hk : kpA G) (Q : Int32 → XT → Prop) : ∀ k : Nat, (∀ (t : XT) (li : Nat → Int32) (lj : Nat → Int64), G t → wpX0_rankOf k 0 t li lj Q → wpX0_rankOf k 0 t li lj (fun r t => Q r t ∧ G t)) ∧ (∀ (t : XT) (li : Nat → Int32) (lj : Nat → Int64), G t → wpX0_rankOf k 1 t li lj Q → wpX0_rankOf k 1 t li lj (fun r t => Q r t ∧ G t)) := by
  intro k
  induction k with
  | zero => exact ⟨fun _ _ _ _ hR => False.elim hR, fun _ _ _ _ hR => False.elim hR⟩
  | succ k ih =>
    refine ⟨?_, ?_⟩
    · intro t li lj g hR
      have hR : wbX0_rankOf_0 (wpX0_rankOf k) k t li lj Q := hR
      show wbX0_rankOf_0 (wpX0_rankOf k) k t li lj (fun r t => Q r t ∧ G t)
      unfold wbX0_rankOf_0 at hR ⊢
      exact ⟨fun c1 => ih.2 _ _ _ g (hR.1 c1), fun c2 => ⟨fun c3 => ⟨((hR.2 c2).1 c3).1, fun x4 e4 => fun x5 e5 => fun x6 e6 => ⟨(((((hR.2 c2).1 c3).2 x4 e4) x5 e5) x6 e6).1, fun x7 e7 => fun x8 e8 => vtX0_fill hk g (((((((hR.2 c2).1 c3).2 x4 e4) x5 e5) x6 e6).2 x7 e7) x8 e8) (fun y9_0 h9 g9 => vtX5_eliminate hk g9 h9 (fun y10_0 y10_1 h10 g10 => ⟨h10, g10⟩))⟩⟩, fun c11 => ih.2 _ _ _ g ((hR.2 c2).2 c11)⟩⟩
    · intro t li lj g hR
      have hR : wbX0_rankOf_1 (wpX0_rankOf k) k t li lj Q := hR
      show wbX0_rankOf_1 (wpX0_rankOf k) k t li lj (fun r t => Q r t ∧ G t)
      unfold wbX0_rankOf_1 at hR ⊢
      exact ⟨hR, g⟩
theorem vgX0_rankOf {G : XT → Prop} {k : Nat} {t : XT} {a1 : Int64} {a2 : Int32} {a3 : Int32} {Q : Int32 → XT → Prop} (hk : kpA G) (g : G t) (hR : wqX0_rankOf k t a1 a2 a3 Q) : wqX0_rankOf k t a1 a2 a3 (fun r t => Q r t ∧ G t) := (vfX0_rankOf hk Q k).1 t _ _ g hR
theorem vtX0_rankOf {G : XT → Prop} {k : Nat} {t : XT} {a1 : Int64} {a2 : Int32} {a3 : Int32} {Q Q' : Int32 → XT → Prop} (hk : kpA G) (g : G t) (hR : wqX0_rankOf k t a1 a2 a3 Q) (hQ : (∀ r t, Q r t → G t → Q' r t)) : wqX0_rankOf k t a1 a2 a3 Q' := wmX0_rankOf (Nat.le_refl k) (fun r t h => hQ r t h.1 h.2) (vgX0_rankOf hk g hR)
set_option maxHeartbeats 4000000 in
set_option maxRecDepth 100000 in
theorem vfX0_bettiOf {G : XT → Prop} (hk : kpA G) (Q : Int32 → XT → Prop) : ∀ k : Nat, (∀ (t : XT) (li : Nat → Int32) (lj : Nat → Int64), G t → wpX0_bettiOf k 0 t li lj Q → wpX0_bettiOf k 0 t li lj (fun r t => Q r t ∧ G t)) := by
  intro k
  induction k with
  | zero => exact fun _ _ _ _ hR => False.elim hR
  | succ k ih =>
    intro t li lj g hR
    have hR : wbX0_bettiOf_0 (wpX0_bettiOf k) k t li lj Q := hR
    show wbX0_bettiOf_0 (wpX0_bettiOf k) k t li lj (fun r t => Q r t ∧ G t)
    unfold wbX0_bettiOf_0 at hR ⊢
    exact ⟨hR.1, fun x1 e1 => fun x2 e2 => wcJ13_bitCount_95d88 ((hR.2 x1 e1) x2 e2) (fun y3_0 h3 => vtX0_rankOf hk g h3 (fun y4_0 y4_1 h4 g4 => fun x5 e5 => fun x6 e6 => vtX0_rankOf hk g4 ((h4 x5 e5) x6 e6) (fun y7_0 y7_1 h7 g7 => fun x8 e8 => ⟨(h7 x8 e8), g7⟩)))⟩
theorem vgX0_bettiOf {G : XT → Prop} {k : Nat} {t : XT} {a1 : Int64} {a2 : Int32} {a3 : Int32} {Q : Int32 → XT → Prop} (hk : kpA G) (g : G t) (hR : wqX0_bettiOf k t a1 a2 a3 Q) : wqX0_bettiOf k t a1 a2 a3 (fun r t => Q r t ∧ G t) := (vfX0_bettiOf hk Q k) t _ _ g hR
theorem vtX0_bettiOf {G : XT → Prop} {k : Nat} {t : XT} {a1 : Int64} {a2 : Int32} {a3 : Int32} {Q Q' : Int32 → XT → Prop} (hk : kpA G) (g : G t) (hR : wqX0_bettiOf k t a1 a2 a3 Q) (hQ : (∀ r t, Q r t → G t → Q' r t)) : wqX0_bettiOf k t a1 a2 a3 Q' := wmX0_bettiOf (Nat.le_refl k) (fun r t h => hQ r t h.1 h.2) (vgX0_bettiOf hk g hR)
set_option maxHeartbeats 4000000 in
set_option maxRecDepth 100000 in
theorem vfX11_betti {G : XT → Prop} (hk : kpA G) (Q : Int32 → XT → Prop) : ∀ k : Nat, (∀ (t : XT) (li : Nat → Int32) (lj : Nat → Int64), G t → wpX11_betti k 0 t li lj Q → wpX11_betti k 0 t li lj (fun r t => Q r t ∧ G t)) ∧ (∀ (t : XT) (li : Nat → Int32) (lj : Nat → Int64), G t → wpX11_betti k 1 t li lj Q → wpX11_betti k 1 t li lj (fun r t => Q r t ∧ G t)) ∧ (∀ (t : XT) (li : Nat → Int32) (lj : Nat → Int64), G t → wpX11_betti k 2 t li lj Q → wpX11_betti k 2 t li lj (fun r t => Q r t ∧ G t)) := by
  intro k
  induction k with
  | zero => exact ⟨fun _ _ _ _ hR => False.elim hR, fun _ _ _ _ hR => False.elim hR, fun _ _ _ _ hR => False.elim hR⟩
  | succ k ih =>
    refine ⟨?_, ?_, ?_⟩
    · intro t li lj g hR
      have hR : wbX11_betti_0 (wpX11_betti k) k t li lj Q := hR
      show wbX11_betti_0 (wpX11_betti k) k t li lj (fun r t => Q r t ∧ G t)
      unfold wbX11_betti_0 at hR ⊢
      exact wcX11_isDim hR (fun y1_0 h1 => ⟨fun c2 => ih.2.1 _ _ _ g (h1.1 c2), fun c3 => ⟨fun c4 => ih.2.1 _ _ _ g ((h1.2 c3).1 c4), fun c5 => ⟨fun c6 => vtX11_basis hk g (((h1.2 c3).2 c5).1 c6) (fun y7_0 y7_1 h7 g7 => ⟨fun c8 => ih.2.2 _ _ _ g7 (h7.1 c8), fun c9 => ih.2.2 _ _ _ g7 (h7.2 c9)⟩), fun c10 => ih.2.1 _ _ _ g (((h1.2 c3).2 c5).2 c10)⟩⟩⟩)
    · intro t li lj g hR
      have hR : wbX11_betti_1 (wpX11_betti k) k t li lj Q := hR
      show wbX11_betti_1 (wpX11_betti k) k t li lj (fun r t => Q r t ∧ G t)
      unfold wbX11_betti_1 at hR ⊢
      exact ⟨hR, g⟩
    · intro t li lj g hR
      have hR : wbX11_betti_2 (wpX11_betti k) k t li lj Q := hR
      show wbX11_betti_2 (wpX11_betti k) k t li lj (fun r t => Q r t ∧ G t)
      unfold wbX11_betti_2 at hR ⊢
      exact vtX0_bettiOf hk g hR (fun y1_0 y1_1 h1 g1 => ⟨h1, g1⟩)
theorem vgX11_betti {G : XT → Prop} {k : Nat} {t : XT} {a1 : Int32} {a2 : Int32} {Q : Int32 → XT → Prop} (hk : kpA G) (g : G t) (hR : wqX11_betti k t a1 a2 Q) : wqX11_betti k t a1 a2 (fun r t => Q r t ∧ G t) := (vfX11_betti hk Q k).1 t _ _ g hR
theorem vtX11_betti {G : XT → Prop} {k : Nat} {t : XT} {a1 : Int32} {a2 : Int32} {Q Q' : Int32 → XT → Prop} (hk : kpA G) (g : G t) (hR : wqX11_betti k t a1 a2 Q) (hQ : (∀ r t, Q r t → G t → Q' r t)) : wqX11_betti k t a1 a2 Q' := wmX11_betti (Nat.le_refl k) (fun r t h => hQ r t h.1 h.2) (vgX11_betti hk g hR)
set_option maxHeartbeats 4000000 in
set_option maxRecDepth 100000 in
theorem vfX5_remainder {G : XT → Prop} (hk : kpA G) (Q : Int64 → XT → Prop) : ∀ k : Nat, (∀ (t : XT) (li : Nat → Int32) (lj : Nat → Int64), G t → wpX5_remainder k 0 t li lj Q → wpX5_remainder k 0 t li lj (fun r t => Q r t ∧ G t)) := by
  intro k
  induction k with
  | zero => exact fun _ _ _ _ hR => False.elim hR
  | succ k ih =>
    intro t li lj g hR
    have hR : wbX5_remainder_0 (wpX5_remainder k) k t li lj Q := hR
    show wbX5_remainder_0 (wpX5_remainder k) k t li lj (fun r t => Q r t ∧ G t)
    unfold wbX5_remainder_0 at hR ⊢
    exact fun x1 e1 => ⟨fun c2 => wcJ9_floorMod_f86c9 ((hR x1 e1).1 c2) (fun y3_0 h3 => fun x4 e4 => fun x5 e5 => ⟨fun c6 => ⟨(((h3 x4 e4) x5 e5).1 c6), g⟩, fun c7 => fun x8 e8 => ⟨((((h3 x4 e4) x5 e5).2 c7) x8 e8), g⟩⟩), fun c9 => ⟨((hR x1 e1).2 c9), g⟩⟩
theorem vgX5_remainder {G : XT → Prop} {k : Nat} {t : XT} {a1 : Int64} {Q : Int64 → XT → Prop} (hk : kpA G) (g : G t) (hR : wqX5_remainder k t a1 Q) : wqX5_remainder k t a1 (fun r t => Q r t ∧ G t) := (vfX5_remainder hk Q k) t _ _ g hR
theorem vtX5_remainder {G : XT → Prop} {k : Nat} {t : XT} {a1 : Int64} {Q Q' : Int64 → XT → Prop} (hk : kpA G) (g : G t) (hR : wqX5_remainder k t a1 Q) (hQ : (∀ r t, Q r t → G t → Q' r t)) : wqX5_remainder k t a1 Q' := wmX5_remainder (Nat.le_refl k) (fun r t h => hQ r t h.1 h.2) (vgX5_remainder hk g hR)
set_option maxHeartbeats 4000000 in
set_option maxRecDepth 100000 in
theorem vfX5_leastCell {G : XT → Prop} (hk : kpA G) (Q : Int32 → XT → Prop) : ∀ k : Nat, (∀ (t : XT) (li : Nat → Int32) (lj : Nat → Int64), G t → wpX5_leastCell k 0 t li lj Q → wpX5_leastCell k 0 t li lj (fun r t => Q r t ∧ G t)) ∧ (∀ (t : XT) (li : Nat → Int32) (lj : Nat → Int64), G t → wpX5_leastCell k 1 t li lj Q → wpX5_leastCell k 1 t li lj (fun r t => Q r t ∧ G t)) ∧ (∀ (t : XT) (li : Nat → Int32) (lj : Nat → Int64), G t → wpX5_leastCell k 2 t li lj Q → wpX5_leastCell k 2 t li lj (fun r t => Q r t ∧ G t)) ∧ (∀ (t : XT) (li : Nat → Int32) (lj : Nat → Int64), G t → wpX5_leastCell k 3 t li lj Q → wpX5_leastCell k 3 t li lj (fun r t => Q r t ∧ G t)) ∧ (∀ (t : XT) (li : Nat → Int32) (lj : Nat → Int64), G t → wpX5_leastCell k 4 t li lj Q → wpX5_leastCell k 4 t li lj (fun r t => Q r t ∧ G t)) ∧ (∀ (t : XT) (li : Nat → Int32) (lj : Nat → Int64), G t → wpX5_leastCell k 5 t li lj Q → wpX5_leastCell k 5 t li lj (fun r t => Q r t ∧ G t)) := by
  intro k
  induction k with
  | zero => exact ⟨fun _ _ _ _ hR => False.elim hR, fun _ _ _ _ hR => False.elim hR, fun _ _ _ _ hR => False.elim hR, fun _ _ _ _ hR => False.elim hR, fun _ _ _ _ hR => False.elim hR, fun _ _ _ _ hR => False.elim hR⟩
  | succ k ih =>
    refine ⟨?_, ?_, ?_, ?_, ?_, ?_⟩
    · intro t li lj g hR
      have hR : wbX5_leastCell_0 (wpX5_leastCell k) k t li lj Q := hR
      show wbX5_leastCell_0 (wpX5_leastCell k) k t li lj (fun r t => Q r t ∧ G t)
      unfold wbX5_leastCell_0 at hR ⊢
      exact ih.2.1 _ _ _ g hR
    · intro t li lj g hR
      have hR : wbX5_leastCell_1 (wpX5_leastCell k) k t li lj Q := hR
      show wbX5_leastCell_1 (wpX5_leastCell k) k t li lj (fun r t => Q r t ∧ G t)
      unfold wbX5_leastCell_1 at hR ⊢
      exact ⟨fun c1 => ⟨(hR.1 c1), g⟩, fun c2 => ih.2.2.1 _ _ _ g (hR.2 c2)⟩
    · intro t li lj g hR
      have hR : wbX5_leastCell_2 (wpX5_leastCell k) k t li lj Q := hR
      show wbX5_leastCell_2 (wpX5_leastCell k) k t li lj (fun r t => Q r t ∧ G t)
      unfold wbX5_leastCell_2 at hR ⊢
      exact ⟨fun c1 => fun x2 e2 => ih.2.1 _ _ _ g ((hR.1 c1) x2 e2), fun c3 => fun x4 e4 => fun x5 e5 => ⟨fun c6 => ih.2.2.2.1 _ _ _ g ((((hR.2 c3) x4 e4) x5 e5).1 c6), fun c7 => ⟨((((hR.2 c3) x4 e4) x5 e5).2 c7).1, fun x8 e8 => fun x9 e9 => ⟨((((((hR.2 c3) x4 e4) x5 e5).2 c7).2 x8 e8) x9 e9).1, fun x10 e10 => fun x11 e11 => fun x12 e12 => ⟨fun c13 => ih.2.2.2.2.1 _ _ _ g ((((((((((hR.2 c3) x4 e4) x5 e5).2 c7).2 x8 e8) x9 e9).2 x10 e10) x11 e11) x12 e12).1 c13), fun c14 => ih.2.2.2.1 _ _ _ g ((((((((((hR.2 c3) x4 e4) x5 e5).2 c7).2 x8 e8) x9 e9).2 x10 e10) x11 e11) x12 e12).2 c14)⟩⟩⟩⟩⟩
    · intro t li lj g hR
      have hR : wbX5_leastCell_3 (wpX5_leastCell k) k t li lj Q := hR
      show wbX5_leastCell_3 (wpX5_leastCell k) k t li lj (fun r t => Q r t ∧ G t)
      unfold wbX5_leastCell_3 at hR ⊢
      exact ih.2.2.2.2.1 _ _ _ g hR
    · intro t li lj g hR
      have hR : wbX5_leastCell_4 (wpX5_leastCell k) k t li lj Q := hR
      show wbX5_leastCell_4 (wpX5_leastCell k) k t li lj (fun r t => Q r t ∧ G t)
      unfold wbX5_leastCell_4 at hR ⊢
      exact ⟨hR.1, fun x1 e1 => fun x2 e2 => ⟨fun c3 => ih.2.2.2.2.2 _ _ _ g (((hR.2 x1 e1) x2 e2).1 c3), fun c4 => ⟨fun c5 => ih.2.2.2.2.2 _ _ _ g ((((hR.2 x1 e1) x2 e2).2 c4).1 c5), fun c6 => ih.2.2.2.2.2 _ _ _ g ((((hR.2 x1 e1) x2 e2).2 c4).2 c6)⟩⟩⟩
    · intro t li lj g hR
      have hR : wbX5_leastCell_5 (wpX5_leastCell k) k t li lj Q := hR
      show wbX5_leastCell_5 (wpX5_leastCell k) k t li lj (fun r t => Q r t ∧ G t)
      unfold wbX5_leastCell_5 at hR ⊢
      exact fun x1 e1 => ih.2.2.1 _ _ _ g (hR x1 e1)
theorem vgX5_leastCell {G : XT → Prop} {k : Nat} {t : XT} {a1 : Int32} {Q : Int32 → XT → Prop} (hk : kpA G) (g : G t) (hR : wqX5_leastCell k t a1 Q) : wqX5_leastCell k t a1 (fun r t => Q r t ∧ G t) := (vfX5_leastCell hk Q k).1 t _ _ g hR
theorem vtX5_leastCell {G : XT → Prop} {k : Nat} {t : XT} {a1 : Int32} {Q Q' : Int32 → XT → Prop} (hk : kpA G) (g : G t) (hR : wqX5_leastCell k t a1 Q) (hQ : (∀ r t, Q r t → G t → Q' r t)) : wqX5_leastCell k t a1 Q' := wmX5_leastCell (Nat.le_refl k) (fun r t h => hQ r t h.1 h.2) (vgX5_leastCell hk g hR)
set_option maxHeartbeats 4000000 in
set_option maxRecDepth 100000 in
theorem vfX5_swapRows_c30 {G : XT → Prop} (hk : kpA G) (Q : XT → Prop) : ∀ k : Nat, (∀ (t : XT) (li : Nat → Int32) (lj : Nat → Int64), G t → wpX5_swapRows_c30 k 0 t li lj Q → wpX5_swapRows_c30 k 0 t li lj (fun t => Q t ∧ G t)) ∧ (∀ (t : XT) (li : Nat → Int32) (lj : Nat → Int64), G t → wpX5_swapRows_c30 k 1 t li lj Q → wpX5_swapRows_c30 k 1 t li lj (fun t => Q t ∧ G t)) := by
  intro k
  induction k with
  | zero => exact ⟨fun _ _ _ _ hR => False.elim hR, fun _ _ _ _ hR => False.elim hR⟩
  | succ k ih =>
    refine ⟨?_, ?_⟩
    · intro t li lj g hR
      have hR : wbX5_swapRows_c30_0 (wpX5_swapRows_c30 k) k t li lj Q := hR
      show wbX5_swapRows_c30_0 (wpX5_swapRows_c30 k) k t li lj (fun t => Q t ∧ G t)
      unfold wbX5_swapRows_c30_0 at hR ⊢
      exact ih.2 _ _ _ g hR
    · intro t li lj g hR
      have hR : wbX5_swapRows_c30_1 (wpX5_swapRows_c30 k) k t li lj Q := hR
      show wbX5_swapRows_c30_1 (wpX5_swapRows_c30 k) k t li lj (fun t => Q t ∧ G t)
      unfold wbX5_swapRows_c30_1 at hR ⊢
      exact ⟨fun c1 => ⟨(hR.1 c1), g⟩, fun c2 => ⟨fun c3 => ⟨((hR.2 c2).1 c3), g⟩, fun c4 => fun x5 e5 => fun x6 e6 => ⟨((((hR.2 c2).2 c4) x5 e5) x6 e6).1, fun x7 e7 => fun x8 e8 => fun x9 e9 => fun x10 e10 => fun x11 e11 => ⟨(((((((((hR.2 c2).2 c4) x5 e5) x6 e6).2 x7 e7) x8 e8) x9 e9) x10 e10) x11 e11).1, fun x12 e12 => ⟨((((((((((hR.2 c2).2 c4) x5 e5) x6 e6).2 x7 e7) x8 e8) x9 e9) x10 e10) x11 e11).2 x12 e12).1, fun x13 e13 => have g13 : G x13 := (by rw [e13]; exact hk.2.2.2 _ _ _ g); fun x14 e14 => fun x15 e15 => ⟨(((((((((((((hR.2 c2).2 c4) x5 e5) x6 e6).2 x7 e7) x8 e8) x9 e9) x10 e10) x11 e11).2 x12 e12).2 x13 e13) x14 e14) x15 e15).1, fun x16 e16 => have g16 : G x16 := (by rw [e16]; exact hk.2.2.2 _ _ _ g13); fun x17 e17 => ih.2 _ _ _ g16 (((((((((((((((hR.2 c2).2 c4) x5 e5) x6 e6).2 x7 e7) x8 e8) x9 e9) x10 e10) x11 e11).2 x12 e12).2 x13 e13) x14 e14) x15 e15).2 x16 e16) x17 e17)⟩⟩⟩⟩⟩⟩
theorem vgX5_swapRows_c30 {G : XT → Prop} {k : Nat} {t : XT} {a2 : Int32} {a3 : Int32} {Q : XT → Prop} (hk : kpA G) (g : G t) (hR : wqX5_swapRows_c30 k t a2 a3 Q) : wqX5_swapRows_c30 k t a2 a3 (fun t => Q t ∧ G t) := (vfX5_swapRows_c30 hk Q k).1 t _ _ g hR
theorem vtX5_swapRows_c30 {G : XT → Prop} {k : Nat} {t : XT} {a2 : Int32} {a3 : Int32} {Q Q' : XT → Prop} (hk : kpA G) (g : G t) (hR : wqX5_swapRows_c30 k t a2 a3 Q) (hQ : (∀ t, Q t → G t → Q' t)) : wqX5_swapRows_c30 k t a2 a3 Q' := wmX5_swapRows_c30 (Nat.le_refl k) (fun t h => hQ t h.1 h.2) (vgX5_swapRows_c30 hk g hR)
