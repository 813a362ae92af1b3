set_option maxHeartbeats 4000000 in
set_option maxRecDepth 100000 in
theorem zfX11_linkOf {G : XT → Prop} (hk : kpP G) (Q : Int64 → XT → Prop) : ∀ k : Nat, (∀ (t : XT) (li : Nat → Int32) (lj : Nat → Int64), G t → wpX11_linkOf k 0 t li lj Q → wpX11_linkOf k 0 t li lj (fun r t => Q r t ∧ G t)) ∧ (∀ (t : XT) (li : Nat → Int32) (lj : Nat → Int64), G t → wpX11_linkOf k 1 t li lj Q → wpX11_linkOf k 1 t li lj (fun r t => Q r t ∧ G t)) ∧ (∀ (t : XT) (li : Nat → Int32) (lj : Nat → Int64), G t → wpX11_linkOf k 2 t li lj Q → wpX11_linkOf k 2 t li lj (fun r t => Q r t ∧ G t)) ∧ (∀ (t : XT) (li : Nat → Int32) (lj : Nat → Int64), G t → wpX11_linkOf k 3 t li lj Q → wpX11_linkOf k 3 t li lj (fun r t => Q r t ∧ G t)) := by
  intro k
  induction k with
  | zero => exact ⟨fun _ _ _ _ hR => False.elim hR, fun _ _ _ _ hR => False.elim hR, fun _ _ _ _ hR => False.elim hR, fun _ _ _ _ hR => False.elim hR⟩
  | succ k ih =>
    refine ⟨?_, ?_, ?_, ?_⟩
    · intro t li lj g hR
      have hR : wbX11_linkOf_0 (wpX11_linkOf k) k t li lj Q := hR
      show wbX11_linkOf_0 (wpX11_linkOf k) k t li lj (fun r t => Q r t ∧ G t)
      unfold wbX11_linkOf_0 at hR ⊢
      exact ih.2.1 _ _ _ g hR
    · intro t li lj g hR
      have hR : wbX11_linkOf_1 (wpX11_linkOf k) k t li lj Q := hR
      show wbX11_linkOf_1 (wpX11_linkOf k) k t li lj (fun r t => Q r t ∧ G t)
      unfold wbX11_linkOf_1 at hR ⊢
      exact ⟨fun c1 => ⟨(hR.1 c1), g⟩, fun c2 => ⟨(hR.2 c2).1, fun x3 e3 => ⟨((hR.2 c2).2 x3 e3).1, fun x4 e4 => fun x5 e5 => ⟨((((hR.2 c2).2 x3 e3).2 x4 e4) x5 e5).1, fun x6 e6 => ⟨(((((hR.2 c2).2 x3 e3).2 x4 e4) x5 e5).2 x6 e6).1, fun x7 e7 => fun x8 e8 => ⟨fun c9 => ih.2.2.1 _ _ _ g ((((((((hR.2 c2).2 x3 e3).2 x4 e4) x5 e5).2 x6 e6).2 x7 e7) x8 e8).1 c9), fun c10 => ih.2.2.1 _ _ _ g ((((((((hR.2 c2).2 x3 e3).2 x4 e4) x5 e5).2 x6 e6).2 x7 e7) x8 e8).2 c10)⟩⟩⟩⟩⟩⟩
    · intro t li lj g hR
      have hR : wbX11_linkOf_2 (wpX11_linkOf k) k t li lj Q := hR
      show wbX11_linkOf_2 (wpX11_linkOf k) k t li lj (fun r t => Q r t ∧ G t)
      unfold wbX11_linkOf_2 at hR ⊢
      exact ztX11_number hk g hR (fun y1_0 y1_1 h1 g1 => ⟨fun c2 => ih.2.2.2 _ _ _ g1 (h1.1 c2), fun c3 => ztX11_isThere hk g1 (h1.2 c3) (fun y4_0 y4_1 h4 g4 => ⟨fun c5 => ih.2.2.2 _ _ _ g4 (h4.1 c5), fun c6 => ztX11_isThere hk g4 (h4.2 c6) (fun y7_0 y7_1 h7 g7 => ⟨fun c8 => ih.2.2.2 _ _ _ g7 (h7.1 c8), fun c9 => wcX11_bit (h7.2 c9) (fun y10_0 h10 => fun x11 e11 => ih.2.2.2 _ _ _ g7 (h10 x11 e11))⟩)⟩)⟩)
    · intro t li lj g hR
      have hR : wbX11_linkOf_3 (wpX11_linkOf k) k t li lj Q := hR
      show wbX11_linkOf_3 (wpX11_linkOf k) k t li lj (fun r t => Q r t ∧ G t)
      unfold wbX11_linkOf_3 at hR ⊢
      exact fun x1 e1 => ih.2.1 _ _ _ g (hR x1 e1)
theorem zgX11_linkOf {G : XT → Prop} {k : Nat} {t : XT} {a1 : Int32} {Q : Int64 → XT → Prop} (hk : kpP G) (g : G t) (hR : wqX11_linkOf k t a1 Q) : wqX11_linkOf k t a1 (fun r t => Q r t ∧ G t) := (zfX11_linkOf hk Q k).1 t _ _ g hR
theorem ztX11_linkOf {G : XT → Prop} {k : Nat} {t : XT} {a1 : Int32} {Q Q' : Int64 → XT → Prop} (hk : kpP G) (g : G t) (hR : wqX11_linkOf k t a1 Q) (hQ : (∀ r t, Q r t → G t → Q' r t)) : wqX11_linkOf k t a1 Q' := wmX11_linkOf (Nat.le_refl k) (fun r t h => hQ r t h.1 h.2) (zgX11_linkOf hk g hR)
set_option maxHeartbeats 4000000 in
set_option maxRecDepth 100000 in
theorem zfX9_eulerOf {G : XT → Prop} (hk : kpP G) (Q : Int32 → XT → Prop) : ∀ k : Nat, (∀ (t : XT) (li : Nat → Int32) (lj : Nat → Int64), G t → wpX9_eulerOf k 0 t li lj Q → wpX9_eulerOf k 0 t li lj (fun r t => Q r t ∧ G t)) ∧ (∀ (t : XT) (li : Nat → Int32) (lj : Nat → Int64), G t → wpX9_eulerOf k 1 t li lj Q → wpX9_eulerOf k 1 t li lj (fun r t => Q r t ∧ G t)) ∧ (∀ (t : XT) (li : Nat → Int32) (lj : Nat → Int64), G t → wpX9_eulerOf k 2 t li lj Q → wpX9_eulerOf k 2 t li lj (fun r t => Q r t ∧ G t)) := by
  intro k
  induction k with
  | zero => exact ⟨fun _ _ _ _ hR => False.elim hR, fun _ _ _ _ hR => False.elim hR, fun _ _ _ _ hR => False.elim hR⟩
  | succ k ih =>
    refine ⟨?_, ?_, ?_⟩
    · intro t li lj g hR
      have hR : wbX9_eulerOf_0 (wpX9_eulerOf k) k t li lj Q := hR
      show wbX9_eulerOf_0 (wpX9_eulerOf k) k t li lj (fun r t => Q r t ∧ G t)
      unfold wbX9_eulerOf_0 at hR ⊢
      exact ih.2.1 _ _ _ g hR
    · intro t li lj g hR
      have hR : wbX9_eulerOf_1 (wpX9_eulerOf k) k t li lj Q := hR
      show wbX9_eulerOf_1 (wpX9_eulerOf k) k t li lj (fun r t => Q r t ∧ G t)
      unfold wbX9_eulerOf_1 at hR ⊢
      exact ⟨fun c1 => ⟨(hR.1 c1), g⟩, fun c2 => ⟨(hR.2 c2).1, fun x3 e3 => fun x4 e4 => wcJ13_bitCount_95d88 (((hR.2 c2).2 x3 e3) x4 e4) (fun y5_0 h5 => fun x6 e6 => ⟨fun c7 => fun x8 e8 => ih.2.2 _ _ _ g (((h5 x6 e6).1 c7) x8 e8), fun c9 => ih.2.2 _ _ _ g ((h5 x6 e6).2 c9)⟩)⟩⟩
    · intro t li lj g hR
      have hR : wbX9_eulerOf_2 (wpX9_eulerOf k) k t li lj Q := hR
      show wbX9_eulerOf_2 (wpX9_eulerOf k) k t li lj (fun r t => Q r t ∧ G t)
      unfold wbX9_eulerOf_2 at hR ⊢
      exact fun x1 e1 => fun x2 e2 => ih.2.1 _ _ _ g ((hR x1 e1) x2 e2)
theorem zgX9_eulerOf {G : XT → Prop} {k : Nat} {t : XT} {a1 : Int64} {Q : Int32 → XT → Prop} (hk : kpP G) (g : G t) (hR : wqX9_eulerOf k t a1 Q) : wqX9_eulerOf k t a1 (fun r t => Q r t ∧ G t) := (zfX9_eulerOf hk Q k).1 t _ _ g hR
theorem ztX9_eulerOf {G : XT → Prop} {k : Nat} {t : XT} {a1 : Int64} {Q Q' : Int32 → XT → Prop} (hk : kpP G) (g : G t) (hR : wqX9_eulerOf k t a1 Q) (hQ : (∀ r t, Q r t → G t → Q' r t)) : wqX9_eulerOf k t a1 Q' := wmX9_eulerOf (Nat.le_refl k) (fun r t h => hQ r t h.1 h.2) (zgX9_eulerOf hk g hR)
set_option maxHeartbeats 4000000 in
set_option maxRecDepth 100000 in
theorem zfX11_link {G : XT → Prop} (hk : kpP G) (Q : Int32 → XT → Prop) : ∀ k : Nat, (∀ (t : XT) (li : Nat → Int32) (lj : Nat → Int64), G t → wpX11_link k 0 t li lj Q → wpX11_link k 0 t li lj (fun r t => Q r t ∧ G t)) ∧ (∀ (t : XT) (li : Nat → Int32) (lj : Nat → Int64), G t → wpX11_link k 1 t li lj Q → wpX11_link k 1 t li lj (fun r t => Q r t ∧ G t)) := by
  intro k
  induction k with
  | zero => exact ⟨fun _ _ _ _ hR => False.elim hR, fun _ _ _ _ hR => False.elim hR⟩
  | succ k ih =>
    refine ⟨?_, ?_⟩
    · intro t li lj g hR
      have hR : wbX11_link_0 (wpX11_link k) k t li lj Q := hR
      show wbX11_link_0 (wpX11_link k) k t li lj (fun r t => Q r t ∧ G t)
      unfold wbX11_link_0 at hR ⊢
      exact ztX11_isThere hk g hR (fun y1_0 y1_1 h1 g1 => ⟨fun c2 => ih.2 _ _ _ g1 (h1.1 c2), fun c3 => ⟨fun c4 => ih.2 _ _ _ g1 ((h1.2 c3).1 c4), fun c5 => ⟨fun c6 => ztX11_linkOf hk g1 (((h1.2 c3).2 c5).1 c6) (fun y7_0 y7_1 h7 g7 => ⟨fun c8 => ztX9_eulerOf hk g7 (h7.1 c8) (fun y9_0 y9_1 h9 g9 => ⟨h9, g9⟩), fun c10 => wcJ13_bitCount_95d88 (h7.2 c10) (fun y11_0 h11 => ⟨h11, g7⟩)⟩), fun c12 => ih.2 _ _ _ g1 (((h1.2 c3).2 c5).2 c12)⟩⟩⟩)
    · intro t li lj g hR
      have hR : wbX11_link_1 (wpX11_link k) k t li lj Q := hR
      show wbX11_link_1 (wpX11_link k) k t li lj (fun r t => Q r t ∧ G t)
      unfold wbX11_link_1 at hR ⊢
      exact ⟨hR, g⟩
theorem zgX11_link {G : XT → Prop} {k : Nat} {t : XT} {a1 : Int32} {a2 : Int32} {Q : Int32 → XT → Prop} (hk : kpP G) (g : G t) (hR : wqX11_link k t a1 a2 Q) : wqX11_link k t a1 a2 (fun r t => Q r t ∧ G t) := (zfX11_link hk Q k).1 t _ _ g hR
theorem ztX11_link {G : XT → Prop} {k : Nat} {t : XT} {a1 : Int32} {a2 : Int32} {Q Q' : Int32 → XT → Prop} (hk : kpP G) (g : G t) (hR : wqX11_link k t a1 a2 Q) (hQ : (∀ r t, Q r t → G t → Q' r t)) : wqX11_link k t a1 a2 Q' := wmX11_link (Nat.le_refl k) (fun r t h => hQ r t h.1 h.2) (zgX11_link hk g hR)
set_option maxHeartbeats 4000000 in
set_option maxRecDepth 100000 in
theorem zfX11_roomAbove {G : XT → Prop} (hk : kpP G) (Q : Int32 → XT → Prop) : ∀ k : Nat, (∀ (t : XT) (li : Nat → Int32) (lj : Nat → Int64), G t → wpX11_roomAbove k 0 t li lj Q → wpX11_roomAbove k 0 t li lj (fun r t => Q r t ∧ G t)) ∧ (∀ (t : XT) (li : Nat → Int32) (lj : Nat → Int64), G t → wpX11_roomAbove k 1 t li lj Q → wpX11_roomAbove k 1 t li lj (fun r t => Q r t ∧ G t)) ∧ (∀ (t : XT) (li : Nat → Int32) (lj : Nat → Int64), G t → wpX11_roomAbove k 2 t li lj Q → wpX11_roomAbove k 2 t li lj (fun r t => Q r t ∧ G t)) := by
  intro k
  induction k with
  | zero => exact ⟨fun _ _ _ _ hR => False.elim hR, fun _ _ _ _ hR => False.elim hR, fun _ _ _ _ hR => False.elim hR⟩
  | succ k ih =>
    refine ⟨?_, ?_, ?_⟩
    · intro t li lj g hR
      have hR : wbX11_roomAbove_0 (wpX11_roomAbove k) k t li lj Q := hR
      show wbX11_roomAbove_0 (wpX11_roomAbove k) k t li lj (fun r t => Q r t ∧ G t)
      unfold wbX11_roomAbove_0 at hR ⊢
      exact fun x1 e1 => ih.2.1 _ _ _ g (hR x1 e1)
    · intro t li lj g hR
      have hR : wbX11_roomAbove_1 (wpX11_roomAbove k) k t li lj Q := hR
      show wbX11_roomAbove_1 (wpX11_roomAbove k) k t li lj (fun r t => Q r t ∧ G t)
      unfold wbX11_roomAbove_1 at hR ⊢
      exact ⟨fun c1 => ⟨(hR.1 c1), g⟩, fun c2 => wcX11_isIn (hR.2 c2) (fun y3_0 h3 => ⟨fun c4 => ih.2.2 _ _ _ g (h3.1 c4), fun c5 => ztX6_staysAcyclic hk g (h3.2 c5) (fun y6_0 y6_1 h6 g6 => ⟨fun c7 => ih.2.2 _ _ _ g6 (h6.1 c7), fun c8 => fun x9 e9 => ih.2.2 _ _ _ g6 ((h6.2 c8) x9 e9)⟩)⟩)⟩
    · intro t li lj g hR
      have hR : wbX11_roomAbove_2 (wpX11_roomAbove k) k t li lj Q := hR
      show wbX11_roomAbove_2 (wpX11_roomAbove k) k t li lj (fun r t => Q r t ∧ G t)
      unfold wbX11_roomAbove_2 at hR ⊢
      exact fun x1 e1 => ih.2.1 _ _ _ g (hR x1 e1)
theorem zgX11_roomAbove {G : XT → Prop} {k : Nat} {t : XT} {a1 : Int32} {a2 : Int64} {Q : Int32 → XT → Prop} (hk : kpP G) (g : G t) (hR : wqX11_roomAbove k t a1 a2 Q) : wqX11_roomAbove k t a1 a2 (fun r t => Q r t ∧ G t) := (zfX11_roomAbove hk Q k).1 t _ _ g hR
theorem ztX11_roomAbove {G : XT → Prop} {k : Nat} {t : XT} {a1 : Int32} {a2 : Int64} {Q Q' : Int32 → XT → Prop} (hk : kpP G) (g : G t) (hR : wqX11_roomAbove k t a1 a2 Q) (hQ : (∀ r t, Q r t → G t → Q' r t)) : wqX11_roomAbove k t a1 a2 Q' := wmX11_roomAbove (Nat.le_refl k) (fun r t h => hQ r t h.1 h.2) (zgX11_roomAbove hk g hR)
set_option maxHeartbeats 4000000 in
set_option maxRecDepth 100000 in
theorem zfX11_room {G : XT → Prop} (hk : kpP G) (Q : Int32 → XT → Prop) : ∀ k : Nat, (∀ (t : XT) (li : Nat → Int32) (lj : Nat → Int64), G t → wpX11_room k 0 t li lj Q → wpX11_room k 0 t li lj (fun r t => Q r t ∧ G t)) ∧ (∀ (t : XT) (li : Nat → Int32) (lj : Nat → Int64), G t → wpX11_room k 1 t li lj Q → wpX11_room k 1 t li lj (fun r t => Q r t ∧ G t)) ∧ (∀ (t : XT) (li : Nat → Int32) (lj : Nat → Int64), G t → wpX11_room k 2 t li lj Q → wpX11_room k 2 t li lj (fun r t => Q r t ∧ G t)) := by
  intro k
  induction k with
  | zero => exact ⟨fun _ _ _ _ hR => False.elim hR, fun _ _ _ _ hR => False.elim hR, fun _ _ _ _ hR => False.elim hR⟩
  | succ k ih =>
    refine ⟨?_, ?_, ?_⟩
    · intro t li lj g hR
      have hR : wbX11_room_0 (wpX11_room k) k t li lj Q := hR
      show wbX11_room_0 (wpX11_room k) k t li lj (fun r t => Q r t ∧ G t)
      unfold wbX11_room_0 at hR ⊢
      exact wcX11_isDim hR (fun y1_0 h1 => ⟨fun c2 => ztX6_unpaired hk g (h1.1 c2) (fun y3_0 y3_1 h3 g3 => ih.2.1 _ _ _ g3 h3), fun c4 => ⟨(h1.2 c4), g⟩⟩)
    · intro t li lj g hR
      have hR : wbX11_room_1 (wpX11_room k) k t li lj Q := hR
      show wbX11_room_1 (wpX11_room k) k t li lj (fun r t => Q r t ∧ G t)
      unfold wbX11_room_1 at hR ⊢
      exact ⟨fun c1 => ⟨(hR.1 c1), g⟩, fun c2 => wcX11_isIn (hR.2 c2) (fun y3_0 h3 => ⟨fun c4 => ih.2.2 _ _ _ g (h3.1 c4), fun c5 => ⟨(h3.2 c5).1, fun x6 e6 => ⟨fun c7 => ih.2.2 _ _ _ g (((h3.2 c5).2 x6 e6).1 c7), fun c8 => ⟨(((h3.2 c5).2 x6 e6).2 c8).1, fun x9 e9 => fun x10 e10 => ztX11_roomAbove hk g (((((h3.2 c5).2 x6 e6).2 c8).2 x9 e9) x10 e10) (fun y11_0 y11_1 h11 g11 => fun x12 e12 => ih.2.2 _ _ _ g11 (h11 x12 e12))⟩⟩⟩⟩)⟩
    · intro t li lj g hR
      have hR : wbX11_room_2 (wpX11_room k) k t li lj Q := hR
      show wbX11_room_2 (wpX11_room k) k t li lj (fun r t => Q r t ∧ G t)
      unfold wbX11_room_2 at hR ⊢
      exact fun x1 e1 => ih.2.1 _ _ _ g (hR x1 e1)
theorem zgX11_room {G : XT → Prop} {k : Nat} {t : XT} {a1 : Int32} {Q : Int32 → XT → Prop} (hk : kpP G) (g : G t) (hR : wqX11_room k t a1 Q) : wqX11_room k t a1 (fun r t => Q r t ∧ G t) := (zfX11_room hk Q k).1 t _ _ g hR
theorem ztX11_room {G : XT → Prop} {k : Nat} {t : XT} {a1 : Int32} {Q Q' : Int32 → XT → Prop} (hk : kpP G) (g : G t) (hR : wqX11_room k t a1 Q) (hQ : (∀ r t, Q r t → G t → Q' r t)) : wqX11_room k t a1 Q' := wmX11_room (Nat.le_refl k) (fun r t h => hQ r t h.1 h.2) (zgX11_room hk g hR)
set_option maxHeartbeats 4000000 in
set_option maxRecDepth 100000 in
theorem zfX11_draws {G : XT → Prop} (hk : kpP G) (Q : Int32 → XT → Prop) : ∀ k : Nat, (∀ (t : XT) (li : Nat → Int32) (lj : Nat → Int64), G t → wpX11_draws k 0 t li lj Q → wpX11_draws k 0 t li lj (fun r t => Q r t ∧ G t)) := by
  intro k
  induction k with
  | zero => exact fun _ _ _ _ hR => False.elim hR
  | succ k ih =>
    intro t li lj g hR
    have hR : wbX11_draws_0 (wpX11_draws k) k t li lj Q := hR
    show wbX11_draws_0 (wpX11_draws k) k t li lj (fun r t => Q r t ∧ G t)
    unfold wbX11_draws_0 at hR ⊢
    exact ⟨fun c1 => fun x2 e2 => have g2 : G x2 := (by rw [e2]; exact hk.1 _ _ _ (by decide) (by decide) g); ⟨((hR.1 c1) x2 e2), g2⟩, fun c3 => ⟨(hR.2 c3), g⟩⟩
theorem zgX11_draws {G : XT → Prop} {k : Nat} {t : XT} {a1 : Int32} {Q : Int32 → XT → Prop} (hk : kpP G) (g : G t) (hR : wqX11_draws k t a1 Q) : wqX11_draws k t a1 (fun r t => Q r t ∧ G t) := (zfX11_draws hk Q k) t _ _ g hR
theorem ztX11_draws {G : XT → Prop} {k : Nat} {t : XT} {a1 : Int32} {Q Q' : Int32 → XT → Prop} (hk : kpP G) (g : G t) (hR : wqX11_draws k t a1 Q) (hQ : (∀ r t, Q r t → G t → Q' r t)) : wqX11_draws k t a1 Q' := wmX11_draws (Nat.le_refl k) (fun r t h => hQ r t h.1 h.2) (zgX11_draws hk g hR)
set_option maxHeartbeats 4000000 in
set_option maxRecDepth 100000 in
theorem zfX9_greatestDim {G : XT → Prop} (hk : kpP G) (Q : Int32 → XT → Prop) : ∀ k : Nat, (∀ (t : XT) (li : Nat → Int32) (lj : Nat → Int64), G t → wpX9_greatestDim k 0 t li lj Q → wpX9_greatestDim k 0 t li lj (fun r t => Q r t ∧ G t)) ∧ (∀ (t : XT) (li : Nat → Int32) (lj : Nat → Int64), G t → wpX9_greatestDim k 1 t li lj Q → wpX9_greatestDim k 1 t li lj (fun r t => Q r t ∧ G t)) ∧ (∀ (t : XT) (li : Nat → Int32) (lj : Nat → Int64), G t → wpX9_greatestDim k 2 t li lj Q → wpX9_greatestDim k 2 t li lj (fun r t => Q r t ∧ G t)) := by
  intro k
  induction k with
  | zero => exact ⟨fun _ _ _ _ hR => False.elim hR, fun _ _ _ _ hR => False.elim hR, fun _ _ _ _ hR => False.elim hR⟩
  | succ k ih =>
    refine ⟨?_, ?_, ?_⟩
    · intro t li lj g hR
      have hR : wbX9_greatestDim_0 (wpX9_greatestDim k) k t li lj Q := hR
      show wbX9_greatestDim_0 (wpX9_greatestDim k) k t li lj (fun r t => Q r t ∧ G t)
      unfold wbX9_greatestDim_0 at hR ⊢
      exact ih.2.1 _ _ _ g hR
    · intro t li lj g hR
      have hR : wbX9_greatestDim_1 (wpX9_greatestDim k) k t li lj Q := hR
      show wbX9_greatestDim_1 (wpX9_greatestDim k) k t li lj (fun r t => Q r t ∧ G t)
      unfold wbX9_greatestDim_1 at hR ⊢
      exact ⟨fun c1 => ⟨(hR.1 c1), g⟩, fun c2 => ⟨(hR.2 c2).1, fun x3 e3 => fun x4 e4 => fun x5 e5 => ⟨fun c6 => ih.2.2 _ _ _ g (((((hR.2 c2).2 x3 e3) x4 e4) x5 e5).1 c6), fun c7 => ih.2.2 _ _ _ g (((((hR.2 c2).2 x3 e3) x4 e4) x5 e5).2 c7)⟩⟩⟩
    · intro t li lj g hR
      have hR : wbX9_greatestDim_2 (wpX9_greatestDim k) k t li lj Q := hR
      show wbX9_greatestDim_2 (wpX9_greatestDim k) k t li lj (fun r t => Q r t ∧ G t)
      unfold wbX9_greatestDim_2 at hR ⊢
      exact fun x1 e1 => ih.2.1 _ _ _ g (hR x1 e1)
theorem zgX9_greatestDim {G : XT → Prop} {k : Nat} {t : XT} {a1 : Int64} {Q : Int32 → XT → Prop} (hk : kpP G) (g : G t) (hR : wqX9_greatestDim k t a1 Q) : wqX9_greatestDim k t a1 (fun r t => Q r t ∧ G t) := (zfX9_greatestDim hk Q k).1 t _ _ g hR
theorem ztX9_greatestDim {G : XT → Prop} {k : Nat} {t : XT} {a1 : Int64} {Q Q' : Int32 → XT → Prop} (hk : kpP G) (g : G t) (hR : wqX9_greatestDim k t a1 Q) (hQ : (∀ r t, Q r t → G t → Q' r t)) : wqX9_greatestDim k t a1 Q' := wmX9_greatestDim (Nat.le_refl k) (fun r t h => hQ r t h.1 h.2) (zgX9_greatestDim hk g hR)
set_option maxHeartbeats 4000000 in
set_option maxRecDepth 100000 in
theorem zfX7_greatest {G : XT → Prop} (hk : kpP G) (Q : Int64 → XT → Prop) : ∀ k : Nat, (∀ (t : XT) (li : Nat → Int32) (lj : Nat → Int64), G t → wpX7_greatest k 0 t li lj Q → wpX7_greatest k 0 t li lj (fun r t => Q r t ∧ G t)) := by
  intro k
  induction k with
  | zero => exact fun _ _ _ _ hR => False.elim hR
  | succ k ih =>
    intro t li lj g hR
    have hR : wbX7_greatest_0 (wpX7_greatest k) k t li lj Q := hR
    show wbX7_greatest_0 (wpX7_greatest k) k t li lj (fun r t => Q r t ∧ G t)
    unfold wbX7_greatest_0 at hR ⊢
    exact ztX9_greatestDim hk g hR (fun y1_0 y1_1 h1 g1 => wcX11_isDim h1 (fun y2_0 h2 => ⟨fun c3 => ⟨(h2.1 c3), g1⟩, fun c4 => ⟨(h2.2 c4).1, fun x5 e5 => fun x6 e6 => ⟨(((h2.2 c4).2 x5 e5) x6 e6), g1⟩⟩⟩))
theorem zgX7_greatest {G : XT → Prop} {k : Nat} {t : XT}  {Q : Int64 → XT → Prop} (hk : kpP G) (g : G t) (hR : wqX7_greatest k t  Q) : wqX7_greatest k t  (fun r t => Q r t ∧ G t) := (zfX7_greatest hk Q k) t _ _ g hR
theorem ztX7_greatest {G : XT → Prop} {k : Nat} {t : XT}  {Q Q' : Int64 → XT → Prop} (hk : kpP G) (g : G t) (hR : wqX7_greatest k t  Q) (hQ : (∀ r t, Q r t → G t → Q' r t)) : wqX7_greatest k t  Q' := wmX7_greatest (Nat.le_refl k) (fun r t h => hQ r t h.1 h.2) (zgX7_greatest hk g hR)
set_option maxHeartbeats 4000000 in
set_option maxRecDepth 100000 in
theorem zfX11_drawFrom {G : XT → Prop} (hk : kpP G) (Q : Int32 → XT → Prop) : ∀ k : Nat, (∀ (t : XT) (li : Nat → Int32) (lj : Nat → Int64), G t → wpX11_drawFrom k 0 t li lj Q → wpX11_drawFrom k 0 t li lj (fun r t => Q r t ∧ G t)) := by
  intro k
  induction k with
  | zero => exact fun _ _ _ _ hR => False.elim hR
  | succ k ih =>
    intro t li lj g hR
    have hR : wbX11_drawFrom_0 (wpX11_drawFrom k) k t li lj Q := hR
    show wbX11_drawFrom_0 (wpX11_drawFrom k) k t li lj (fun r t => Q r t ∧ G t)
    unfold wbX11_drawFrom_0 at hR ⊢
    exact wcJ13_bitCount_95d88 hR (fun y1_0 h1 => fun x2 e2 => fun x3 e3 => fun x4 e4 => ⟨(((h1 x2 e2) x3 e3) x4 e4).1, fun x5 e5 => fun x6 e6 => fun x7 e7 => have g7 : G x7 := (by rw [e7]; exact hk.1 _ _ _ (by decide) (by decide) g); ⟨fun c8 => ⟨(((((((h1 x2 e2) x3 e3) x4 e4).2 x5 e5) x6 e6) x7 e7).1 c8), g7⟩, fun c9 => ⟨(((((((h1 x2 e2) x3 e3) x4 e4).2 x5 e5) x6 e6) x7 e7).2 c9).1, fun x10 e10 => ⟨((((((((h1 x2 e2) x3 e3) x4 e4).2 x5 e5) x6 e6) x7 e7).2 c9).2 x10 e10).1, fun x11 e11 => wcX11_nth (((((((((h1 x2 e2) x3 e3) x4 e4).2 x5 e5) x6 e6) x7 e7).2 c9).2 x10 e10).2 x11 e11) (fun y12_0 h12 => ⟨h12, g7⟩)⟩⟩⟩⟩)
theorem zgX11_drawFrom {G : XT → Prop} {k : Nat} {t : XT} {a1 : Int64} {Q : Int32 → XT → Prop} (hk : kpP G) (g : G t) (hR : wqX11_drawFrom k t a1 Q) : wqX11_drawFrom k t a1 (fun r t => Q r t ∧ G t) := (zfX11_drawFrom hk Q k) t _ _ g hR
theorem ztX11_drawFrom {G : XT → Prop} {k : Nat} {t : XT} {a1 : Int64} {Q Q' : Int32 → XT → Prop} (hk : kpP G) (g : G t) (hR : wqX11_drawFrom k t a1 Q) (hQ : (∀ r t, Q r t → G t → Q' r t)) : wqX11_drawFrom k t a1 Q' := wmX11_drawFrom (Nat.le_refl k) (fun r t h => hQ r t h.1 h.2) (zgX11_drawFrom hk g hR)
set_option maxHeartbeats 4000000 in
set_option maxRecDepth 100000 in
theorem zfX11_peelByDraws {G : XT → Prop} (hk : kpP G) (Q : Int32 → XT → Prop) : ∀ k : Nat, (∀ (t : XT) (li : Nat → Int32) (lj : Nat → Int64), G t → wpX11_peelByDraws k 0 t li lj Q → wpX11_peelByDraws k 0 t li lj (fun r t => Q r t ∧ G t)) ∧ (∀ (t : XT) (li : Nat → Int32) (lj : Nat → Int64), G t → wpX11_peelByDraws k 1 t li lj Q → wpX11_peelByDraws k 1 t li lj (fun r t => Q r t ∧ G t)) ∧ (∀ (t : XT) (li : Nat → Int32) (lj : Nat → Int64), G t → wpX11_peelByDraws k 2 t li lj Q → wpX11_peelByDraws k 2 t li lj (fun r t => Q r t ∧ G t)) ∧ (∀ (t : XT) (li : Nat → Int32) (lj : Nat → Int64), G t → wpX11_peelByDraws k 3 t li lj Q → wpX11_peelByDraws k 3 t li lj (fun r t => Q r t ∧ G t)) := by
  intro k
  induction k with
  | zero => exact ⟨fun _ _ _ _ hR => False.elim hR, fun _ _ _ _ hR => False.elim hR, fun _ _ _ _ hR => False.elim hR, fun _ _ _ _ hR => False.elim hR⟩
  | succ k ih =>
    refine ⟨?_, ?_, ?_, ?_⟩
    · intro t li lj g hR
      have hR : wbX11_peelByDraws_0 (wpX11_peelByDraws k) k t li lj Q := hR
      show wbX11_peelByDraws_0 (wpX11_peelByDraws k) k t li lj (fun r t => Q r t ∧ G t)
      unfold wbX11_peelByDraws_0 at hR ⊢
      exact ztX7_begin hk g hR (fun y1_0 h1 g1 => ih.2.1 _ _ _ g1 h1)
    · intro t li lj g hR
      have hR : wbX11_peelByDraws_1 (wpX11_peelByDraws k) k t li lj Q := hR
      show wbX11_peelByDraws_1 (wpX11_peelByDraws k) k t li lj (fun r t => Q r t ∧ G t)
      unfold wbX11_peelByDraws_1 at hR ⊢
      exact ⟨fun c1 => ih.2.2.2 _ _ _ g (hR.1 c1), fun c2 => fun x3 e3 => ⟨fun c4 => ih.2.2.2 _ _ _ g (((hR.2 c2) x3 e3).1 c4), fun c5 => fun x6 e6 => ⟨fun c7 => ztX7_greatest hk g (((((hR.2 c2) x3 e3).2 c5) x6 e6).1 c7) (fun y8_0 y8_1 h8 g8 => ztX11_drawFrom hk g8 h8 (fun y9_0 y9_1 h9 g9 => ztX7_close hk g9 h9 (fun y10_0 h10 g10 => fun x11 e11 => ih.2.2.1 _ _ _ g10 (h10 x11 e11)))), fun c12 => ztX11_drawFrom hk g (((((hR.2 c2) x3 e3).2 c5) x6 e6).2 c12) (fun y13_0 y13_1 h13 g13 => ztX7_above hk g13 h13 (fun y14_0 y14_1 h14 g14 => ztX7_close hk g14 h14 (fun y15_0 h15 g15 => ztX7_close hk g15 h15 (fun y16_0 h16 g16 => ih.2.2.1 _ _ _ g16 h16))))⟩⟩⟩
    · intro t li lj g hR
      have hR : wbX11_peelByDraws_2 (wpX11_peelByDraws k) k t li lj Q := hR
      show wbX11_peelByDraws_2 (wpX11_peelByDraws k) k t li lj (fun r t => Q r t ∧ G t)
      unfold wbX11_peelByDraws_2 at hR ⊢
      exact fun x1 e1 => ih.2.1 _ _ _ g (hR x1 e1)
    · intro t li lj g hR
      have hR : wbX11_peelByDraws_3 (wpX11_peelByDraws k) k t li lj Q := hR
      show wbX11_peelByDraws_3 (wpX11_peelByDraws k) k t li lj (fun r t => Q r t ∧ G t)
      unfold wbX11_peelByDraws_3 at hR ⊢
      exact ⟨hR, g⟩
theorem zgX11_peelByDraws {G : XT → Prop} {k : Nat} {t : XT}  {Q : Int32 → XT → Prop} (hk : kpP G) (g : G t) (hR : wqX11_peelByDraws k t  Q) : wqX11_peelByDraws k t  (fun r t => Q r t ∧ G t) := (zfX11_peelByDraws hk Q k).1 t _ _ g hR
theorem ztX11_peelByDraws {G : XT → Prop} {k : Nat} {t : XT}  {Q Q' : Int32 → XT → Prop} (hk : kpP G) (g : G t) (hR : wqX11_peelByDraws k t  Q) (hQ : (∀ r t, Q r t → G t → Q' r t)) : wqX11_peelByDraws k t  Q' := wmX11_peelByDraws (Nat.le_refl k) (fun r t h => hQ r t h.1 h.2) (zgX11_peelByDraws hk g hR)
set_option maxHeartbeats 4000000 in
set_option maxRecDepth 100000 in
theorem zfX11_drawn {G : XT → Prop} (hk : kpP G) (Q : Int32 → XT → Prop) : ∀ k : Nat, (∀ (t : XT) (li : Nat → Int32) (lj : Nat → Int64), G t → wpX11_drawn k 0 t li lj Q → wpX11_drawn k 0 t li lj (fun r t => Q r t ∧ G t)) ∧ (∀ (t : XT) (li : Nat → Int32) (lj : Nat → Int64), G t → wpX11_drawn k 1 t li lj Q → wpX11_drawn k 1 t li lj (fun r t => Q r t ∧ G t)) ∧ (∀ (t : XT) (li : Nat → Int32) (lj : Nat → Int64), G t → wpX11_drawn k 2 t li lj Q → wpX11_drawn k 2 t li lj (fun r t => Q r t ∧ G t)) ∧ (∀ (t : XT) (li : Nat → Int32) (lj : Nat → Int64), G t → wpX11_drawn k 3 t li lj Q → wpX11_drawn k 3 t li lj (fun r t => Q r t ∧ G t)) ∧ (∀ (t : XT) (li : Nat → Int32) (lj : Nat → Int64), G t → wpX11_drawn k 4 t li lj Q → wpX11_drawn k 4 t li lj (fun r t => Q r t ∧ G t)) := by
  intro k
  induction k with
  | zero => exact ⟨fun _ _ _ _ hR => False.elim hR, fun _ _ _ _ hR => False.elim hR, fun _ _ _ _ hR => False.elim hR, fun _ _ _ _ hR => False.elim hR, fun _ _ _ _ hR => False.elim hR⟩
  | succ k ih =>
    refine ⟨?_, ?_, ?_, ?_, ?_⟩
    · intro t li lj g hR
      have hR : wbX11_drawn_0 (wpX11_drawn k) k t li lj Q := hR
      show wbX11_drawn_0 (wpX11_drawn k) k t li lj (fun r t => Q r t ∧ G t)
      unfold wbX11_drawn_0 at hR ⊢
      exact ⟨fun c1 => ih.2.1 _ _ _ g (hR.1 c1), fun c2 => ⟨fun c3 => ih.2.1 _ _ _ g ((hR.2 c2).1 c3), fun c4 => ⟨fun c5 => ih.2.1 _ _ _ g (((hR.2 c2).2 c4).1 c5), fun c6 => ⟨fun c7 => ih.2.1 _ _ _ g ((((hR.2 c2).2 c4).2 c6).1 c7), fun c8 => ⟨fun c9 => ih.2.2.1 _ _ _ g (((((hR.2 c2).2 c4).2 c6).2 c8).1 c9), fun c10 => ih.2.1 _ _ _ g (((((hR.2 c2).2 c4).2 c6).2 c8).2 c10)⟩⟩⟩⟩⟩
    · intro t li lj g hR
      have hR : wbX11_drawn_1 (wpX11_drawn k) k t li lj Q := hR
      show wbX11_drawn_1 (wpX11_drawn k) k t li lj (fun r t => Q r t ∧ G t)
      unfold wbX11_drawn_1 at hR ⊢
      exact ⟨hR, g⟩
    · intro t li lj g hR
      have hR : wbX11_drawn_2 (wpX11_drawn k) k t li lj Q := hR
      show wbX11_drawn_2 (wpX11_drawn k) k t li lj (fun r t => Q r t ∧ G t)
      unfold wbX11_drawn_2 at hR ⊢
      exact ⟨fun c1 => fun x2 e2 => have g2 : G x2 := (by rw [e2]; exact hk.1 _ _ _ (by decide) (by decide) g); ⟨fun c3 => ⟨fun c4 => ⟨((((hR.1 c1) x2 e2).1 c3).1 c4), g2⟩, fun c5 => ⟨((((hR.1 c1) x2 e2).1 c3).2 c5), g2⟩⟩, fun c6 => ⟨(((hR.1 c1) x2 e2).2 c6), g2⟩⟩, fun c7 => ztX11_peelByDraws hk g (hR.2 c7) (fun y8_0 y8_1 h8 g8 => fun x9 e9 => ⟨fun c10 => ih.2.2.2.1 _ _ _ g8 ((h8 x9 e9).1 c10), fun c11 => ih.2.2.2.1 _ _ _ g8 ((h8 x9 e9).2 c11)⟩)⟩
    · intro t li lj g hR
      have hR : wbX11_drawn_3 (wpX11_drawn k) k t li lj Q := hR
      show wbX11_drawn_3 (wpX11_drawn k) k t li lj (fun r t => Q r t ∧ G t)
      unfold wbX11_drawn_3 at hR ⊢
      exact ⟨fun c1 => ih.2.2.2.2 _ _ _ g (hR.1 c1), fun c2 => fun x3 e3 => ih.2.2.2.2 _ _ _ g ((hR.2 c2) x3 e3)⟩
    · intro t li lj g hR
      have hR : wbX11_drawn_4 (wpX11_drawn k) k t li lj Q := hR
      show wbX11_drawn_4 (wpX11_drawn k) k t li lj (fun r t => Q r t ∧ G t)
      unfold wbX11_drawn_4 at hR ⊢
      exact fun x1 e1 => ih.2.2.1 _ _ _ g (hR x1 e1)
theorem zgX11_drawn {G : XT → Prop} {k : Nat} {t : XT} {a1 : Int32} {a2 : Int32} {Q : Int32 → XT → Prop} (hk : kpP G) (g : G t) (hR : wqX11_drawn k t a1 a2 Q) : wqX11_drawn k t a1 a2 (fun r t => Q r t ∧ G t) := (zfX11_drawn hk Q k).1 t _ _ g hR
theorem ztX11_drawn {G : XT → Prop} {k : Nat} {t : XT} {a1 : Int32} {a2 : Int32} {Q Q' : Int32 → XT → Prop} (hk : kpP G) (g : G t) (hR : wqX11_drawn k t a1 a2 Q) (hQ : (∀ r t, Q r t → G t → Q' r t)) : wqX11_drawn k t a1 a2 Q' := wmX11_drawn (Nat.le_refl k) (fun r t h => hQ r t h.1 h.2) (zgX11_drawn hk g hR)
set_option maxHeartbeats 4000000 in
set_option maxRecDepth 100000 in
theorem zfX2_upTo {G : XT → Prop} (hk : kpP G) (Q : Int64 → XT → Prop) : ∀ k : Nat, (∀ (t : XT) (li : Nat → Int32) (lj : Nat → Int64), G t → wpX2_upTo k 0 t li lj Q → wpX2_upTo k 0 t li lj (fun r t => Q r t ∧ G t)) ∧ (∀ (t : XT) (li : Nat → Int32) (lj : Nat → Int64), G t → wpX2_upTo k 1 t li lj Q → wpX2_upTo k 1 t li lj (fun r t => Q r t ∧ G t)) ∧ (∀ (t : XT) (li : Nat → Int32) (lj : Nat → Int64), G t → wpX2_upTo k 2 t li lj Q → wpX2_upTo k 2 t li lj (fun r t => Q r t ∧ G t)) := by
  intro k
  induction k with
  | zero => exact ⟨fun _ _ _ _ hR => False.elim hR, fun _ _ _ _ hR => False.elim hR, fun _ _ _ _ hR => False.elim hR⟩
  | succ k ih =>
    refine ⟨?_, ?_, ?_⟩
    · intro t li lj g hR
      have hR : wbX2_upTo_0 (wpX2_upTo k) k t li lj Q := hR
      show wbX2_upTo_0 (wpX2_upTo k) k t li lj (fun r t => Q r t ∧ G t)
      unfold wbX2_upTo_0 at hR ⊢
      exact ztX2_measure hk g hR (fun y1_0 h1 g1 => ih.2.1 _ _ _ g1 h1)
    · intro t li lj g hR
      have hR : wbX2_upTo_1 (wpX2_upTo k) k t li lj Q := hR
      show wbX2_upTo_1 (wpX2_upTo k) k t li lj (fun r t => Q r t ∧ G t)
      unfold wbX2_upTo_1 at hR ⊢
      exact ⟨fun c1 => ⟨(hR.1 c1), g⟩, fun c2 => ⟨(hR.2 c2).1, fun x3 e3 => ⟨((hR.2 c2).2 x3 e3).1, fun x4 e4 => ⟨fun c5 => ih.2.2 _ _ _ g ((((hR.2 c2).2 x3 e3).2 x4 e4).1 c5), fun c6 => ⟨((((hR.2 c2).2 x3 e3).2 x4 e4).2 c6).1, fun x7 e7 => wcX11_bit (((((hR.2 c2).2 x3 e3).2 x4 e4).2 c6).2 x7 e7) (fun y8_0 h8 => fun x9 e9 => ih.2.2 _ _ _ g (h8 x9 e9))⟩⟩⟩⟩⟩
    · intro t li lj g hR
      have hR : wbX2_upTo_2 (wpX2_upTo k) k t li lj Q := hR
      show wbX2_upTo_2 (wpX2_upTo k) k t li lj (fun r t => Q r t ∧ G t)
      unfold wbX2_upTo_2 at hR ⊢
      exact fun x1 e1 => ih.2.1 _ _ _ g (hR x1 e1)
theorem zgX2_upTo {G : XT → Prop} {k : Nat} {t : XT} {a1 : Int32} {Q : Int64 → XT → Prop} (hk : kpP G) (g : G t) (hR : wqX2_upTo k t a1 Q) : wqX2_upTo k t a1 (fun r t => Q r t ∧ G t) := (zfX2_upTo hk Q k).1 t _ _ g hR
theorem ztX2_upTo {G : XT → Prop} {k : Nat} {t : XT} {a1 : Int32} {Q Q' : Int64 → XT → Prop} (hk : kpP G) (g : G t) (hR : wqX2_upTo k t a1 Q) (hQ : (∀ r t, Q r t → G t → Q' r t)) : wqX2_upTo k t a1 Q' := wmX2_upTo (Nat.le_refl k) (fun r t h => hQ r t h.1 h.2) (zgX2_upTo hk g hR)
set_option maxHeartbeats 4000000 in
set_option maxRecDepth 100000 in
theorem zfX11_level {G : XT → Prop} (hk : kpP G) (Q : Int32 → XT → Prop) : ∀ k : Nat, (∀ (t : XT) (li : Nat → Int32) (lj : Nat → Int64), G t → wpX11_level k 0 t li lj Q → wpX11_level k 0 t li lj (fun r t => Q r t ∧ G t)) ∧ (∀ (t : XT) (li : Nat → Int32) (lj : Nat → Int64), G t → wpX11_level k 1 t li lj Q → wpX11_level k 1 t li lj (fun r t => Q r t ∧ G t)) := by
  intro k
  induction k with
  | zero => exact ⟨fun _ _ _ _ hR => False.elim hR, fun _ _ _ _ hR => False.elim hR⟩
  | succ k ih =>
    refine ⟨?_, ?_⟩
    · intro t li lj g hR
      have hR : wbX11_level_0 (wpX11_level k) k t li lj Q := hR
      show wbX11_level_0 (wpX11_level k) k t li lj (fun r t => Q r t ∧ G t)
      unfold wbX11_level_0 at hR ⊢
      exact ⟨fun c1 => ih.2 _ _ _ g (hR.1 c1), fun c2 => ⟨fun c3 => ih.2 _ _ _ g ((hR.2 c2).1 c3), fun c4 => ⟨fun c5 => ztX2_upTo hk g (((hR.2 c2).2 c4).1 c5) (fun y6_0 y6_1 h6 g6 => ⟨fun c7 => ztX9_eulerOf hk g6 (h6.1 c7) (fun y8_0 y8_1 h8 g8 => ⟨h8, g8⟩), fun c9 => wcJ13_bitCount_95d88 (h6.2 c9) (fun y10_0 h10 => ⟨h10, g6⟩)⟩), fun c11 => ih.2 _ _ _ g (((hR.2 c2).2 c4).2 c11)⟩⟩⟩
    · intro t li lj g hR
      have hR : wbX11_level_1 (wpX11_level k) k t li lj Q := hR
      show wbX11_level_1 (wpX11_level k) k t li lj (fun r t => Q r t ∧ G t)
      unfold wbX11_level_1 at hR ⊢
      exact ⟨hR, g⟩
theorem zgX11_level {G : XT → Prop} {k : Nat} {t : XT} {a1 : Int32} {a2 : Int32} {Q : Int32 → XT → Prop} (hk : kpP G) (g : G t) (hR : wqX11_level k t a1 a2 Q) : wqX11_level k t a1 a2 (fun r t => Q r t ∧ G t) := (zfX11_level hk Q k).1 t _ _ g hR
theorem ztX11_level {G : XT → Prop} {k : Nat} {t : XT} {a1 : Int32} {a2 : Int32} {Q Q' : Int32 → XT → Prop} (hk : kpP G) (g : G t) (hR : wqX11_level k t a1 a2 Q) (hQ : (∀ r t, Q r t → G t → Q' r t)) : wqX11_level k t a1 a2 Q' := wmX11_level (Nat.le_refl k) (fun r t h => hQ r t h.1 h.2) (zgX11_level hk g hR)
set_option maxHeartbeats 4000000 in
set_option maxRecDepth 100000 in
theorem zfX9_withFaces {G : XT → Prop} (hk : kpP G) (Q : Int64 → XT → Prop) : ∀ k : Nat, (∀ (t : XT) (li : Nat → Int32) (lj : Nat → Int64), G t → wpX9_withFaces k 0 t li lj Q → wpX9_withFaces k 0 t li lj (fun r t => Q r t ∧ G t)) ∧ (∀ (t : XT) (li : Nat → Int32) (lj : Nat → Int64), G t → wpX9_withFaces k 1 t li lj Q → wpX9_withFaces k 1 t li lj (fun r t => Q r t ∧ G t)) ∧ (∀ (t : XT) (li : Nat → Int32) (lj : Nat → Int64), G t → wpX9_withFaces k 2 t li lj Q → wpX9_withFaces k 2 t li lj (fun r t => Q r t ∧ G t)) := by
  intro k
  induction k with
  | zero => exact ⟨fun _ _ _ _ hR => False.elim hR, fun _ _ _ _ hR => False.elim hR, fun _ _ _ _ hR => False.elim hR⟩
  | succ k ih =>
    refine ⟨?_, ?_, ?_⟩
    · intro t li lj g hR
      have hR : wbX9_withFaces_0 (wpX9_withFaces k) k t li lj Q := hR
      show wbX9_withFaces_0 (wpX9_withFaces k) k t li lj (fun r t => Q r t ∧ G t)
      unfold wbX9_withFaces_0 at hR ⊢
      exact fun x1 e1 => ih.2.1 _ _ _ g (hR x1 e1)
    · intro t li lj g hR
      have hR : wbX9_withFaces_1 (wpX9_withFaces k) k t li lj Q := hR
      show wbX9_withFaces_1 (wpX9_withFaces k) k t li lj (fun r t => Q r t ∧ G t)
      unfold wbX9_withFaces_1 at hR ⊢
      exact ⟨fun c1 => ⟨(hR.1 c1), g⟩, fun c2 => wcX11_isIn (hR.2 c2) (fun y3_0 h3 => ⟨fun c4 => ih.2.2 _ _ _ g (h3.1 c4), fun c5 => ⟨(h3.2 c5).1, fun x6 e6 => fun x7 e7 => ih.2.2 _ _ _ g (((h3.2 c5).2 x6 e6) x7 e7)⟩⟩)⟩
    · intro t li lj g hR
      have hR : wbX9_withFaces_2 (wpX9_withFaces k) k t li lj Q := hR
      show wbX9_withFaces_2 (wpX9_withFaces k) k t li lj (fun r t => Q r t ∧ G t)
      unfold wbX9_withFaces_2 at hR ⊢
      exact fun x1 e1 => ih.2.1 _ _ _ g (hR x1 e1)
theorem zgX9_withFaces {G : XT → Prop} {k : Nat} {t : XT} {a1 : Int64} {Q : Int64 → XT → Prop} (hk : kpP G) (g : G t) (hR : wqX9_withFaces k t a1 Q) : wqX9_withFaces k t a1 (fun r t => Q r t ∧ G t) := (zfX9_withFaces hk Q k).1 t _ _ g hR
theorem ztX9_withFaces {G : XT → Prop} {k : Nat} {t : XT} {a1 : Int64} {Q Q' : Int64 → XT → Prop} (hk : kpP G) (g : G t) (hR : wqX9_withFaces k t a1 Q) (hQ : (∀ r t, Q r t → G t → Q' r t)) : wqX9_withFaces k t a1 Q' := wmX9_withFaces (Nat.le_refl k) (fun r t h => hQ r t h.1 h.2) (zgX9_withFaces hk g hR)
set_option maxHeartbeats 4000000 in
set_option maxRecDepth 100000 in
theorem zfX11_levelBetti {G : XT → Prop} (hk : kpP G) (Q : Int32 → XT → Prop) : ∀ k : Nat, (∀ (t : XT) (li : Nat → Int32) (lj : Nat → Int64), G t → wpX11_levelBetti k 0 t li lj Q → wpX11_levelBetti k 0 t li lj (fun r t => Q r t ∧ G t)) ∧ (∀ (t : XT) (li : Nat → Int32) (lj : Nat → Int64), G t → wpX11_levelBetti k 1 t li lj Q → wpX11_levelBetti k 1 t li lj (fun r t => Q r t ∧ G t)) := by
  intro k
  induction k with
  | zero => exact ⟨fun _ _ _ _ hR => False.elim hR, fun _ _ _ _ hR => False.elim hR⟩
  | succ k ih =>
    refine ⟨?_, ?_⟩
    · intro t li lj g hR
      have hR : wbX11_levelBetti_0 (wpX11_levelBetti k) k t li lj Q := hR
      show wbX11_levelBetti_0 (wpX11_levelBetti k) k t li lj (fun r t => Q r t ∧ G t)
      unfold wbX11_levelBetti_0 at hR ⊢
      exact ⟨fun c1 => ih.2 _ _ _ g (hR.1 c1), fun c2 => wcX11_isDim (hR.2 c2) (fun y3_0 h3 => ⟨fun c4 => ztX2_upTo hk g (h3.1 c4) (fun y5_0 y5_1 h5 g5 => ztX9_withFaces hk g5 h5 (fun y6_0 y6_1 h6 g6 => ztX0_bettiOf hk g6 h6 (fun y7_0 y7_1 h7 g7 => ⟨h7, g7⟩))), fun c8 => ih.2 _ _ _ g (h3.2 c8)⟩)⟩
    · intro t li lj g hR
      have hR : wbX11_levelBetti_1 (wpX11_levelBetti k) k t li lj Q := hR
      show wbX11_levelBetti_1 (wpX11_levelBetti k) k t li lj (fun r t => Q r t ∧ G t)
      unfold wbX11_levelBetti_1 at hR ⊢
      exact ⟨hR, g⟩
theorem zgX11_levelBetti {G : XT → Prop} {k : Nat} {t : XT} {a1 : Int32} {a2 : Int32} {Q : Int32 → XT → Prop} (hk : kpP G) (g : G t) (hR : wqX11_levelBetti k t a1 a2 Q) : wqX11_levelBetti k t a1 a2 (fun r t => Q r t ∧ G t) := (zfX11_levelBetti hk Q k).1 t _ _ g hR
theorem ztX11_levelBetti {G : XT → Prop} {k : Nat} {t : XT} {a1 : Int32} {a2 : Int32} {Q Q' : Int32 → XT → Prop} (hk : kpP G) (g : G t) (hR : wqX11_levelBetti k t a1 a2 Q) (hQ : (∀ r t, Q r t → G t → Q' r t)) : wqX11_levelBetti k t a1 a2 Q' := wmX11_levelBetti (Nat.le_refl k) (fun r t h => hQ r t h.1 h.2) (zgX11_levelBetti hk g hR)
set_option maxHeartbeats 4000000 in
set_option maxRecDepth 100000 in
theorem zfX6_howMany {G : XT → Prop} (hk : kpP G) (Q : Int32 → XT → Prop) : ∀ k : Nat, (∀ (t : XT) (li : Nat → Int32) (lj : Nat → Int64), G t → wpX6_howMany k 0 t li lj Q → wpX6_howMany k 0 t li lj (fun r t => Q r t ∧ G t)) := by
  intro k
  induction k with
  | zero => exact fun _ _ _ _ hR => False.elim hR
  | succ k ih =>
    intro t li lj g hR
    have hR : wbX6_howMany_0 (wpX6_howMany k) k t li lj Q := hR
    show wbX6_howMany_0 (wpX6_howMany k) k t li lj (fun r t => Q r t ∧ G t)
    unfold wbX6_howMany_0 at hR ⊢
    exact wcJ13_bitCount_95d88 hR (fun y1_0 h1 => ⟨h1, g⟩)
theorem zgX6_howMany {G : XT → Prop} {k : Nat} {t : XT}  {Q : Int32 → XT → Prop} (hk : kpP G) (g : G t) (hR : wqX6_howMany k t  Q) : wqX6_howMany k t  (fun r t => Q r t ∧ G t) := (zfX6_howMany hk Q k) t _ _ g hR
theorem ztX6_howMany {G : XT → Prop} {k : Nat} {t : XT}  {Q Q' : Int32 → XT → Prop} (hk : kpP G) (g : G t) (hR : wqX6_howMany k t  Q) (hQ : (∀ r t, Q r t → G t → Q' r t)) : wqX6_howMany k t  Q' := wmX6_howMany (Nat.le_refl k) (fun r t h => hQ r t h.1 h.2) (zgX6_howMany hk g hR)
set_option maxHeartbeats 4000000 in
set_option maxRecDepth 100000 in
theorem zfX4_shared_c4 {G : XT → Prop} (hk : kpP G) (Q : Int32 → XT → Prop) : ∀ k : Nat, (∀ (t : XT) (li : Nat → Int32) (lj : Nat → Int64), G t → wpX4_shared_c4 k 0 t li lj Q → wpX4_shared_c4 k 0 t li lj (fun r t => Q r t ∧ G t)) ∧ (∀ (t : XT) (li : Nat → Int32) (lj : Nat → Int64), G t → wpX4_shared_c4 k 1 t li lj Q → wpX4_shared_c4 k 1 t li lj (fun r t => Q r t ∧ G t)) ∧ (∀ (t : XT) (li : Nat → Int32) (lj : Nat → Int64), G t → wpX4_shared_c4 k 2 t li lj Q → wpX4_shared_c4 k 2 t li lj (fun r t => Q r t ∧ G t)) := by
  intro k
  induction k with
  | zero => exact ⟨fun _ _ _ _ hR => False.elim hR, fun _ _ _ _ hR => False.elim hR, fun _ _ _ _ hR => False.elim hR⟩
  | succ k ih =>
    refine ⟨?_, ?_, ?_⟩
    · intro t li lj g hR
      have hR : wbX4_shared_c4_0 (wpX4_shared_c4 k) k t li lj Q := hR
      show wbX4_shared_c4_0 (wpX4_shared_c4 k) k t li lj (fun r t => Q r t ∧ G t)
      unfold wbX4_shared_c4_0 at hR ⊢
      exact ih.2.1 _ _ _ g hR
    · intro t li lj g hR
      have hR : wbX4_shared_c4_1 (wpX4_shared_c4 k) k t li lj Q := hR
      show wbX4_shared_c4_1 (wpX4_shared_c4 k) k t li lj (fun r t => Q r t ∧ G t)
      unfold wbX4_shared_c4_1 at hR ⊢
      exact ⟨fun c1 => ⟨(hR.1 c1), g⟩, fun c2 => ⟨(hR.2 c2).1, fun x3 e3 => ⟨fun c4 => ih.2.2 _ _ _ g (((hR.2 c2).2 x3 e3).1 c4), fun c5 => ⟨(((hR.2 c2).2 x3 e3).2 c5).1, fun x6 e6 => fun x7 e7 => fun x8 e8 => ⟨((((((hR.2 c2).2 x3 e3).2 c5).2 x6 e6) x7 e7) x8 e8).1, fun x9 e9 => ⟨fun c10 => ih.2.2 _ _ _ g ((((((((hR.2 c2).2 x3 e3).2 c5).2 x6 e6) x7 e7) x8 e8).2 x9 e9).1 c10), fun c11 => fun x12 e12 => ih.2.2 _ _ _ g (((((((((hR.2 c2).2 x3 e3).2 c5).2 x6 e6) x7 e7) x8 e8).2 x9 e9).2 c11) x12 e12)⟩⟩⟩⟩⟩⟩
    · intro t li lj g hR
      have hR : wbX4_shared_c4_2 (wpX4_shared_c4 k) k t li lj Q := hR
      show wbX4_shared_c4_2 (wpX4_shared_c4 k) k t li lj (fun r t => Q r t ∧ G t)
      unfold wbX4_shared_c4_2 at hR ⊢
      exact fun x1 e1 => ih.2.1 _ _ _ g (hR x1 e1)
theorem zgX4_shared_c4 {G : XT → Prop} {k : Nat} {t : XT} {a1 : Int32} {Q : Int32 → XT → Prop} (hk : kpP G) (g : G t) (hR : wqX4_shared_c4 k t a1 Q) : wqX4_shared_c4 k t a1 (fun r t => Q r t ∧ G t) := (zfX4_shared_c4 hk Q k).1 t _ _ g hR
theorem ztX4_shared_c4 {G : XT → Prop} {k : Nat} {t : XT} {a1 : Int32} {Q Q' : Int32 → XT → Prop} (hk : kpP G) (g : G t) (hR : wqX4_shared_c4 k t a1 Q) (hQ : (∀ r t, Q r t → G t → Q' r t)) : wqX4_shared_c4 k t a1 Q' := wmX4_shared_c4 (Nat.le_refl k) (fun r t h => hQ r t h.1 h.2) (zgX4_shared_c4 hk g hR)
set_option maxHeartbeats 4000000 in
set_option maxRecDepth 100000 in
theorem zfX11_same {G : XT → Prop} (hk : kpP G) (Q : Int32 → XT → Prop) : ∀ k : Nat, (∀ (t : XT) (li : Nat → Int32) (lj : Nat → Int64), G t → wpX11_same k 0 t li lj Q → wpX11_same k 0 t li lj (fun r t => Q r t ∧ G t)) ∧ (∀ (t : XT) (li : Nat → Int32) (lj : Nat → Int64), G t → wpX11_same k 1 t li lj Q → wpX11_same k 1 t li lj (fun r t => Q r t ∧ G t)) := by
  intro k
  induction k with
  | zero => exact ⟨fun _ _ _ _ hR => False.elim hR, fun _ _ _ _ hR => False.elim hR⟩
  | succ k ih =>
    refine ⟨?_, ?_⟩
    · intro t li lj g hR
      have hR : wbX11_same_0 (wpX11_same k) k t li lj Q := hR
      show wbX11_same_0 (wpX11_same k) k t li lj (fun r t => Q r t ∧ G t)
      unfold wbX11_same_0 at hR ⊢
      exact ⟨fun c1 => ih.2 _ _ _ g (hR.1 c1), fun c2 => ⟨fun c3 => wcX11_isIn ((hR.2 c2).1 c3) (fun y4_0 h4 => ⟨fun c5 => ztX4_shared_c4 hk g (h4.1 c5) (fun y6_0 y6_1 h6 g6 => ⟨h6, g6⟩), fun c7 => ⟨(h4.2 c7), g⟩⟩), fun c8 => ih.2 _ _ _ g ((hR.2 c2).2 c8)⟩⟩
    · intro t li lj g hR
      have hR : wbX11_same_1 (wpX11_same k) k t li lj Q := hR
      show wbX11_same_1 (wpX11_same k) k t li lj (fun r t => Q r t ∧ G t)
      unfold wbX11_same_1 at hR ⊢
      exact ⟨hR, g⟩
theorem zgX11_same {G : XT → Prop} {k : Nat} {t : XT} {a1 : Int32} {Q : Int32 → XT → Prop} (hk : kpP G) (g : G t) (hR : wqX11_same k t a1 Q) : wqX11_same k t a1 (fun r t => Q r t ∧ G t) := (zfX11_same hk Q k).1 t _ _ g hR
theorem ztX11_same {G : XT → Prop} {k : Nat} {t : XT} {a1 : Int32} {Q Q' : Int32 → XT → Prop} (hk : kpP G) (g : G t) (hR : wqX11_same k t a1 Q) (hQ : (∀ r t, Q r t → G t → Q' r t)) : wqX11_same k t a1 Q' := wmX11_same (Nat.le_refl k) (fun r t h => hQ r t h.1 h.2) (zgX11_same hk g hR)
set_option maxHeartbeats 4000000 in
set_option maxRecDepth 100000 in
theorem zfX9_hangingWith {G : XT → Prop} (hk : kpP G) (Q : Int64 → XT → Prop) : ∀ k : Nat, (∀ (t : XT) (li : Nat → Int32) (lj : Nat → Int64), G t → wpX9_hangingWith k 0 t li lj Q → wpX9_hangingWith k 0 t li lj (fun r t => Q r t ∧ G t)) ∧ (∀ (t : XT) (li : Nat → Int32) (lj : Nat → Int64), G t → wpX9_hangingWith k 1 t li lj Q → wpX9_hangingWith k 1 t li lj (fun r t => Q r t ∧ G t)) ∧ (∀ (t : XT) (li : Nat → Int32) (lj : Nat → Int64), G t → wpX9_hangingWith k 2 t li lj Q → wpX9_hangingWith k 2 t li lj (fun r t => Q r t ∧ G t)) := by
  intro k
  induction k with
  | zero => exact ⟨fun _ _ _ _ hR => False.elim hR, fun _ _ _ _ hR => False.elim hR, fun _ _ _ _ hR => False.elim hR⟩
  | succ k ih =>
    refine ⟨?_, ?_, ?_⟩
    · intro t li lj g hR
      have hR : wbX9_hangingWith_0 (wpX9_hangingWith k) k t li lj Q := hR
      show wbX9_hangingWith_0 (wpX9_hangingWith k) k t li lj (fun r t => Q r t ∧ G t)
      unfold wbX9_hangingWith_0 at hR ⊢
      exact wcX11_bit hR (fun y1_0 h1 => ih.2.1 _ _ _ g h1)
    · intro t li lj g hR
      have hR : wbX9_hangingWith_1 (wpX9_hangingWith k) k t li lj Q := hR
      show wbX9_hangingWith_1 (wpX9_hangingWith k) k t li lj (fun r t => Q r t ∧ G t)
      unfold wbX9_hangingWith_1 at hR ⊢
      exact ⟨fun c1 => ih.2.2 _ _ _ g (hR.1 c1), fun c2 => fun x3 e3 => ⟨fun c4 => ih.2.2 _ _ _ g (((hR.2 c2) x3 e3).1 c4), fun c5 => wcX11_lowest (((hR.2 c2) x3 e3).2 c5) (fun y6_0 h6 => ⟨h6.1, fun x7 e7 => ⟨(h6.2 x7 e7).1, fun x8 e8 => fun x9 e9 => fun x10 e10 => fun x11 e11 => fun x12 e12 => fun x13 e13 => fun x14 e14 => wcX11_bit ((((((((h6.2 x7 e7).2 x8 e8) x9 e9) x10 e10) x11 e11) x12 e12) x13 e13) x14 e14) (fun y15_0 h15 => fun x16 e16 => fun x17 e17 => fun x18 e18 => ih.2.1 _ _ _ g (((h15 x16 e16) x17 e17) x18 e18))⟩⟩)⟩⟩
    · intro t li lj g hR
      have hR : wbX9_hangingWith_2 (wpX9_hangingWith k) k t li lj Q := hR
      show wbX9_hangingWith_2 (wpX9_hangingWith k) k t li lj (fun r t => Q r t ∧ G t)
      unfold wbX9_hangingWith_2 at hR ⊢
      exact ⟨hR, g⟩
theorem zgX9_hangingWith {G : XT → Prop} {k : Nat} {t : XT} {a1 : Int32} {a2 : Int64} {Q : Int64 → XT → Prop} (hk : kpP G) (g : G t) (hR : wqX9_hangingWith k t a1 a2 Q) : wqX9_hangingWith k t a1 a2 (fun r t => Q r t ∧ G t) := (zfX9_hangingWith hk Q k).1 t _ _ g hR
theorem ztX9_hangingWith {G : XT → Prop} {k : Nat} {t : XT} {a1 : Int32} {a2 : Int64} {Q Q' : Int64 → XT → Prop} (hk : kpP G) (g : G t) (hR : wqX9_hangingWith k t a1 a2 Q) (hQ : (∀ r t, Q r t → G t → Q' r t)) : wqX9_hangingWith k t a1 a2 Q' := wmX9_hangingWith (Nat.le_refl k) (fun r t h => hQ r t h.1 h.2) (zgX9_hangingWith hk g hR)
set_option maxHeartbeats 4000000 in
set_option maxRecDepth 100000 in
theorem zfX9_partsOf {G : XT → Prop} (hk : kpP G) (Q : Int32 → XT → Prop) : ∀ k : Nat, (∀ (t : XT) (li : Nat → Int32) (lj : Nat → Int64), G t → wpX9_partsOf k 0 t li lj Q → wpX9_partsOf k 0 t li lj (fun r t => Q r t ∧ G t)) ∧ (∀ (t : XT) (li : Nat → Int32) (lj : Nat → Int64), G t → wpX9_partsOf k 1 t li lj Q → wpX9_partsOf k 1 t li lj (fun r t => Q r t ∧ G t)) ∧ (∀ (t : XT) (li : Nat → Int32) (lj : Nat → Int64), G t → wpX9_partsOf k 2 t li lj Q → wpX9_partsOf k 2 t li lj (fun r t => Q r t ∧ G t)) := by
  intro k
  induction k with
  | zero => exact ⟨fun _ _ _ _ hR => False.elim hR, fun _ _ _ _ hR => False.elim hR, fun _ _ _ _ hR => False.elim hR⟩
  | succ k ih =>
    refine ⟨?_, ?_, ?_⟩
    · intro t li lj g hR
      have hR : wbX9_partsOf_0 (wpX9_partsOf k) k t li lj Q := hR
      show wbX9_partsOf_0 (wpX9_partsOf k) k t li lj (fun r t => Q r t ∧ G t)
      unfold wbX9_partsOf_0 at hR ⊢
      exact ih.2.1 _ _ _ g hR
    · intro t li lj g hR
      have hR : wbX9_partsOf_1 (wpX9_partsOf k) k t li lj Q := hR
      show wbX9_partsOf_1 (wpX9_partsOf k) k t li lj (fun r t => Q r t ∧ G t)
      unfold wbX9_partsOf_1 at hR ⊢
      exact fun x1 e1 => ⟨fun c2 => ih.2.2 _ _ _ g ((hR x1 e1).1 c2), fun c3 => ⟨fun c4 => ih.2.2 _ _ _ g (((hR x1 e1).2 c3).1 c4), fun c5 => wcX11_lowest (((hR x1 e1).2 c3).2 c5) (fun y6_0 h6 => ztX9_hangingWith hk g h6 (fun y7_0 y7_1 h7 g7 => fun x8 e8 => fun x9 e9 => fun x10 e10 => ih.2.1 _ _ _ g7 (((h7 x8 e8) x9 e9) x10 e10)))⟩⟩
    · intro t li lj g hR
      have hR : wbX9_partsOf_2 (wpX9_partsOf k) k t li lj Q := hR
      show wbX9_partsOf_2 (wpX9_partsOf k) k t li lj (fun r t => Q r t ∧ G t)
      unfold wbX9_partsOf_2 at hR ⊢
      exact ⟨hR, g⟩
theorem zgX9_partsOf {G : XT → Prop} {k : Nat} {t : XT} {a1 : Int64} {Q : Int32 → XT → Prop} (hk : kpP G) (g : G t) (hR : wqX9_partsOf k t a1 Q) : wqX9_partsOf k t a1 (fun r t => Q r t ∧ G t) := (zfX9_partsOf hk Q k).1 t _ _ g hR
theorem ztX9_partsOf {G : XT → Prop} {k : Nat} {t : XT} {a1 : Int64} {Q Q' : Int32 → XT → Prop} (hk : kpP G) (g : G t) (hR : wqX9_partsOf k t a1 Q) (hQ : (∀ r t, Q r t → G t → Q' r t)) : wqX9_partsOf k t a1 Q' := wmX9_partsOf (Nat.le_refl k) (fun r t h => hQ r t h.1 h.2) (zgX9_partsOf hk g hR)
set_option maxHeartbeats 4000000 in
set_option maxRecDepth 100000 in
theorem zfX11_count {G : XT → Prop} (hk : kpP G) (Q : Int32 → XT → Prop) : ∀ k : Nat, (∀ (t : XT) (li : Nat → Int32) (lj : Nat → Int64), G t → wpX11_count k 0 t li lj Q → wpX11_count k 0 t li lj (fun r t => Q r t ∧ G t)) := by
  intro k
  induction k with
  | zero => exact fun _ _ _ _ hR => False.elim hR
  | succ k ih =>
    intro t li lj g hR
    have hR : wbX11_count_0 (wpX11_count k) k t li lj Q := hR
    show wbX11_count_0 (wpX11_count k) k t li lj (fun r t => Q r t ∧ G t)
    unfold wbX11_count_0 at hR ⊢
    exact ⟨fun c1 => ⟨(hR.1 c1), g⟩, fun c2 => ⟨(hR.2.1 c2), g⟩, fun c3 => wcJ13_bitCount_95d88 (hR.2.2.1 c3) (fun y4_0 h4 => ⟨h4, g⟩), fun c5 => ztX9_greatestDim hk g (hR.2.2.2.1 c5) (fun y6_0 y6_1 h6 g6 => ⟨h6, g6⟩), fun c7 => ztX6_howMany hk g (hR.2.2.2.2.1 c7) (fun y8_0 y8_1 h8 g8 => ⟨h8, g8⟩), fun c9 => ztX11_criticalOnes hk g (hR.2.2.2.2.2.1 c9) (fun y10_0 y10_1 h10 g10 => ⟨h10, g10⟩), fun c11 => ztX9_eulerOf hk g (hR.2.2.2.2.2.2.1 c11) (fun y12_0 y12_1 h12 g12 => ⟨h12, g12⟩), fun c13 => ztX9_partsOf hk g (hR.2.2.2.2.2.2.2.1 c13) (fun y14_0 y14_1 h14 g14 => ⟨h14, g14⟩), fun c15 => ⟨(hR.2.2.2.2.2.2.2.2.1 c15), g⟩, fun c16 => ⟨(hR.2.2.2.2.2.2.2.2.2.1 c16), g⟩, fun c17 => ⟨(hR.2.2.2.2.2.2.2.2.2.2 c17), g⟩⟩
theorem zgX11_count {G : XT → Prop} {k : Nat} {t : XT} {a1 : Int32} {Q : Int32 → XT → Prop} (hk : kpP G) (g : G t) (hR : wqX11_count k t a1 Q) : wqX11_count k t a1 (fun r t => Q r t ∧ G t) := (zfX11_count hk Q k) t _ _ g hR
theorem ztX11_count {G : XT → Prop} {k : Nat} {t : XT} {a1 : Int32} {Q Q' : Int32 → XT → Prop} (hk : kpP G) (g : G t) (hR : wqX11_count k t a1 Q) (hQ : (∀ r t, Q r t → G t → Q' r t)) : wqX11_count k t a1 Q' := wmX11_count (Nat.le_refl k) (fun r t h => hQ r t h.1 h.2) (zgX11_count hk g hR)
