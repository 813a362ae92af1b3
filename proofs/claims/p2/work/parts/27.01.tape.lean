set_option maxHeartbeats 4000000 in
set_option maxRecDepth 100000 in
theorem vfX11_part {G : XT → Prop} (hk : kpA G) (Q : Int32 → XT → Prop) : ∀ k : Nat, (∀ (t : XT) (li : Nat → Int32) (lj : Nat → Int64), G t → wpX11_part k 0 t li lj Q → wpX11_part k 0 t li lj (fun r t => Q r t ∧ G t)) ∧ (∀ (t : XT) (li : Nat → Int32) (lj : Nat → Int64), G t → wpX11_part k 1 t li lj Q → wpX11_part k 1 t li lj (fun r t => Q r t ∧ G t)) := by
  intro k
  induction k with
  | zero => exact ⟨fun _ _ _ _ hR => False.elim hR, fun _ _ _ _ hR => False.elim hR⟩
  | succ k ih =>
    refine ⟨?_, ?_⟩
    · intro t li lj g hR
      have hR : wbX11_part_0 (wpX11_part k) k t li lj Q := hR
      show wbX11_part_0 (wpX11_part k) k t li lj (fun r t => Q r t ∧ G t)
      unfold wbX11_part_0 at hR ⊢
      exact vtX11_isThere hk g hR (fun y1_0 y1_1 h1 g1 => ⟨fun c2 => ih.2 _ _ _ g1 (h1.1 c2), fun c3 => ⟨(h1.2 c3).1, fun x4 e4 => ⟨fun c5 => vtX3_save_c4 hk g1 (((h1.2 c3).2 x4 e4).1 c5) (fun y6_0 h6 g6 => vtX6_divide hk g6 h6 (fun y7_0 h7 g7 => vtX11_criticalOnes hk g7 h7 (fun y8_0 y8_1 h8 g8 => ⟨h8, g8⟩))), fun c9 => ih.2 _ _ _ g1 (((h1.2 c3).2 x4 e4).2 c9)⟩⟩⟩)
    · intro t li lj g hR
      have hR : wbX11_part_1 (wpX11_part k) k t li lj Q := hR
      show wbX11_part_1 (wpX11_part k) k t li lj (fun r t => Q r t ∧ G t)
      unfold wbX11_part_1 at hR ⊢
      exact ⟨hR, g⟩
theorem vgX11_part {G : XT → Prop} {k : Nat} {t : XT} {a1 : Int32} {Q : Int32 → XT → Prop} (hk : kpA G) (g : G t) (hR : wqX11_part k t a1 Q) : wqX11_part k t a1 (fun r t => Q r t ∧ G t) := (vfX11_part hk Q k).1 t _ _ g hR
theorem vtX11_part {G : XT → Prop} {k : Nat} {t : XT} {a1 : Int32} {Q Q' : Int32 → XT → Prop} (hk : kpA G) (g : G t) (hR : wqX11_part k t a1 Q) (hQ : (∀ r t, Q r t → G t → Q' r t)) : wqX11_part k t a1 Q' := wmX11_part (Nat.le_refl k) (fun r t h => hQ r t h.1 h.2) (vgX11_part hk g hR)
set_option maxHeartbeats 4000000 in
set_option maxRecDepth 100000 in
theorem vfX7_lookAgain {G : XT → Prop} (hk : kpA G) (Q : XT → Prop) : ∀ k : Nat, (∀ (t : XT) (li : Nat → Int32) (lj : Nat → Int64), G t → wpX7_lookAgain k 0 t li lj Q → wpX7_lookAgain k 0 t li lj (fun t => Q t ∧ G t)) ∧ (∀ (t : XT) (li : Nat → Int32) (lj : Nat → Int64), G t → wpX7_lookAgain k 1 t li lj Q → wpX7_lookAgain k 1 t li lj (fun t => Q t ∧ G t)) ∧ (∀ (t : XT) (li : Nat → Int32) (lj : Nat → Int64), G t → wpX7_lookAgain k 2 t li lj Q → wpX7_lookAgain k 2 t li lj (fun t => Q t ∧ G t)) := by
  intro k
  induction k with
  | zero => exact ⟨fun _ _ _ _ hR => False.elim hR, fun _ _ _ _ hR => False.elim hR, fun _ _ _ _ hR => False.elim hR⟩
  | succ k ih =>
    refine ⟨?_, ?_, ?_⟩
    · intro t li lj g hR
      have hR : wbX7_lookAgain_0 (wpX7_lookAgain k) k t li lj Q := hR
      show wbX7_lookAgain_0 (wpX7_lookAgain k) k t li lj (fun t => Q t ∧ G t)
      unfold wbX7_lookAgain_0 at hR ⊢
      exact ih.2.1 _ _ _ g hR
    · intro t li lj g hR
      have hR : wbX7_lookAgain_1 (wpX7_lookAgain k) k t li lj Q := hR
      show wbX7_lookAgain_1 (wpX7_lookAgain k) k t li lj (fun t => Q t ∧ G t)
      unfold wbX7_lookAgain_1 at hR ⊢
      exact ⟨fun c1 => ⟨(hR.1 c1), g⟩, fun c2 => fun x3 e3 => ⟨fun c4 => ⟨(((hR.2 c2) x3 e3).1 c4), g⟩, fun c5 => wcX11_lowest (((hR.2 c2) x3 e3).2 c5) (fun y6_0 h6 => fun x7 e7 => fun x8 e8 => ⟨((h6 x7 e7) x8 e8).1, fun x9 e9 => fun x10 e10 => wcJ13_bitCount_95d88 ((((h6 x7 e7) x8 e8).2 x9 e9) x10 e10) (fun y11_0 h11 => ⟨fun c12 => wcX11_bit (h11.1 c12) (fun y13_0 h13 => fun x14 e14 => fun x15 e15 => fun x16 e16 => have g16 : G x16 := (by rw [e16]; exact hk.2.1 _ _ _ g); ih.2.2 _ _ _ g16 (((h13 x14 e14) x15 e15) x16 e16)), fun c17 => wcX11_bit (h11.2 c17) (fun y18_0 h18 => fun x19 e19 => fun x20 e20 => have g20 : G x20 := (by rw [e20]; exact hk.2.1 _ _ _ g); ih.2.2 _ _ _ g20 ((h18 x19 e19) x20 e20))⟩)⟩)⟩⟩
    · intro t li lj g hR
      have hR : wbX7_lookAgain_2 (wpX7_lookAgain k) k t li lj Q := hR
      show wbX7_lookAgain_2 (wpX7_lookAgain k) k t li lj (fun t => Q t ∧ G t)
      unfold wbX7_lookAgain_2 at hR ⊢
      exact fun x1 e1 => ih.2.1 _ _ _ g (hR x1 e1)
theorem vgX7_lookAgain {G : XT → Prop} {k : Nat} {t : XT} {a1 : Int64} {Q : XT → Prop} (hk : kpA G) (g : G t) (hR : wqX7_lookAgain k t a1 Q) : wqX7_lookAgain k t a1 (fun t => Q t ∧ G t) := (vfX7_lookAgain hk Q k).1 t _ _ g hR
theorem vtX7_lookAgain {G : XT → Prop} {k : Nat} {t : XT} {a1 : Int64} {Q Q' : XT → Prop} (hk : kpA G) (g : G t) (hR : wqX7_lookAgain k t a1 Q) (hQ : (∀ t, Q t → G t → Q' t)) : wqX7_lookAgain k t a1 Q' := wmX7_lookAgain (Nat.le_refl k) (fun t h => hQ t h.1 h.2) (vgX7_lookAgain hk g hR)
set_option maxHeartbeats 4000000 in
set_option maxRecDepth 100000 in
theorem vfX7_begin {G : XT → Prop} (hk : kpA G) (Q : XT → Prop) : ∀ k : Nat, (∀ (t : XT) (li : Nat → Int32) (lj : Nat → Int64), G t → wpX7_begin k 0 t li lj Q → wpX7_begin k 0 t li lj (fun t => Q t ∧ G t)) := by
  intro k
  induction k with
  | zero => exact fun _ _ _ _ hR => False.elim hR
  | succ k ih =>
    intro t li lj g hR
    have hR : wbX7_begin_0 (wpX7_begin k) k t li lj Q := hR
    show wbX7_begin_0 (wpX7_begin k) k t li lj (fun t => Q t ∧ G t)
    unfold wbX7_begin_0 at hR ⊢
    exact fun x1 e1 => have g1 : G x1 := (by rw [e1]; exact hk.2.1 _ _ _ g); fun x2 e2 => have g2 : G x2 := (by rw [e2]; exact hk.2.1 _ _ _ g1); vtX7_lookAgain hk g2 ((hR x1 e1) x2 e2) (fun y3_0 h3 g3 => ⟨h3, g3⟩)
theorem vgX7_begin {G : XT → Prop} {k : Nat} {t : XT} {a1 : Int64} {Q : XT → Prop} (hk : kpA G) (g : G t) (hR : wqX7_begin k t a1 Q) : wqX7_begin k t a1 (fun t => Q t ∧ G t) := (vfX7_begin hk Q k) t _ _ g hR
theorem vtX7_begin {G : XT → Prop} {k : Nat} {t : XT} {a1 : Int64} {Q Q' : XT → Prop} (hk : kpA G) (g : G t) (hR : wqX7_begin k t a1 Q) (hQ : (∀ t, Q t → G t → Q' t)) : wqX7_begin k t a1 Q' := wmX7_begin (Nat.le_refl k) (fun t h => hQ t h.1 h.2) (vgX7_begin hk g hR)
set_option maxHeartbeats 4000000 in
set_option maxRecDepth 100000 in
theorem vfX7_close {G : XT → Prop} (hk : kpA G) (Q : XT → Prop) : ∀ k : Nat, (∀ (t : XT) (li : Nat → Int32) (lj : Nat → Int64), G t → wpX7_close k 0 t li lj Q → wpX7_close k 0 t li lj (fun t => Q t ∧ G t)) := by
  intro k
  induction k with
  | zero => exact fun _ _ _ _ hR => False.elim hR
  | succ k ih =>
    intro t li lj g hR
    have hR : wbX7_close_0 (wpX7_close k) k t li lj Q := hR
    show wbX7_close_0 (wpX7_close k) k t li lj (fun t => Q t ∧ G t)
    unfold wbX7_close_0 at hR ⊢
    exact wcX11_bit hR (fun y1_0 h1 => fun x2 e2 => fun x3 e3 => fun x4 e4 => have g4 : G x4 := (by rw [e4]; exact hk.2.1 _ _ _ g); wcX11_bit (((h1 x2 e2) x3 e3) x4 e4) (fun y5_0 h5 => fun x6 e6 => fun x7 e7 => fun x8 e8 => have g8 : G x8 := (by rw [e8]; exact hk.2.1 _ _ _ g4); ⟨(((h5 x6 e6) x7 e7) x8 e8).1, fun x9 e9 => fun x10 e10 => vtX7_lookAgain hk g8 (((((h5 x6 e6) x7 e7) x8 e8).2 x9 e9) x10 e10) (fun y11_0 h11 g11 => ⟨h11, g11⟩)⟩))
theorem vgX7_close {G : XT → Prop} {k : Nat} {t : XT} {a1 : Int32} {Q : XT → Prop} (hk : kpA G) (g : G t) (hR : wqX7_close k t a1 Q) : wqX7_close k t a1 (fun t => Q t ∧ G t) := (vfX7_close hk Q k) t _ _ g hR
theorem vtX7_close {G : XT → Prop} {k : Nat} {t : XT} {a1 : Int32} {Q Q' : XT → Prop} (hk : kpA G) (g : G t) (hR : wqX7_close k t a1 Q) (hQ : (∀ t, Q t → G t → Q' t)) : wqX7_close k t a1 Q' := wmX7_close (Nat.le_refl k) (fun t h => hQ t h.1 h.2) (vgX7_close hk g hR)
set_option maxHeartbeats 4000000 in
set_option maxRecDepth 100000 in
theorem vfX7_above {G : XT → Prop} (hk : kpA G) (Q : Int32 → XT → Prop) : ∀ k : Nat, (∀ (t : XT) (li : Nat → Int32) (lj : Nat → Int64), G t → wpX7_above k 0 t li lj Q → wpX7_above k 0 t li lj (fun r t => Q r t ∧ G t)) := by
  intro k
  induction k with
  | zero => exact fun _ _ _ _ hR => False.elim hR
  | succ k ih =>
    intro t li lj g hR
    have hR : wbX7_above_0 (wpX7_above k) k t li lj Q := hR
    show wbX7_above_0 (wpX7_above k) k t li lj (fun r t => Q r t ∧ G t)
    unfold wbX7_above_0 at hR ⊢
    exact ⟨hR.1, fun x1 e1 => fun x2 e2 => wcX11_lowest ((hR.2 x1 e1) x2 e2) (fun y3_0 h3 => ⟨h3, g⟩)⟩
theorem vgX7_above {G : XT → Prop} {k : Nat} {t : XT} {a1 : Int32} {Q : Int32 → XT → Prop} (hk : kpA G) (g : G t) (hR : wqX7_above k t a1 Q) : wqX7_above k t a1 (fun r t => Q r t ∧ G t) := (vfX7_above hk Q k) t _ _ g hR
theorem vtX7_above {G : XT → Prop} {k : Nat} {t : XT} {a1 : Int32} {Q Q' : Int32 → XT → Prop} (hk : kpA G) (g : G t) (hR : wqX7_above k t a1 Q) (hQ : (∀ r t, Q r t → G t → Q' r t)) : wqX7_above k t a1 Q' := wmX7_above (Nat.le_refl k) (fun r t h => hQ r t h.1 h.2) (vgX7_above hk g hR)
set_option maxHeartbeats 4000000 in
set_option maxRecDepth 100000 in
theorem vfX11_pairByPeeling {G : XT → Prop} (hk : kpA G) (Q : XT → Prop) : ∀ k : Nat, (∀ (t : XT) (li : Nat → Int32) (lj : Nat → Int64), G t → wpX11_pairByPeeling k 0 t li lj Q → wpX11_pairByPeeling k 0 t li lj (fun t => Q t ∧ G t)) ∧ (∀ (t : XT) (li : Nat → Int32) (lj : Nat → Int64), G t → wpX11_pairByPeeling k 1 t li lj Q → wpX11_pairByPeeling k 1 t li lj (fun t => Q t ∧ G t)) ∧ (∀ (t : XT) (li : Nat → Int32) (lj : Nat → Int64), G t → wpX11_pairByPeeling k 2 t li lj Q → wpX11_pairByPeeling k 2 t li lj (fun t => Q t ∧ G t)) := by
  intro k
  induction k with
  | zero => exact ⟨fun _ _ _ _ hR => False.elim hR, fun _ _ _ _ hR => False.elim hR, fun _ _ _ _ hR => False.elim hR⟩
  | succ k ih =>
    refine ⟨?_, ?_, ?_⟩
    · intro t li lj g hR
      have hR : wbX11_pairByPeeling_0 (wpX11_pairByPeeling k) k t li lj Q := hR
      show wbX11_pairByPeeling_0 (wpX11_pairByPeeling k) k t li lj (fun t => Q t ∧ G t)
      unfold wbX11_pairByPeeling_0 at hR ⊢
      exact vtX7_begin hk g hR (fun y1_0 h1 g1 => ih.2.1 _ _ _ g1 h1)
    · intro t li lj g hR
      have hR : wbX11_pairByPeeling_1 (wpX11_pairByPeeling k) k t li lj Q := hR
      show wbX11_pairByPeeling_1 (wpX11_pairByPeeling k) k t li lj (fun t => Q t ∧ G t)
      unfold wbX11_pairByPeeling_1 at hR ⊢
      exact ⟨fun c1 => ⟨(hR.1 c1), g⟩, fun c2 => fun x3 e3 => ⟨fun c4 => ⟨(((hR.2 c2) x3 e3).1 c4), g⟩, fun c5 => fun x6 e6 => ⟨fun c7 => wcJ13_bitCount_95d88 (((((hR.2 c2) x3 e3).2 c5) x6 e6).1 c7) (fun y8_0 h8 => fun x9 e9 => wcX11_nth (h8 x9 e9) (fun y10_0 h10 => vtX7_close hk g h10 (fun y11_0 h11 g11 => ih.2.2 _ _ _ g11 h11))), fun c12 => wcX11_lowest (((((hR.2 c2) x3 e3).2 c5) x6 e6).2 c12) (fun y13_0 h13 => vtX7_above hk g h13 (fun y14_0 y14_1 h14 g14 => vtX6_unite hk g14 h14 (fun y15_0 h15 g15 => vtX7_close hk g15 h15 (fun y16_0 h16 g16 => vtX7_close hk g16 h16 (fun y17_0 h17 g17 => ih.2.2 _ _ _ g17 h17)))))⟩⟩⟩
    · intro t li lj g hR
      have hR : wbX11_pairByPeeling_2 (wpX11_pairByPeeling k) k t li lj Q := hR
      show wbX11_pairByPeeling_2 (wpX11_pairByPeeling k) k t li lj (fun t => Q t ∧ G t)
      unfold wbX11_pairByPeeling_2 at hR ⊢
      exact fun x1 e1 => ih.2.1 _ _ _ g (hR x1 e1)
theorem vgX11_pairByPeeling {G : XT → Prop} {k : Nat} {t : XT}  {Q : XT → Prop} (hk : kpA G) (g : G t) (hR : wqX11_pairByPeeling k t  Q) : wqX11_pairByPeeling k t  (fun t => Q t ∧ G t) := (vfX11_pairByPeeling hk Q k).1 t _ _ g hR
theorem vtX11_pairByPeeling {G : XT → Prop} {k : Nat} {t : XT}  {Q Q' : XT → Prop} (hk : kpA G) (g : G t) (hR : wqX11_pairByPeeling k t  Q) (hQ : (∀ t, Q t → G t → Q' t)) : wqX11_pairByPeeling k t  Q' := wmX11_pairByPeeling (Nat.le_refl k) (fun t h => hQ t h.1 h.2) (vgX11_pairByPeeling hk g hR)
set_option maxHeartbeats 4000000 in
set_option maxRecDepth 100000 in
theorem vfX11_pairDownwards {G : XT → Prop} (hk : kpA G) (Q : XT → Prop) : ∀ k : Nat, (∀ (t : XT) (li : Nat → Int32) (lj : Nat → Int64), G t → wpX11_pairDownwards k 0 t li lj Q → wpX11_pairDownwards k 0 t li lj (fun t => Q t ∧ G t)) ∧ (∀ (t : XT) (li : Nat → Int32) (lj : Nat → Int64), G t → wpX11_pairDownwards k 1 t li lj Q → wpX11_pairDownwards k 1 t li lj (fun t => Q t ∧ G t)) ∧ (∀ (t : XT) (li : Nat → Int32) (lj : Nat → Int64), G t → wpX11_pairDownwards k 2 t li lj Q → wpX11_pairDownwards k 2 t li lj (fun t => Q t ∧ G t)) ∧ (∀ (t : XT) (li : Nat → Int32) (lj : Nat → Int64), G t → wpX11_pairDownwards k 3 t li lj Q → wpX11_pairDownwards k 3 t li lj (fun t => Q t ∧ G t)) ∧ (∀ (t : XT) (li : Nat → Int32) (lj : Nat → Int64), G t → wpX11_pairDownwards k 4 t li lj Q → wpX11_pairDownwards k 4 t li lj (fun t => Q t ∧ G t)) ∧ (∀ (t : XT) (li : Nat → Int32) (lj : Nat → Int64), G t → wpX11_pairDownwards k 5 t li lj Q → wpX11_pairDownwards k 5 t li lj (fun t => Q t ∧ G t)) := by
  intro k
  induction k with
  | zero => exact ⟨fun _ _ _ _ hR => False.elim hR, fun _ _ _ _ hR => False.elim hR, fun _ _ _ _ hR => False.elim hR, fun _ _ _ _ hR => False.elim hR, fun _ _ _ _ hR => False.elim hR, fun _ _ _ _ hR => False.elim hR⟩
  | succ k ih =>
    refine ⟨?_, ?_, ?_, ?_, ?_, ?_⟩
    · intro t li lj g hR
      have hR : wbX11_pairDownwards_0 (wpX11_pairDownwards k) k t li lj Q := hR
      show wbX11_pairDownwards_0 (wpX11_pairDownwards k) k t li lj (fun t => Q t ∧ G t)
      unfold wbX11_pairDownwards_0 at hR ⊢
      exact fun x1 e1 => ih.2.1 _ _ _ g (hR x1 e1)
    · intro t li lj g hR
      have hR : wbX11_pairDownwards_1 (wpX11_pairDownwards k) k t li lj Q := hR
      show wbX11_pairDownwards_1 (wpX11_pairDownwards k) k t li lj (fun t => Q t ∧ G t)
      unfold wbX11_pairDownwards_1 at hR ⊢
      exact ⟨fun c1 => ⟨(hR.1 c1), g⟩, fun c2 => vtX6_isCritical hk g (hR.2 c2) (fun y3_0 y3_1 h3 g3 => ⟨fun c4 => ih.2.2.1 _ _ _ g3 (h3.1 c4), fun c5 => ⟨(h3.2 c5).1, fun x6 e6 => vtX6_unpaired hk g3 ((h3.2 c5).2 x6 e6) (fun y7_0 y7_1 h7 g7 => fun x8 e8 => ih.2.2.1 _ _ _ g7 (h7 x8 e8))⟩⟩)⟩
    · intro t li lj g hR
      have hR : wbX11_pairDownwards_2 (wpX11_pairDownwards k) k t li lj Q := hR
      show wbX11_pairDownwards_2 (wpX11_pairDownwards k) k t li lj (fun t => Q t ∧ G t)
      unfold wbX11_pairDownwards_2 at hR ⊢
      exact fun x1 e1 => ih.2.2.2.1 _ _ _ g (hR x1 e1)
    · intro t li lj g hR
      have hR : wbX11_pairDownwards_3 (wpX11_pairDownwards k) k t li lj Q := hR
      show wbX11_pairDownwards_3 (wpX11_pairDownwards k) k t li lj (fun t => Q t ∧ G t)
      unfold wbX11_pairDownwards_3 at hR ⊢
      exact ⟨fun c1 => ih.2.2.2.2.2 _ _ _ g (hR.1 c1), fun c2 => fun x3 e3 => ⟨fun c4 => ih.2.2.2.2.2 _ _ _ g (((hR.2 c2) x3 e3).1 c4), fun c5 => wcX11_isIn (((hR.2 c2) x3 e3).2 c5) (fun y6_0 h6 => ⟨fun c7 => ih.2.2.2.2.1 _ _ _ g (h6.1 c7), fun c8 => vtX6_staysAcyclic hk g (h6.2 c8) (fun y9_0 y9_1 h9 g9 => ⟨fun c10 => ih.2.2.2.2.1 _ _ _ g9 (h9.1 c10), fun c11 => vtX6_unite hk g9 (h9.2 c11) (fun y12_0 h12 g12 => ih.2.2.2.2.1 _ _ _ g12 h12)⟩)⟩)⟩⟩
    · intro t li lj g hR
      have hR : wbX11_pairDownwards_4 (wpX11_pairDownwards k) k t li lj Q := hR
      show wbX11_pairDownwards_4 (wpX11_pairDownwards k) k t li lj (fun t => Q t ∧ G t)
      unfold wbX11_pairDownwards_4 at hR ⊢
      exact fun x1 e1 => ih.2.2.2.1 _ _ _ g (hR x1 e1)
    · intro t li lj g hR
      have hR : wbX11_pairDownwards_5 (wpX11_pairDownwards k) k t li lj Q := hR
      show wbX11_pairDownwards_5 (wpX11_pairDownwards k) k t li lj (fun t => Q t ∧ G t)
      unfold wbX11_pairDownwards_5 at hR ⊢
      exact fun x1 e1 => ih.2.1 _ _ _ g (hR x1 e1)
theorem vgX11_pairDownwards {G : XT → Prop} {k : Nat} {t : XT}  {Q : XT → Prop} (hk : kpA G) (g : G t) (hR : wqX11_pairDownwards k t  Q) : wqX11_pairDownwards k t  (fun t => Q t ∧ G t) := (vfX11_pairDownwards hk Q k).1 t _ _ g hR
theorem vtX11_pairDownwards {G : XT → Prop} {k : Nat} {t : XT}  {Q Q' : XT → Prop} (hk : kpA G) (g : G t) (hR : wqX11_pairDownwards k t  Q) (hQ : (∀ t, Q t → G t → Q' t)) : wqX11_pairDownwards k t  Q' := wmX11_pairDownwards (Nat.le_refl k) (fun t h => hQ t h.1 h.2) (vgX11_pairDownwards hk g hR)
set_option maxHeartbeats 4000000 in
set_option maxRecDepth 100000 in
theorem vfX11_pairUpwards {G : XT → Prop} (hk : kpA G) (Q : XT → Prop) : ∀ k : Nat, (∀ (t : XT) (li : Nat → Int32) (lj : Nat → Int64), G t → wpX11_pairUpwards k 0 t li lj Q → wpX11_pairUpwards k 0 t li lj (fun t => Q t ∧ G t)) ∧ (∀ (t : XT) (li : Nat → Int32) (lj : Nat → Int64), G t → wpX11_pairUpwards k 1 t li lj Q → wpX11_pairUpwards k 1 t li lj (fun t => Q t ∧ G t)) ∧ (∀ (t : XT) (li : Nat → Int32) (lj : Nat → Int64), G t → wpX11_pairUpwards k 2 t li lj Q → wpX11_pairUpwards k 2 t li lj (fun t => Q t ∧ G t)) ∧ (∀ (t : XT) (li : Nat → Int32) (lj : Nat → Int64), G t → wpX11_pairUpwards k 3 t li lj Q → wpX11_pairUpwards k 3 t li lj (fun t => Q t ∧ G t)) ∧ (∀ (t : XT) (li : Nat → Int32) (lj : Nat → Int64), G t → wpX11_pairUpwards k 4 t li lj Q → wpX11_pairUpwards k 4 t li lj (fun t => Q t ∧ G t)) ∧ (∀ (t : XT) (li : Nat → Int32) (lj : Nat → Int64), G t → wpX11_pairUpwards k 5 t li lj Q → wpX11_pairUpwards k 5 t li lj (fun t => Q t ∧ G t)) := by
  intro k
  induction k with
  | zero => exact ⟨fun _ _ _ _ hR => False.elim hR, fun _ _ _ _ hR => False.elim hR, fun _ _ _ _ hR => False.elim hR, fun _ _ _ _ hR => False.elim hR, fun _ _ _ _ hR => False.elim hR, fun _ _ _ _ hR => False.elim hR⟩
  | succ k ih =>
    refine ⟨?_, ?_, ?_, ?_, ?_, ?_⟩
    · intro t li lj g hR
      have hR : wbX11_pairUpwards_0 (wpX11_pairUpwards k) k t li lj Q := hR
      show wbX11_pairUpwards_0 (wpX11_pairUpwards k) k t li lj (fun t => Q t ∧ G t)
      unfold wbX11_pairUpwards_0 at hR ⊢
      exact ih.2.1 _ _ _ g hR
    · intro t li lj g hR
      have hR : wbX11_pairUpwards_1 (wpX11_pairUpwards k) k t li lj Q := hR
      show wbX11_pairUpwards_1 (wpX11_pairUpwards k) k t li lj (fun t => Q t ∧ G t)
      unfold wbX11_pairUpwards_1 at hR ⊢
      exact ⟨fun c1 => ⟨(hR.1 c1), g⟩, fun c2 => vtX6_isCritical hk g (hR.2 c2) (fun y3_0 y3_1 h3 g3 => ⟨fun c4 => ih.2.2.1 _ _ _ g3 (h3.1 c4), fun c5 => ⟨(h3.2 c5).1, fun x6 e6 => vtX6_unpaired hk g3 ((h3.2 c5).2 x6 e6) (fun y7_0 y7_1 h7 g7 => fun x8 e8 => ih.2.2.1 _ _ _ g7 (h7 x8 e8))⟩⟩)⟩
    · intro t li lj g hR
      have hR : wbX11_pairUpwards_2 (wpX11_pairUpwards k) k t li lj Q := hR
      show wbX11_pairUpwards_2 (wpX11_pairUpwards k) k t li lj (fun t => Q t ∧ G t)
      unfold wbX11_pairUpwards_2 at hR ⊢
      exact fun x1 e1 => ih.2.2.2.1 _ _ _ g (hR x1 e1)
    · intro t li lj g hR
      have hR : wbX11_pairUpwards_3 (wpX11_pairUpwards k) k t li lj Q := hR
      show wbX11_pairUpwards_3 (wpX11_pairUpwards k) k t li lj (fun t => Q t ∧ G t)
      unfold wbX11_pairUpwards_3 at hR ⊢
      exact ⟨fun c1 => ih.2.2.2.2.2 _ _ _ g (hR.1 c1), fun c2 => fun x3 e3 => ⟨fun c4 => ih.2.2.2.2.2 _ _ _ g (((hR.2 c2) x3 e3).1 c4), fun c5 => wcX11_isIn (((hR.2 c2) x3 e3).2 c5) (fun y6_0 h6 => ⟨fun c7 => ih.2.2.2.2.1 _ _ _ g (h6.1 c7), fun c8 => vtX6_staysAcyclic hk g (h6.2 c8) (fun y9_0 y9_1 h9 g9 => ⟨fun c10 => ih.2.2.2.2.1 _ _ _ g9 (h9.1 c10), fun c11 => vtX6_unite hk g9 (h9.2 c11) (fun y12_0 h12 g12 => ih.2.2.2.2.1 _ _ _ g12 h12)⟩)⟩)⟩⟩
    · intro t li lj g hR
      have hR : wbX11_pairUpwards_4 (wpX11_pairUpwards k) k t li lj Q := hR
      show wbX11_pairUpwards_4 (wpX11_pairUpwards k) k t li lj (fun t => Q t ∧ G t)
      unfold wbX11_pairUpwards_4 at hR ⊢
      exact fun x1 e1 => ih.2.2.2.1 _ _ _ g (hR x1 e1)
    · intro t li lj g hR
      have hR : wbX11_pairUpwards_5 (wpX11_pairUpwards k) k t li lj Q := hR
      show wbX11_pairUpwards_5 (wpX11_pairUpwards k) k t li lj (fun t => Q t ∧ G t)
      unfold wbX11_pairUpwards_5 at hR ⊢
      exact fun x1 e1 => ih.2.1 _ _ _ g (hR x1 e1)
theorem vgX11_pairUpwards {G : XT → Prop} {k : Nat} {t : XT}  {Q : XT → Prop} (hk : kpA G) (g : G t) (hR : wqX11_pairUpwards k t  Q) : wqX11_pairUpwards k t  (fun t => Q t ∧ G t) := (vfX11_pairUpwards hk Q k).1 t _ _ g hR
theorem vtX11_pairUpwards {G : XT → Prop} {k : Nat} {t : XT}  {Q Q' : XT → Prop} (hk : kpA G) (g : G t) (hR : wqX11_pairUpwards k t  Q) (hQ : (∀ t, Q t → G t → Q' t)) : wqX11_pairUpwards k t  Q' := wmX11_pairUpwards (Nat.le_refl k) (fun t h => hQ t h.1 h.2) (vgX11_pairUpwards hk g hR)
set_option maxHeartbeats 4000000 in
set_option maxRecDepth 100000 in
theorem vfX11_auto {G : XT → Prop} (hk : kpA G) (Q : Int32 → XT → Prop) : ∀ k : Nat, (∀ (t : XT) (li : Nat → Int32) (lj : Nat → Int64), G t → wpX11_auto k 0 t li lj Q → wpX11_auto k 0 t li lj (fun r t => Q r t ∧ G t)) ∧ (∀ (t : XT) (li : Nat → Int32) (lj : Nat → Int64), G t → wpX11_auto k 1 t li lj Q → wpX11_auto k 1 t li lj (fun r t => Q r t ∧ G t)) ∧ (∀ (t : XT) (li : Nat → Int32) (lj : Nat → Int64), G t → wpX11_auto k 2 t li lj Q → wpX11_auto k 2 t li lj (fun r t => Q r t ∧ G t)) := by
  intro k
  induction k with
  | zero => exact ⟨fun _ _ _ _ hR => False.elim hR, fun _ _ _ _ hR => False.elim hR, fun _ _ _ _ hR => False.elim hR⟩
  | succ k ih =>
    refine ⟨?_, ?_, ?_⟩
    · intro t li lj g hR
      have hR : wbX11_auto_0 (wpX11_auto k) k t li lj Q := hR
      show wbX11_auto_0 (wpX11_auto k) k t li lj (fun r t => Q r t ∧ G t)
      unfold wbX11_auto_0 at hR ⊢
      exact ⟨fun c1 => ih.2.1 _ _ _ g (hR.1 c1), fun c2 => ⟨fun c3 => ih.2.1 _ _ _ g ((hR.2 c2).1 c3), fun c4 => ⟨fun c5 => vtX3_save_c4 hk g (((hR.2 c2).2 c4).1 c5) (fun y6_0 h6 g6 => vtX6_restart hk g6 h6 (fun y7_0 h7 g7 => ⟨fun c8 => ⟨fun c9 => vtX11_pairByPeeling hk g7 ((h7.1 c8).1 c9) (fun y10_0 h10 g10 => ih.2.2 _ _ _ g10 h10), fun c11 => vtX11_pairDownwards hk g7 ((h7.1 c8).2 c11) (fun y12_0 h12 g12 => ih.2.2 _ _ _ g12 h12)⟩, fun c13 => vtX11_pairUpwards hk g7 (h7.2 c13) (fun y14_0 h14 g14 => ih.2.2 _ _ _ g14 h14)⟩)), fun c15 => ih.2.1 _ _ _ g (((hR.2 c2).2 c4).2 c15)⟩⟩⟩
    · intro t li lj g hR
      have hR : wbX11_auto_1 (wpX11_auto k) k t li lj Q := hR
      show wbX11_auto_1 (wpX11_auto k) k t li lj (fun r t => Q r t ∧ G t)
      unfold wbX11_auto_1 at hR ⊢
      exact ⟨hR, g⟩
    · intro t li lj g hR
      have hR : wbX11_auto_2 (wpX11_auto k) k t li lj Q := hR
      show wbX11_auto_2 (wpX11_auto k) k t li lj (fun r t => Q r t ∧ G t)
      unfold wbX11_auto_2 at hR ⊢
      exact vtX11_criticalOnes hk g hR (fun y1_0 y1_1 h1 g1 => ⟨h1, g1⟩)
theorem vgX11_auto {G : XT → Prop} {k : Nat} {t : XT} {a1 : Int32} {Q : Int32 → XT → Prop} (hk : kpA G) (g : G t) (hR : wqX11_auto k t a1 Q) : wqX11_auto k t a1 (fun r t => Q r t ∧ G t) := (vfX11_auto hk Q k).1 t _ _ g hR
theorem vtX11_auto {G : XT → Prop} {k : Nat} {t : XT} {a1 : Int32} {Q Q' : Int32 → XT → Prop} (hk : kpA G) (g : G t) (hR : wqX11_auto k t a1 Q) (hQ : (∀ r t, Q r t → G t → Q' r t)) : wqX11_auto k t a1 Q' := wmX11_auto (Nat.le_refl k) (fun r t h => hQ r t h.1 h.2) (vgX11_auto hk g hR)
set_option maxHeartbeats 4000000 in
set_option maxRecDepth 100000 in
theorem vfX11_areEnds {G : XT → Prop} (hk : kpA G) (Q : Int32 → XT → Prop) : ∀ k : Nat, (∀ (t : XT) (li : Nat → Int32) (lj : Nat → Int64), G t → wpX11_areEnds k 0 t li lj Q → wpX11_areEnds k 0 t li lj (fun r t => Q r t ∧ G t)) ∧ (∀ (t : XT) (li : Nat → Int32) (lj : Nat → Int64), G t → wpX11_areEnds k 1 t li lj Q → wpX11_areEnds k 1 t li lj (fun r t => Q r t ∧ G t)) ∧ (∀ (t : XT) (li : Nat → Int32) (lj : Nat → Int64), G t → wpX11_areEnds k 2 t li lj Q → wpX11_areEnds k 2 t li lj (fun r t => Q r t ∧ G t)) := by
  intro k
  induction k with
  | zero => exact ⟨fun _ _ _ _ hR => False.elim hR, fun _ _ _ _ hR => False.elim hR, fun _ _ _ _ hR => False.elim hR⟩
  | succ k ih =>
    refine ⟨?_, ?_, ?_⟩
    · intro t li lj g hR
      have hR : wbX11_areEnds_0 (wpX11_areEnds k) k t li lj Q := hR
      show wbX11_areEnds_0 (wpX11_areEnds k) k t li lj (fun r t => Q r t ∧ G t)
      unfold wbX11_areEnds_0 at hR ⊢
      exact vtX11_isThere hk g hR (fun y1_0 y1_1 h1 g1 => ⟨fun c2 => ih.2.1 _ _ _ g1 (h1.1 c2), fun c3 => vtX11_isThere hk g1 (h1.2 c3) (fun y4_0 y4_1 h4 g4 => ⟨fun c5 => ⟨(h4.1 c5).1, fun x6 e6 => ⟨((h4.1 c5).2 x6 e6).1, fun x7 e7 => fun x8 e8 => ⟨fun c9 => vtX6_isCritical hk g4 (((((h4.1 c5).2 x6 e6).2 x7 e7) x8 e8).1 c9) (fun y10_0 y10_1 h10 g10 => ⟨fun c11 => ih.2.2 _ _ _ g10 (h10.1 c11), fun c12 => vtX6_isCritical hk g10 (h10.2 c12) (fun y13_0 y13_1 h13 g13 => ⟨fun c14 => ih.2.2 _ _ _ g13 (h13.1 c14), fun c15 => ⟨(h13.2 c15), g13⟩⟩)⟩), fun c16 => ⟨(((((h4.1 c5).2 x6 e6).2 x7 e7) x8 e8).2 c16), g4⟩⟩⟩⟩, fun c17 => ih.2.1 _ _ _ g4 (h4.2 c17)⟩)⟩)
    · intro t li lj g hR
      have hR : wbX11_areEnds_1 (wpX11_areEnds k) k t li lj Q := hR
      show wbX11_areEnds_1 (wpX11_areEnds k) k t li lj (fun r t => Q r t ∧ G t)
      unfold wbX11_areEnds_1 at hR ⊢
      exact ⟨hR, g⟩
    · intro t li lj g hR
      have hR : wbX11_areEnds_2 (wpX11_areEnds k) k t li lj Q := hR
      show wbX11_areEnds_2 (wpX11_areEnds k) k t li lj (fun r t => Q r t ∧ G t)
      unfold wbX11_areEnds_2 at hR ⊢
      exact ⟨hR, g⟩
theorem vgX11_areEnds {G : XT → Prop} {k : Nat} {t : XT} {a1 : Int32} {a2 : Int32} {Q : Int32 → XT → Prop} (hk : kpA G) (g : G t) (hR : wqX11_areEnds k t a1 a2 Q) : wqX11_areEnds k t a1 a2 (fun r t => Q r t ∧ G t) := (vfX11_areEnds hk Q k).1 t _ _ g hR
theorem vtX11_areEnds {G : XT → Prop} {k : Nat} {t : XT} {a1 : Int32} {a2 : Int32} {Q Q' : Int32 → XT → Prop} (hk : kpA G) (g : G t) (hR : wqX11_areEnds k t a1 a2 Q) (hQ : (∀ r t, Q r t → G t → Q' r t)) : wqX11_areEnds k t a1 a2 Q' := wmX11_areEnds (Nat.le_refl k) (fun r t h => hQ r t h.1 h.2) (vgX11_areEnds hk g hR)
set_option maxHeartbeats 4000000 in
set_option maxRecDepth 100000 in
theorem vfX6_below {G : XT → Prop} (hk : kpA G) (Q : Int64 → XT → Prop) : ∀ k : Nat, (∀ (t : XT) (li : Nat → Int32) (lj : Nat → Int64), G t → wpX6_below k 0 t li lj Q → wpX6_below k 0 t li lj (fun r t => Q r t ∧ G t)) := by
  intro k
  induction k with
  | zero => exact fun _ _ _ _ hR => False.elim hR
  | succ k ih =>
    intro t li lj g hR
    have hR : wbX6_below_0 (wpX6_below k) k t li lj Q := hR
    show wbX6_below_0 (wpX6_below k) k t li lj (fun r t => Q r t ∧ G t)
    unfold wbX6_below_0 at hR ⊢
    exact ⟨hR.1, fun x1 e1 => ⟨fun c2 => ⟨((hR.2 x1 e1).1 c2).1, fun x3 e3 => ⟨(((hR.2 x1 e1).1 c2).2 x3 e3).1, fun x4 e4 => fun x5 e5 => fun x6 e6 => fun x7 e7 => ⟨(((((((hR.2 x1 e1).1 c2).2 x3 e3).2 x4 e4) x5 e5) x6 e6) x7 e7), g⟩⟩⟩, fun c8 => ⟨((hR.2 x1 e1).2 c8).1, fun x9 e9 => ⟨(((hR.2 x1 e1).2 c8).2 x9 e9), g⟩⟩⟩⟩
theorem vgX6_below {G : XT → Prop} {k : Nat} {t : XT} {a1 : Int32} {Q : Int64 → XT → Prop} (hk : kpA G) (g : G t) (hR : wqX6_below k t a1 Q) : wqX6_below k t a1 (fun r t => Q r t ∧ G t) := (vfX6_below hk Q k) t _ _ g hR
theorem vtX6_below {G : XT → Prop} {k : Nat} {t : XT} {a1 : Int32} {Q Q' : Int64 → XT → Prop} (hk : kpA G) (g : G t) (hR : wqX6_below k t a1 Q) (hQ : (∀ r t, Q r t → G t → Q' r t)) : wqX6_below k t a1 Q' := wmX6_below (Nat.le_refl k) (fun r t h => hQ r t h.1 h.2) (vgX6_below hk g hR)
set_option maxHeartbeats 4000000 in
set_option maxRecDepth 100000 in
theorem vfX1_waysDown {G : XT → Prop} (hk : kpA G) (Q : Int64 → XT → Prop) : ∀ k : Nat, (∀ (t : XT) (li : Nat → Int32) (lj : Nat → Int64), G t → wpX1_waysDown k 0 t li lj Q → wpX1_waysDown k 0 t li lj (fun r t => Q r t ∧ G t)) ∧ (∀ (t : XT) (li : Nat → Int32) (lj : Nat → Int64), G t → wpX1_waysDown k 1 t li lj Q → wpX1_waysDown k 1 t li lj (fun r t => Q r t ∧ G t)) ∧ (∀ (t : XT) (li : Nat → Int32) (lj : Nat → Int64), G t → wpX1_waysDown k 2 t li lj Q → wpX1_waysDown k 2 t li lj (fun r t => Q r t ∧ G t)) := by
  intro k
  induction k with
  | zero => exact ⟨fun _ _ _ _ hR => False.elim hR, fun _ _ _ _ hR => False.elim hR, fun _ _ _ _ hR => False.elim hR⟩
  | succ k ih =>
    refine ⟨?_, ?_, ?_⟩
    · intro t li lj g hR
      have hR : wbX1_waysDown_0 (wpX1_waysDown k) k t li lj Q := hR
      show wbX1_waysDown_0 (wpX1_waysDown k) k t li lj (fun r t => Q r t ∧ G t)
      unfold wbX1_waysDown_0 at hR ⊢
      exact vtX6_below hk g hR (fun y1_0 y1_1 h1 g1 => ih.2.1 _ _ _ g1 h1)
    · intro t li lj g hR
      have hR : wbX1_waysDown_1 (wpX1_waysDown k) k t li lj Q := hR
      show wbX1_waysDown_1 (wpX1_waysDown k) k t li lj (fun r t => Q r t ∧ G t)
      unfold wbX1_waysDown_1 at hR ⊢
      exact ⟨fun c1 => ih.2.2 _ _ _ g (hR.1 c1), fun c2 => fun x3 e3 => ⟨fun c4 => ih.2.2 _ _ _ g (((hR.2 c2) x3 e3).1 c4), fun c5 => wcX11_lowest (((hR.2 c2) x3 e3).2 c5) (fun y6_0 h6 => ⟨h6.1, fun x7 e7 => fun x8 e8 => fun x9 e9 => fun x10 e10 => fun x11 e11 => ih.2.1 _ _ _ g (((((h6.2 x7 e7) x8 e8) x9 e9) x10 e10) x11 e11)⟩)⟩⟩
    · intro t li lj g hR
      have hR : wbX1_waysDown_2 (wpX1_waysDown k) k t li lj Q := hR
      show wbX1_waysDown_2 (wpX1_waysDown k) k t li lj (fun r t => Q r t ∧ G t)
      unfold wbX1_waysDown_2 at hR ⊢
      exact ⟨hR, g⟩
theorem vgX1_waysDown {G : XT → Prop} {k : Nat} {t : XT} {a1 : Int32} {Q : Int64 → XT → Prop} (hk : kpA G) (g : G t) (hR : wqX1_waysDown k t a1 Q) : wqX1_waysDown k t a1 (fun r t => Q r t ∧ G t) := (vfX1_waysDown hk Q k).1 t _ _ g hR
theorem vtX1_waysDown {G : XT → Prop} {k : Nat} {t : XT} {a1 : Int32} {Q Q' : Int64 → XT → Prop} (hk : kpA G) (g : G t) (hR : wqX1_waysDown k t a1 Q) (hQ : (∀ r t, Q r t → G t → Q' r t)) : wqX1_waysDown k t a1 Q' := wmX1_waysDown (Nat.le_refl k) (fun r t h => hQ r t h.1 h.2) (vgX1_waysDown hk g hR)
set_option maxHeartbeats 4000000 in
set_option maxRecDepth 100000 in
theorem vfX1_countWays {G : XT → Prop} (hk : kpA G) (Q : Int64 → XT → Prop) : ∀ k : Nat, (∀ (t : XT) (li : Nat → Int32) (lj : Nat → Int64), G t → wpX1_countWays k 0 t li lj Q → wpX1_countWays k 0 t li lj (fun r t => Q r t ∧ G t)) ∧ (∀ (t : XT) (li : Nat → Int32) (lj : Nat → Int64), G t → wpX1_countWays k 1 t li lj Q → wpX1_countWays k 1 t li lj (fun r t => Q r t ∧ G t)) ∧ (∀ (t : XT) (li : Nat → Int32) (lj : Nat → Int64), G t → wpX1_countWays k 2 t li lj Q → wpX1_countWays k 2 t li lj (fun r t => Q r t ∧ G t)) := by
  intro k
  induction k with
  | zero => exact ⟨fun _ _ _ _ hR => False.elim hR, fun _ _ _ _ hR => False.elim hR, fun _ _ _ _ hR => False.elim hR⟩
  | succ k ih =>
    refine ⟨?_, ?_, ?_⟩
    · intro t li lj g hR
      have hR : wbX1_countWays_0 (wpX1_countWays k) k t li lj Q := hR
      show wbX1_countWays_0 (wpX1_countWays k) k t li lj (fun r t => Q r t ∧ G t)
      unfold wbX1_countWays_0 at hR ⊢
      exact vtX2_measure hk g hR (fun y1_0 h1 g1 => fun x2 e2 => have g2 : G x2 := (by rw [e2]; exact hk.2.2.2 _ _ _ g1); ih.2.1 _ _ _ g2 (h1 x2 e2))
    · intro t li lj g hR
      have hR : wbX1_countWays_1 (wpX1_countWays k) k t li lj Q := hR
      show wbX1_countWays_1 (wpX1_countWays k) k t li lj (fun r t => Q r t ∧ G t)
      unfold wbX1_countWays_1 at hR ⊢
      exact ⟨fun c1 => ⟨(hR.1 c1).1, fun x2 e2 => ⟨((hR.1 c1).2 x2 e2), g⟩⟩, fun c3 => ⟨(hR.2 c3).1, fun x4 e4 => ⟨fun c5 => ⟨(((hR.2 c3).2 x4 e4).1 c5).1, fun x6 e6 => ⟨((((hR.2 c3).2 x4 e4).1 c5).2 x6 e6).1, fun x7 e7 => ⟨fun c8 => ⟨((((((hR.2 c3).2 x4 e4).1 c5).2 x6 e6).2 x7 e7).1 c8).1, fun x9 e9 => ⟨(((((((hR.2 c3).2 x4 e4).1 c5).2 x6 e6).2 x7 e7).1 c8).2 x9 e9).1, fun x10 e10 => ⟨fun c11 => ih.2.2 _ _ _ g (((((((((hR.2 c3).2 x4 e4).1 c5).2 x6 e6).2 x7 e7).1 c8).2 x9 e9).2 x10 e10).1 c11), fun c12 => ⟨(((((((((hR.2 c3).2 x4 e4).1 c5).2 x6 e6).2 x7 e7).1 c8).2 x9 e9).2 x10 e10).2 c12).1, fun x13 e13 => ⟨fun c14 => ih.2.2 _ _ _ g (((((((((((hR.2 c3).2 x4 e4).1 c5).2 x6 e6).2 x7 e7).1 c8).2 x9 e9).2 x10 e10).2 c12).2 x13 e13).1 c14), fun c15 => ⟨(((((((((((hR.2 c3).2 x4 e4).1 c5).2 x6 e6).2 x7 e7).1 c8).2 x9 e9).2 x10 e10).2 c12).2 x13 e13).2 c15).1, fun x16 e16 => ⟨((((((((((((hR.2 c3).2 x4 e4).1 c5).2 x6 e6).2 x7 e7).1 c8).2 x9 e9).2 x10 e10).2 c12).2 x13 e13).2 c15).2 x16 e16).1, fun x17 e17 => ⟨(((((((((((((hR.2 c3).2 x4 e4).1 c5).2 x6 e6).2 x7 e7).1 c8).2 x9 e9).2 x10 e10).2 c12).2 x13 e13).2 c15).2 x16 e16).2 x17 e17).1, fun x18 e18 => have g18 : G x18 := (by rw [e18]; exact hk.2.2.2 _ _ _ g); ih.2.2 _ _ _ g18 ((((((((((((((hR.2 c3).2 x4 e4).1 c5).2 x6 e6).2 x7 e7).1 c8).2 x9 e9).2 x10 e10).2 c12).2 x13 e13).2 c15).2 x16 e16).2 x17 e17).2 x18 e18)⟩⟩⟩⟩⟩⟩⟩⟩, fun c19 => vtX1_waysDown hk g ((((((hR.2 c3).2 x4 e4).1 c5).2 x6 e6).2 x7 e7).2 c19) (fun y20_0 y20_1 h20 g20 => ⟨h20.1, fun x21 e21 => have g21 : G x21 := (by rw [e21]; exact hk.2.2.2 _ _ _ g20); ih.2.2 _ _ _ g21 (h20.2 x21 e21)⟩)⟩⟩⟩, fun c22 => ⟨(((hR.2 c3).2 x4 e4).2 c22).1, fun x23 e23 => have g23 : G x23 := (by rw [e23]; exact hk.2.2.2 _ _ _ g); ih.2.2 _ _ _ g23 ((((hR.2 c3).2 x4 e4).2 c22).2 x23 e23)⟩⟩⟩⟩
    · intro t li lj g hR
      have hR : wbX1_countWays_2 (wpX1_countWays k) k t li lj Q := hR
      show wbX1_countWays_2 (wpX1_countWays k) k t li lj (fun r t => Q r t ∧ G t)
      unfold wbX1_countWays_2 at hR ⊢
      exact fun x1 e1 => ih.2.1 _ _ _ g (hR x1 e1)
theorem vgX1_countWays {G : XT → Prop} {k : Nat} {t : XT} {a1 : Int32} {a2 : Int32} {Q : Int64 → XT → Prop} (hk : kpA G) (g : G t) (hR : wqX1_countWays k t a1 a2 Q) : wqX1_countWays k t a1 a2 (fun r t => Q r t ∧ G t) := (vfX1_countWays hk Q k).1 t _ _ g hR
theorem vtX1_countWays {G : XT → Prop} {k : Nat} {t : XT} {a1 : Int32} {a2 : Int32} {Q Q' : Int64 → XT → Prop} (hk : kpA G) (g : G t) (hR : wqX1_countWays k t a1 a2 Q) (hQ : (∀ r t, Q r t → G t → Q' r t)) : wqX1_countWays k t a1 a2 Q' := wmX1_countWays (Nat.le_refl k) (fun r t h => hQ r t h.1 h.2) (vgX1_countWays hk g hR)
set_option maxHeartbeats 4000000 in
set_option maxRecDepth 100000 in
theorem vfX1_chosenFace {G : XT → Prop} (hk : kpA G) (Q : Int32 → XT → Prop) : ∀ k : Nat, (∀ (t : XT) (li : Nat → Int32) (lj : Nat → Int64), G t → wpX1_chosenFace k 0 t li lj Q → wpX1_chosenFace k 0 t li lj (fun r t => Q r t ∧ G t)) ∧ (∀ (t : XT) (li : Nat → Int32) (lj : Nat → Int64), G t → wpX1_chosenFace k 1 t li lj Q → wpX1_chosenFace k 1 t li lj (fun r t => Q r t ∧ G t)) ∧ (∀ (t : XT) (li : Nat → Int32) (lj : Nat → Int64), G t → wpX1_chosenFace k 2 t li lj Q → wpX1_chosenFace k 2 t li lj (fun r t => Q r t ∧ G t)) := by
  intro k
  induction k with
  | zero => exact ⟨fun _ _ _ _ hR => False.elim hR, fun _ _ _ _ hR => False.elim hR, fun _ _ _ _ hR => False.elim hR⟩
  | succ k ih =>
    refine ⟨?_, ?_, ?_⟩
    · intro t li lj g hR
      have hR : wbX1_chosenFace_0 (wpX1_chosenFace k) k t li lj Q := hR
      show wbX1_chosenFace_0 (wpX1_chosenFace k) k t li lj (fun r t => Q r t ∧ G t)
      unfold wbX1_chosenFace_0 at hR ⊢
      exact vtX6_below hk g hR (fun y1_0 y1_1 h1 g1 => wcX11_lowest h1 (fun y2_0 h2 => ih.2.1 _ _ _ g1 h2))
    · intro t li lj g hR
      have hR : wbX1_chosenFace_1 (wpX1_chosenFace k) k t li lj Q := hR
      show wbX1_chosenFace_1 (wpX1_chosenFace k) k t li lj (fun r t => Q r t ∧ G t)
      unfold wbX1_chosenFace_1 at hR ⊢
      exact ⟨fun c1 => ih.2.2 _ _ _ g (hR.1 c1), fun c2 => fun x3 e3 => ⟨fun c4 => ih.2.2 _ _ _ g (((hR.2 c2) x3 e3).1 c4), fun c5 => wcX11_lowest (((hR.2 c2) x3 e3).2 c5) (fun y6_0 h6 => ⟨h6.1, fun x7 e7 => fun x8 e8 => ⟨fun c9 => ⟨(((h6.2 x7 e7) x8 e8).1 c9).1, fun x10 e10 => fun x11 e11 => fun x12 e12 => have g12 : G x12 := (by rw [e12]; exact hk.2.1 _ _ _ g); fun x13 e13 => fun x14 e14 => fun x15 e15 => ih.2.1 _ _ _ g12 (((((((((h6.2 x7 e7) x8 e8).1 c9).2 x10 e10) x11 e11) x12 e12) x13 e13) x14 e14) x15 e15)⟩, fun c16 => ⟨(((h6.2 x7 e7) x8 e8).2 c16), g⟩⟩⟩)⟩⟩
    · intro t li lj g hR
      have hR : wbX1_chosenFace_2 (wpX1_chosenFace k) k t li lj Q := hR
      show wbX1_chosenFace_2 (wpX1_chosenFace k) k t li lj (fun r t => Q r t ∧ G t)
      unfold wbX1_chosenFace_2 at hR ⊢
      exact ⟨hR, g⟩
theorem vgX1_chosenFace {G : XT → Prop} {k : Nat} {t : XT} {a1 : Int32} {Q : Int32 → XT → Prop} (hk : kpA G) (g : G t) (hR : wqX1_chosenFace k t a1 Q) : wqX1_chosenFace k t a1 (fun r t => Q r t ∧ G t) := (vfX1_chosenFace hk Q k).1 t _ _ g hR
theorem vtX1_chosenFace {G : XT → Prop} {k : Nat} {t : XT} {a1 : Int32} {Q Q' : Int32 → XT → Prop} (hk : kpA G) (g : G t) (hR : wqX1_chosenFace k t a1 Q) (hQ : (∀ r t, Q r t → G t → Q' r t)) : wqX1_chosenFace k t a1 Q' := wmX1_chosenFace (Nat.le_refl k) (fun r t h => hQ r t h.1 h.2) (vgX1_chosenFace hk g hR)
set_option maxHeartbeats 4000000 in
set_option maxRecDepth 100000 in
theorem vfX1_trace {G : XT → Prop} (hk : kpA G) (Q : Int32 → XT → Prop) : ∀ k : Nat, (∀ (t : XT) (li : Nat → Int32) (lj : Nat → Int64), G t → wpX1_trace k 0 t li lj Q → wpX1_trace k 0 t li lj (fun r t => Q r t ∧ G t)) ∧ (∀ (t : XT) (li : Nat → Int32) (lj : Nat → Int64), G t → wpX1_trace k 1 t li lj Q → wpX1_trace k 1 t li lj (fun r t => Q r t ∧ G t)) ∧ (∀ (t : XT) (li : Nat → Int32) (lj : Nat → Int64), G t → wpX1_trace k 2 t li lj Q → wpX1_trace k 2 t li lj (fun r t => Q r t ∧ G t)) ∧ (∀ (t : XT) (li : Nat → Int32) (lj : Nat → Int64), G t → wpX1_trace k 3 t li lj Q → wpX1_trace k 3 t li lj (fun r t => Q r t ∧ G t)) := by
  intro k
  induction k with
  | zero => exact ⟨fun _ _ _ _ hR => False.elim hR, fun _ _ _ _ hR => False.elim hR, fun _ _ _ _ hR => False.elim hR, fun _ _ _ _ hR => False.elim hR⟩
  | succ k ih =>
    refine ⟨?_, ?_, ?_, ?_⟩
    · intro t li lj g hR
      have hR : wbX1_trace_0 (wpX1_trace k) k t li lj Q := hR
      show wbX1_trace_0 (wpX1_trace k) k t li lj (fun r t => Q r t ∧ G t)
      unfold wbX1_trace_0 at hR ⊢
      exact fun x1 e1 => have g1 : G x1 := (by rw [e1]; exact hk.2.1 _ _ _ g); ⟨(hR x1 e1).1, fun x2 e2 => have g2 : G x2 := (by rw [e2]; exact hk.2.2.1 _ _ _ (by decide) g1); ih.2.1 _ _ _ g2 ((hR x1 e1).2 x2 e2)⟩
    · intro t li lj g hR
      have hR : wbX1_trace_1 (wpX1_trace k) k t li lj Q := hR
      show wbX1_trace_1 (wpX1_trace k) k t li lj (fun r t => Q r t ∧ G t)
      unfold wbX1_trace_1 at hR ⊢
      exact ⟨fun c1 => ih.2.2.2 _ _ _ g (hR.1 c1), fun c2 => fun x3 e3 => ⟨fun c4 => ih.2.2.2 _ _ _ g (((hR.2 c2) x3 e3).1 c4), fun c5 => vtX1_chosenFace hk g (((hR.2 c2) x3 e3).2 c5) (fun y6_0 y6_1 h6 g6 => ⟨h6.1, fun x7 e7 => have g7 : G x7 := (by rw [e7]; exact hk.2.2.1 _ _ _ (by decide) g6); fun x8 e8 => ⟨fun c9 => ih.2.2.1 _ _ _ g7 (((h6.2 x7 e7) x8 e8).1 c9), fun c10 => ⟨(((h6.2 x7 e7) x8 e8).2 c10).1, fun x11 e11 => ⟨fun c12 => ih.2.2.1 _ _ _ g7 (((((h6.2 x7 e7) x8 e8).2 c10).2 x11 e11).1 c12), fun c13 => ⟨(((((h6.2 x7 e7) x8 e8).2 c10).2 x11 e11).2 c13).1, fun x14 e14 => ⟨((((((h6.2 x7 e7) x8 e8).2 c10).2 x11 e11).2 c13).2 x14 e14).1, fun x15 e15 => have g15 : G x15 := (by rw [e15]; exact hk.2.2.1 _ _ _ (by decide) g7); fun x16 e16 => ih.2.2.1 _ _ _ g15 ((((((((h6.2 x7 e7) x8 e8).2 c10).2 x11 e11).2 c13).2 x14 e14).2 x15 e15) x16 e16)⟩⟩⟩⟩⟩⟩)⟩⟩
    · intro t li lj g hR
      have hR : wbX1_trace_2 (wpX1_trace k) k t li lj Q := hR
      show wbX1_trace_2 (wpX1_trace k) k t li lj (fun r t => Q r t ∧ G t)
      unfold wbX1_trace_2 at hR ⊢
      exact ih.2.1 _ _ _ g hR
    · intro t li lj g hR
      have hR : wbX1_trace_3 (wpX1_trace k) k t li lj Q := hR
      show wbX1_trace_3 (wpX1_trace k) k t li lj (fun r t => Q r t ∧ G t)
      unfold wbX1_trace_3 at hR ⊢
      exact ⟨hR, g⟩
theorem vgX1_trace {G : XT → Prop} {k : Nat} {t : XT} {a1 : Int32} {a2 : Int32} {a3 : Int64} {Q : Int32 → XT → Prop} (hk : kpA G) (g : G t) (hR : wqX1_trace k t a1 a2 a3 Q) : wqX1_trace k t a1 a2 a3 (fun r t => Q r t ∧ G t) := (vfX1_trace hk Q k).1 t _ _ g hR
theorem vtX1_trace {G : XT → Prop} {k : Nat} {t : XT} {a1 : Int32} {a2 : Int32} {a3 : Int64} {Q Q' : Int32 → XT → Prop} (hk : kpA G) (g : G t) (hR : wqX1_trace k t a1 a2 a3 Q) (hQ : (∀ r t, Q r t → G t → Q' r t)) : wqX1_trace k t a1 a2 a3 Q' := wmX1_trace (Nat.le_refl k) (fun r t h => hQ r t h.1 h.2) (vgX1_trace hk g hR)
set_option maxHeartbeats 4000000 in
set_option maxRecDepth 100000 in
theorem vfX11_cancel {G : XT → Prop} (hk : kpA G) (Q : Int32 → XT → Prop) : ∀ k : Nat, (∀ (t : XT) (li : Nat → Int32) (lj : Nat → Int64), G t → wpX11_cancel k 0 t li lj Q → wpX11_cancel k 0 t li lj (fun r t => Q r t ∧ G t)) ∧ (∀ (t : XT) (li : Nat → Int32) (lj : Nat → Int64), G t → wpX11_cancel k 1 t li lj Q → wpX11_cancel k 1 t li lj (fun r t => Q r t ∧ G t)) ∧ (∀ (t : XT) (li : Nat → Int32) (lj : Nat → Int64), G t → wpX11_cancel k 2 t li lj Q → wpX11_cancel k 2 t li lj (fun r t => Q r t ∧ G t)) := by
  intro k
  induction k with
  | zero => exact ⟨fun _ _ _ _ hR => False.elim hR, fun _ _ _ _ hR => False.elim hR, fun _ _ _ _ hR => False.elim hR⟩
  | succ k ih =>
    refine ⟨?_, ?_, ?_⟩
    · intro t li lj g hR
      have hR : wbX11_cancel_0 (wpX11_cancel k) k t li lj Q := hR
      show wbX11_cancel_0 (wpX11_cancel k) k t li lj (fun r t => Q r t ∧ G t)
      unfold wbX11_cancel_0 at hR ⊢
      exact vtX11_areEnds hk g hR (fun y1_0 y1_1 h1 g1 => ⟨fun c2 => vtX1_countWays hk g1 (h1.1 c2) (fun y3_0 y3_1 h3 g3 => fun x4 e4 => ⟨fun c5 => vtX3_save_c4 hk g3 ((h3 x4 e4).1 c5) (fun y6_0 h6 g6 => vtX1_trace hk g6 h6 (fun y7_0 y7_1 h7 g7 => ih.2.1 _ _ _ g7 h7)), fun c8 => ⟨((h3 x4 e4).2 c8), g3⟩⟩), fun c9 => ⟨(h1.2 c9), g1⟩⟩)
    · intro t li lj g hR
      have hR : wbX11_cancel_1 (wpX11_cancel k) k t li lj Q := hR
      show wbX11_cancel_1 (wpX11_cancel k) k t li lj (fun r t => Q r t ∧ G t)
      unfold wbX11_cancel_1 at hR ⊢
      exact fun x1 e1 => ⟨fun c2 => ih.2.2 _ _ _ g ((hR x1 e1).1 c2), fun c3 => ⟨((hR x1 e1).2 c3).1, fun x4 e4 => vtX6_divide hk g (((hR x1 e1).2 c3).2 x4 e4) (fun y5_0 h5 g5 => fun x6 e6 => ih.2.1 _ _ _ g5 (h5 x6 e6))⟩⟩
    · intro t li lj g hR
      have hR : wbX11_cancel_2 (wpX11_cancel k) k t li lj Q := hR
      show wbX11_cancel_2 (wpX11_cancel k) k t li lj (fun r t => Q r t ∧ G t)
      unfold wbX11_cancel_2 at hR ⊢
      exact ⟨fun c1 => vtX11_criticalOnes hk g (hR.1 c1) (fun y2_0 y2_1 h2 g2 => ⟨h2, g2⟩), fun c3 => ⟨(hR.2 c3).1, fun x4 e4 => fun x5 e5 => ⟨(((hR.2 c3).2 x4 e4) x5 e5).1, fun x6 e6 => vtX6_unite hk g ((((hR.2 c3).2 x4 e4) x5 e5).2 x6 e6) (fun y7_0 h7 g7 => fun x8 e8 => ih.2.2 _ _ _ g7 (h7 x8 e8))⟩⟩⟩
theorem vgX11_cancel {G : XT → Prop} {k : Nat} {t : XT} {a1 : Int32} {a2 : Int32} {Q : Int32 → XT → Prop} (hk : kpA G) (g : G t) (hR : wqX11_cancel k t a1 a2 Q) : wqX11_cancel k t a1 a2 (fun r t => Q r t ∧ G t) := (vfX11_cancel hk Q k).1 t _ _ g hR
theorem vtX11_cancel {G : XT → Prop} {k : Nat} {t : XT} {a1 : Int32} {a2 : Int32} {Q Q' : Int32 → XT → Prop} (hk : kpA G) (g : G t) (hR : wqX11_cancel k t a1 a2 Q) (hQ : (∀ r t, Q r t → G t → Q' r t)) : wqX11_cancel k t a1 a2 Q' := wmX11_cancel (Nat.le_refl k) (fun r t h => hQ r t h.1 h.2) (vgX11_cancel hk g hR)
set_option maxHeartbeats 4000000 in
set_option maxRecDepth 100000 in
theorem vfX11_isFree {G : XT → Prop} (hk : kpA G) (Q : Int32 → XT → Prop) : ∀ k : Nat, (∀ (t : XT) (li : Nat → Int32) (lj : Nat → Int64), G t → wpX11_isFree k 0 t li lj Q → wpX11_isFree k 0 t li lj (fun r t => Q r t ∧ G t)) := by
  intro k
  induction k with
  | zero => exact fun _ _ _ _ hR => False.elim hR
  | succ k ih =>
    intro t li lj g hR
    have hR : wbX11_isFree_0 (wpX11_isFree k) k t li lj Q := hR
    show wbX11_isFree_0 (wpX11_isFree k) k t li lj (fun r t => Q r t ∧ G t)
    unfold wbX11_isFree_0 at hR ⊢
    exact ⟨hR.1, fun x1 e1 => fun x2 e2 => wcJ13_bitCount_95d88 ((hR.2 x1 e1) x2 e2) (fun y3_0 h3 => ⟨fun c4 => wcX11_lowest (h3.1 c4) (fun y5_0 h5 => ⟨h5.1, fun x6 e6 => fun x7 e7 => fun x8 e8 => ⟨fun c9 => ⟨((((h5.2 x6 e6) x7 e7) x8 e8).1 c9), g⟩, fun c10 => ⟨((((h5.2 x6 e6) x7 e7) x8 e8).2 c10), g⟩⟩⟩), fun c11 => ⟨(h3.2 c11), g⟩⟩)⟩
theorem vgX11_isFree {G : XT → Prop} {k : Nat} {t : XT} {a1 : Int32} {Q : Int32 → XT → Prop} (hk : kpA G) (g : G t) (hR : wqX11_isFree k t a1 Q) : wqX11_isFree k t a1 (fun r t => Q r t ∧ G t) := (vfX11_isFree hk Q k) t _ _ g hR
theorem vtX11_isFree {G : XT → Prop} {k : Nat} {t : XT} {a1 : Int32} {Q Q' : Int32 → XT → Prop} (hk : kpA G) (g : G t) (hR : wqX11_isFree k t a1 Q) (hQ : (∀ r t, Q r t → G t → Q' r t)) : wqX11_isFree k t a1 Q' := wmX11_isFree (Nat.le_refl k) (fun r t h => hQ r t h.1 h.2) (vgX11_isFree hk g hR)
set_option maxHeartbeats 4000000 in
set_option maxRecDepth 100000 in
theorem vfX6_drop {G : XT → Prop} (hk : kpA G) (Q : XT → Prop) : ∀ k : Nat, (∀ (t : XT) (li : Nat → Int32) (lj : Nat → Int64), G t → wpX6_drop k 0 t li lj Q → wpX6_drop k 0 t li lj (fun t => Q t ∧ G t)) := by
  intro k
  induction k with
  | zero => exact fun _ _ _ _ hR => False.elim hR
  | succ k ih =>
    intro t li lj g hR
    have hR : wbX6_drop_0 (wpX6_drop k) k t li lj Q := hR
    show wbX6_drop_0 (wpX6_drop k) k t li lj (fun t => Q t ∧ G t)
    unfold wbX6_drop_0 at hR ⊢
    exact vtX6_divide hk g hR (fun y1_0 h1 g1 => wcX11_bit h1 (fun y2_0 h2 => fun x3 e3 => fun x4 e4 => fun x5 e5 => have g5 : G x5 := (by rw [e5]; exact hk.2.1 _ _ _ g1); fun x6 e6 => fun x7 e7 => have g7 : G x7 := (by rw [e7]; exact hk.1 _ _ _ g5); ⟨(((((h2 x3 e3) x4 e4) x5 e5) x6 e6) x7 e7), g7⟩))
theorem vgX6_drop {G : XT → Prop} {k : Nat} {t : XT} {a1 : Int32} {Q : XT → Prop} (hk : kpA G) (g : G t) (hR : wqX6_drop k t a1 Q) : wqX6_drop k t a1 (fun t => Q t ∧ G t) := (vfX6_drop hk Q k) t _ _ g hR
theorem vtX6_drop {G : XT → Prop} {k : Nat} {t : XT} {a1 : Int32} {Q Q' : XT → Prop} (hk : kpA G) (g : G t) (hR : wqX6_drop k t a1 Q) (hQ : (∀ t, Q t → G t → Q' t)) : wqX6_drop k t a1 Q' := wmX6_drop (Nat.le_refl k) (fun t h => hQ t h.1 h.2) (vgX6_drop hk g hR)
set_option maxHeartbeats 4000000 in
set_option maxRecDepth 100000 in
theorem vfX11_collapse {G : XT → Prop} (hk : kpA G) (Q : Int32 → XT → Prop) : ∀ k : Nat, (∀ (t : XT) (li : Nat → Int32) (lj : Nat → Int64), G t → wpX11_collapse k 0 t li lj Q → wpX11_collapse k 0 t li lj (fun r t => Q r t ∧ G t)) := by
  intro k
  induction k with
  | zero => exact fun _ _ _ _ hR => False.elim hR
  | succ k ih =>
    intro t li lj g hR
    have hR : wbX11_collapse_0 (wpX11_collapse k) k t li lj Q := hR
    show wbX11_collapse_0 (wpX11_collapse k) k t li lj (fun r t => Q r t ∧ G t)
    unfold wbX11_collapse_0 at hR ⊢
    exact vtX11_isThere hk g hR (fun y1_0 y1_1 h1 g1 => ⟨fun c2 => vtX11_isFree hk g1 (h1.1 c2) (fun y3_0 y3_1 h3 g3 => ⟨fun c4 => vtX3_save_c4 hk g3 (h3.1 c4) (fun y5_0 h5 g5 => ⟨h5.1, fun x6 e6 => fun x7 e7 => wcX11_lowest ((h5.2 x6 e6) x7 e7) (fun y8_0 h8 => vtX6_drop hk g5 h8 (fun y9_0 h9 g9 => vtX6_drop hk g9 h9 (fun y10_0 h10 g10 => wcJ13_bitCount_95d88 h10 (fun y11_0 h11 => ⟨h11, g10⟩))))⟩), fun c12 => ⟨(h3.2 c12), g3⟩⟩), fun c13 => ⟨(h1.2 c13), g1⟩⟩)
theorem vgX11_collapse {G : XT → Prop} {k : Nat} {t : XT} {a1 : Int32} {Q : Int32 → XT → Prop} (hk : kpA G) (g : G t) (hR : wqX11_collapse k t a1 Q) : wqX11_collapse k t a1 (fun r t => Q r t ∧ G t) := (vfX11_collapse hk Q k) t _ _ g hR
theorem vtX11_collapse {G : XT → Prop} {k : Nat} {t : XT} {a1 : Int32} {Q Q' : Int32 → XT → Prop} (hk : kpA G) (g : G t) (hR : wqX11_collapse k t a1 Q) (hQ : (∀ r t, Q r t → G t → Q' r t)) : wqX11_collapse k t a1 Q' := wmX11_collapse (Nat.le_refl k) (fun r t h => hQ r t h.1 h.2) (vgX11_collapse hk g hR)
set_option maxHeartbeats 4000000 in
set_option maxRecDepth 100000 in
theorem vfX6_takeBack_c27 {G : XT → Prop} (hk : kpA G) (Q : XT → Prop) : ∀ k : Nat, (∀ (t : XT) (li : Nat → Int32) (lj : Nat → Int64), G t → wpX6_takeBack_c27 k 0 t li lj Q → wpX6_takeBack_c27 k 0 t li lj (fun t => Q t ∧ G t)) ∧ (∀ (t : XT) (li : Nat → Int32) (lj : Nat → Int64), G t → wpX6_takeBack_c27 k 1 t li lj Q → wpX6_takeBack_c27 k 1 t li lj (fun t => Q t ∧ G t)) ∧ (∀ (t : XT) (li : Nat → Int32) (lj : Nat → Int64), G t → wpX6_takeBack_c27 k 2 t li lj Q → wpX6_takeBack_c27 k 2 t li lj (fun t => Q t ∧ G t)) := by
  intro k
  induction k with
  | zero => exact ⟨fun _ _ _ _ hR => False.elim hR, fun _ _ _ _ hR => False.elim hR, fun _ _ _ _ hR => False.elim hR⟩
  | succ k ih =>
    refine ⟨?_, ?_, ?_⟩
    · intro t li lj g hR
      have hR : wbX6_takeBack_c27_0 (wpX6_takeBack_c27 k) k t li lj Q := hR
      show wbX6_takeBack_c27_0 (wpX6_takeBack_c27 k) k t li lj (fun t => Q t ∧ G t)
      unfold wbX6_takeBack_c27_0 at hR ⊢
      exact vtX6_restart hk g hR (fun y1_0 h1 g1 => ih.2.1 _ _ _ g1 h1)
    · intro t li lj g hR
      have hR : wbX6_takeBack_c27_1 (wpX6_takeBack_c27 k) k t li lj Q := hR
      show wbX6_takeBack_c27_1 (wpX6_takeBack_c27 k) k t li lj (fun t => Q t ∧ G t)
      unfold wbX6_takeBack_c27_1 at hR ⊢
      exact ⟨fun c1 => ⟨(hR.1 c1), g⟩, fun c2 => fun x3 e3 => ⟨fun c4 => ⟨(((hR.2 c2) x3 e3).1 c4), g⟩, fun c5 => fun x6 e6 => ⟨((((hR.2 c2) x3 e3).2 c5) x6 e6).1, fun x7 e7 => ⟨fun c8 => ih.2.2 _ _ _ g ((((((hR.2 c2) x3 e3).2 c5) x6 e6).2 x7 e7).1 c8), fun c9 => vtX6_unite hk g ((((((hR.2 c2) x3 e3).2 c5) x6 e6).2 x7 e7).2 c9) (fun y10_0 h10 g10 => ih.2.2 _ _ _ g10 h10)⟩⟩⟩⟩
    · intro t li lj g hR
      have hR : wbX6_takeBack_c27_2 (wpX6_takeBack_c27 k) k t li lj Q := hR
      show wbX6_takeBack_c27_2 (wpX6_takeBack_c27 k) k t li lj (fun t => Q t ∧ G t)
      unfold wbX6_takeBack_c27_2 at hR ⊢
      exact fun x1 e1 => ih.2.1 _ _ _ g (hR x1 e1)
theorem vgX6_takeBack_c27 {G : XT → Prop} {k : Nat} {t : XT} {a2 : Int32} {a3 : Int64} {Q : XT → Prop} (hk : kpA G) (g : G t) (hR : wqX6_takeBack_c27 k t a2 a3 Q) : wqX6_takeBack_c27 k t a2 a3 (fun t => Q t ∧ G t) := (vfX6_takeBack_c27 hk Q k).1 t _ _ g hR
theorem vtX6_takeBack_c27 {G : XT → Prop} {k : Nat} {t : XT} {a2 : Int32} {a3 : Int64} {Q Q' : XT → Prop} (hk : kpA G) (g : G t) (hR : wqX6_takeBack_c27 k t a2 a3 Q) (hQ : (∀ t, Q t → G t → Q' t)) : wqX6_takeBack_c27 k t a2 a3 Q' := wmX6_takeBack_c27 (Nat.le_refl k) (fun t h => hQ t h.1 h.2) (vgX6_takeBack_c27 hk g hR)
set_option maxHeartbeats 4000000 in
set_option maxRecDepth 100000 in
theorem vfX3_restore_c4 {G : XT → Prop} (hk : kpA G) (Q : XT → Prop) : ∀ k : Nat, (∀ (t : XT) (li : Nat → Int32) (lj : Nat → Int64), G t → wpX3_restore_c4 k 0 t li lj Q → wpX3_restore_c4 k 0 t li lj (fun t => Q t ∧ G t)) := by
  intro k
  induction k with
  | zero => exact fun _ _ _ _ hR => False.elim hR
  | succ k ih =>
    intro t li lj g hR
    have hR : wbX3_restore_c4_0 (wpX3_restore_c4 k) k t li lj Q := hR
    show wbX3_restore_c4_0 (wpX3_restore_c4 k) k t li lj (fun t => Q t ∧ G t)
    unfold wbX3_restore_c4_0 at hR ⊢
    exact ⟨fun c1 => fun x2 e2 => fun x3 e3 => ⟨(((hR.1 c1) x2 e2) x3 e3).1, fun x4 e4 => fun x5 e5 => have g5 : G x5 := (by rw [e5]; exact hk.1 _ _ _ g); fun x6 e6 => fun x7 e7 => have g7 : G x7 := (by rw [e7]; exact hk.1 _ _ _ g5); fun x8 e8 => ⟨((((((((hR.1 c1) x2 e2) x3 e3).2 x4 e4) x5 e5) x6 e6) x7 e7) x8 e8).1, fun x9 e9 => vtX6_takeBack_c27 hk g7 (((((((((hR.1 c1) x2 e2) x3 e3).2 x4 e4) x5 e5) x6 e6) x7 e7) x8 e8).2 x9 e9) (fun y10_0 h10 g10 => ⟨h10, g10⟩)⟩⟩, fun c11 => ⟨(hR.2 c11), g⟩⟩
theorem vgX3_restore_c4 {G : XT → Prop} {k : Nat} {t : XT}  {Q : XT → Prop} (hk : kpA G) (g : G t) (hR : wqX3_restore_c4 k t  Q) : wqX3_restore_c4 k t  (fun t => Q t ∧ G t) := (vfX3_restore_c4 hk Q k) t _ _ g hR
theorem vtX3_restore_c4 {G : XT → Prop} {k : Nat} {t : XT}  {Q Q' : XT → Prop} (hk : kpA G) (g : G t) (hR : wqX3_restore_c4 k t  Q) (hQ : (∀ t, Q t → G t → Q' t)) : wqX3_restore_c4 k t  Q' := wmX3_restore_c4 (Nat.le_refl k) (fun t h => hQ t h.1 h.2) (vgX3_restore_c4 hk g hR)
set_option maxHeartbeats 4000000 in
set_option maxRecDepth 100000 in
theorem vfX11_undo {G : XT → Prop} (hk : kpA G) (Q : Int32 → XT → Prop) : ∀ k : Nat, (∀ (t : XT) (li : Nat → Int32) (lj : Nat → Int64), G t → wpX11_undo k 0 t li lj Q → wpX11_undo k 0 t li lj (fun r t => Q r t ∧ G t)) := by
  intro k
  induction k with
  | zero => exact fun _ _ _ _ hR => False.elim hR
  | succ k ih =>
    intro t li lj g hR
    have hR : wbX11_undo_0 (wpX11_undo k) k t li lj Q := hR
    show wbX11_undo_0 (wpX11_undo k) k t li lj (fun r t => Q r t ∧ G t)
    unfold wbX11_undo_0 at hR ⊢
    exact ⟨fun c1 => vtX3_restore_c4 hk g (hR.1 c1) (fun y2_0 h2 g2 => ⟨h2, g2⟩), fun c3 => ⟨(hR.2 c3), g⟩⟩
theorem vgX11_undo {G : XT → Prop} {k : Nat} {t : XT}  {Q : Int32 → XT → Prop} (hk : kpA G) (g : G t) (hR : wqX11_undo k t  Q) : wqX11_undo k t  (fun r t => Q r t ∧ G t) := (vfX11_undo hk Q k) t _ _ g hR
theorem vtX11_undo {G : XT → Prop} {k : Nat} {t : XT}  {Q Q' : Int32 → XT → Prop} (hk : kpA G) (g : G t) (hR : wqX11_undo k t  Q) (hQ : (∀ r t, Q r t → G t → Q' r t)) : wqX11_undo k t  Q' := wmX11_undo (Nat.le_refl k) (fun r t h => hQ r t h.1 h.2) (vgX11_undo hk g hR)
set_option maxHeartbeats 4000000 in
set_option maxRecDepth 100000 in
theorem vfX11_critical {G : XT → Prop} (hk : kpA G) (Q : Int32 → XT → Prop) : ∀ k : Nat, (∀ (t : XT) (li : Nat → Int32) (lj : Nat → Int64), G t → wpX11_critical k 0 t li lj Q → wpX11_critical k 0 t li lj (fun r t => Q r t ∧ G t)) ∧ (∀ (t : XT) (li : Nat → Int32) (lj : Nat → Int64), G t → wpX11_critical k 1 t li lj Q → wpX11_critical k 1 t li lj (fun r t => Q r t ∧ G t)) := by
  intro k
  induction k with
  | zero => exact ⟨fun _ _ _ _ hR => False.elim hR, fun _ _ _ _ hR => False.elim hR⟩
  | succ k ih =>
    refine ⟨?_, ?_⟩
    · intro t li lj g hR
      have hR : wbX11_critical_0 (wpX11_critical k) k t li lj Q := hR
      show wbX11_critical_0 (wpX11_critical k) k t li lj (fun r t => Q r t ∧ G t)
      unfold wbX11_critical_0 at hR ⊢
      exact wcX11_isDim hR (fun y1_0 h1 => ⟨fun c2 => ih.2 _ _ _ g (h1.1 c2), fun c3 => ⟨fun c4 => vtX6_unpaired hk g ((h1.2 c3).1 c4) (fun y5_0 y5_1 h5 g5 => ⟨h5.1, fun x6 e6 => fun x7 e7 => wcX11_listed ((h5.2 x6 e6) x7 e7) (fun y8_0 h8 => ⟨h8, g5⟩)⟩), fun c9 => ih.2 _ _ _ g ((h1.2 c3).2 c9)⟩⟩)
    · intro t li lj g hR
      have hR : wbX11_critical_1 (wpX11_critical k) k t li lj Q := hR
      show wbX11_critical_1 (wpX11_critical k) k t li lj (fun r t => Q r t ∧ G t)
      unfold wbX11_critical_1 at hR ⊢
      exact ⟨hR, g⟩
theorem vgX11_critical {G : XT → Prop} {k : Nat} {t : XT} {a1 : Int32} {a2 : Int32} {Q : Int32 → XT → Prop} (hk : kpA G) (g : G t) (hR : wqX11_critical k t a1 a2 Q) : wqX11_critical k t a1 a2 (fun r t => Q r t ∧ G t) := (vfX11_critical hk Q k).1 t _ _ g hR
theorem vtX11_critical {G : XT → Prop} {k : Nat} {t : XT} {a1 : Int32} {a2 : Int32} {Q Q' : Int32 → XT → Prop} (hk : kpA G) (g : G t) (hR : wqX11_critical k t a1 a2 Q) (hQ : (∀ r t, Q r t → G t → Q' r t)) : wqX11_critical k t a1 a2 Q' := wmX11_critical (Nat.le_refl k) (fun r t h => hQ r t h.1 h.2) (vgX11_critical hk g hR)
set_option maxHeartbeats 4000000 in
set_option maxRecDepth 100000 in
theorem vfX11_paths {G : XT → Prop} (hk : kpA G) (Q : Int64 → XT → Prop) : ∀ k : Nat, (∀ (t : XT) (li : Nat → Int32) (lj : Nat → Int64), G t → wpX11_paths k 0 t li lj Q → wpX11_paths k 0 t li lj (fun r t => Q r t ∧ G t)) := by
  intro k
  induction k with
  | zero => exact fun _ _ _ _ hR => False.elim hR
  | succ k ih =>
    intro t li lj g hR
    have hR : wbX11_paths_0 (wpX11_paths k) k t li lj Q := hR
    show wbX11_paths_0 (wpX11_paths k) k t li lj (fun r t => Q r t ∧ G t)
    unfold wbX11_paths_0 at hR ⊢
    exact vtX11_areEnds hk g hR (fun y1_0 y1_1 h1 g1 => ⟨fun c2 => vtX1_countWays hk g1 (h1.1 c2) (fun y3_0 y3_1 h3 g3 => ⟨h3, g3⟩), fun c4 => ⟨(h1.2 c4), g1⟩⟩)
theorem vgX11_paths {G : XT → Prop} {k : Nat} {t : XT} {a1 : Int32} {a2 : Int32} {Q : Int64 → XT → Prop} (hk : kpA G) (g : G t) (hR : wqX11_paths k t a1 a2 Q) : wqX11_paths k t a1 a2 (fun r t => Q r t ∧ G t) := (vfX11_paths hk Q k) t _ _ g hR
theorem vtX11_paths {G : XT → Prop} {k : Nat} {t : XT} {a1 : Int32} {a2 : Int32} {Q Q' : Int64 → XT → Prop} (hk : kpA G) (g : G t) (hR : wqX11_paths k t a1 a2 Q) (hQ : (∀ r t, Q r t → G t → Q' r t)) : wqX11_paths k t a1 a2 Q' := wmX11_paths (Nat.le_refl k) (fun r t h => hQ r t h.1 h.2) (vgX11_paths hk g hR)
set_option maxHeartbeats 4000000 in
set_option maxRecDepth 100000 in
theorem vfX11_path {G : XT → Prop} (hk : kpA G) (Q : Int32 → XT → Prop) : ∀ k : Nat, (∀ (t : XT) (li : Nat → Int32) (lj : Nat → Int64), G t → wpX11_path k 0 t li lj Q → wpX11_path k 0 t li lj (fun r t => Q r t ∧ G t)) ∧ (∀ (t : XT) (li : Nat → Int32) (lj : Nat → Int64), G t → wpX11_path k 1 t li lj Q → wpX11_path k 1 t li lj (fun r t => Q r t ∧ G t)) := by
  intro k
  induction k with
  | zero => exact ⟨fun _ _ _ _ hR => False.elim hR, fun _ _ _ _ hR => False.elim hR⟩
  | succ k ih =>
    refine ⟨?_, ?_⟩
    · intro t li lj g hR
      have hR : wbX11_path_0 (wpX11_path k) k t li lj Q := hR
      show wbX11_path_0 (wpX11_path k) k t li lj (fun r t => Q r t ∧ G t)
      unfold wbX11_path_0 at hR ⊢
      exact vtX11_areEnds hk g hR (fun y1_0 y1_1 h1 g1 => ⟨fun c2 => ih.2 _ _ _ g1 (h1.1 c2), fun c3 => ⟨fun c4 => ih.2 _ _ _ g1 ((h1.2 c3).1 c4), fun c5 => ⟨fun c6 => fun x7 e7 => vtX1_countWays hk g1 ((((h1.2 c3).2 c5).1 c6) x7 e7) (fun y8_0 y8_1 h8 g8 => fun x9 e9 => ⟨fun c10 => fun x11 e11 => vtX1_trace hk g8 (((h8 x9 e9).1 c10) x11 e11) (fun y12_0 y12_1 h12 g12 => ⟨fun c13 => ⟨fun c14 => ⟨((h12.1 c13).1 c14), g12⟩, fun c15 => ⟨((h12.1 c13).2 c15).1, fun x16 e16 => ⟨(((h12.1 c13).2 c15).2 x16 e16), g12⟩⟩⟩, fun c17 => ⟨(h12.2 c17), g12⟩⟩), fun c18 => ⟨((h8 x9 e9).2 c18), g8⟩⟩), fun c19 => ih.2 _ _ _ g1 (((h1.2 c3).2 c5).2 c19)⟩⟩⟩)
    · intro t li lj g hR
      have hR : wbX11_path_1 (wpX11_path k) k t li lj Q := hR
      show wbX11_path_1 (wpX11_path k) k t li lj (fun r t => Q r t ∧ G t)
      unfold wbX11_path_1 at hR ⊢
      exact ⟨hR, g⟩
theorem vgX11_path {G : XT → Prop} {k : Nat} {t : XT} {a1 : Int32} {a2 : Int32} {a3 : Int32} {a4 : Int32} {Q : Int32 → XT → Prop} (hk : kpA G) (g : G t) (hR : wqX11_path k t a1 a2 a3 a4 Q) : wqX11_path k t a1 a2 a3 a4 (fun r t => Q r t ∧ G t) := (vfX11_path hk Q k).1 t _ _ g hR
theorem vtX11_path {G : XT → Prop} {k : Nat} {t : XT} {a1 : Int32} {a2 : Int32} {a3 : Int32} {a4 : Int32} {Q Q' : Int32 → XT → Prop} (hk : kpA G) (g : G t) (hR : wqX11_path k t a1 a2 a3 a4 Q) (hQ : (∀ r t, Q r t → G t → Q' r t)) : wqX11_path k t a1 a2 a3 a4 Q' := wmX11_path (Nat.le_refl k) (fun r t h => hQ r t h.1 h.2) (vgX11_path hk g hR)
set_option maxHeartbeats 4000000 in
set_option maxRecDepth 100000 in
theorem vfX1_start {G : XT → Prop} (hk : kpA G) (Q : XT → Prop) : ∀ k : Nat, (∀ (t : XT) (li : Nat → Int32) (lj : Nat → Int64), G t → wpX1_start k 0 t li lj Q → wpX1_start k 0 t li lj (fun t => Q t ∧ G t)) := by
  intro k
  induction k with
  | zero => exact fun _ _ _ _ hR => False.elim hR
  | succ k ih =>
    intro t li lj g hR
    have hR : wbX1_start_0 (wpX1_start k) k t li lj Q := hR
    show wbX1_start_0 (wpX1_start k) k t li lj (fun t => Q t ∧ G t)
    unfold wbX1_start_0 at hR ⊢
    exact vtX2_measure hk g hR (fun y1_0 h1 g1 => fun x2 e2 => have g2 : G x2 := (by rw [e2]; exact hk.2.2.2 _ _ _ g1); ⟨(h1 x2 e2).1, fun x3 e3 => have g3 : G x3 := (by rw [e3]; exact hk.2.2.2 _ _ _ g2); ⟨((h1 x2 e2).2 x3 e3), g3⟩⟩)
theorem vgX1_start {G : XT → Prop} {k : Nat} {t : XT} {a1 : Int32} {Q : XT → Prop} (hk : kpA G) (g : G t) (hR : wqX1_start k t a1 Q) : wqX1_start k t a1 (fun t => Q t ∧ G t) := (vfX1_start hk Q k) t _ _ g hR
theorem vtX1_start {G : XT → Prop} {k : Nat} {t : XT} {a1 : Int32} {Q Q' : XT → Prop} (hk : kpA G) (g : G t) (hR : wqX1_start k t a1 Q) (hQ : (∀ t, Q t → G t → Q' t)) : wqX1_start k t a1 Q' := wmX1_start (Nat.le_refl k) (fun t h => hQ t h.1 h.2) (vgX1_start hk g hR)
set_option maxHeartbeats 4000000 in
set_option maxRecDepth 100000 in
theorem vfX1_goDown {G : XT → Prop} (hk : kpA G) (Q : XT → Prop) : ∀ k : Nat, (∀ (t : XT) (li : Nat → Int32) (lj : Nat → Int64), G t → wpX1_goDown k 0 t li lj Q → wpX1_goDown k 0 t li lj (fun t => Q t ∧ G t)) ∧ (∀ (t : XT) (li : Nat → Int32) (lj : Nat → Int64), G t → wpX1_goDown k 1 t li lj Q → wpX1_goDown k 1 t li lj (fun t => Q t ∧ G t)) ∧ (∀ (t : XT) (li : Nat → Int32) (lj : Nat → Int64), G t → wpX1_goDown k 2 t li lj Q → wpX1_goDown k 2 t li lj (fun t => Q t ∧ G t)) := by
  intro k
  induction k with
  | zero => exact ⟨fun _ _ _ _ hR => False.elim hR, fun _ _ _ _ hR => False.elim hR, fun _ _ _ _ hR => False.elim hR⟩
  | succ k ih =>
    refine ⟨?_, ?_, ?_⟩
    · intro t li lj g hR
      have hR : wbX1_goDown_0 (wpX1_goDown k) k t li lj Q := hR
      show wbX1_goDown_0 (wpX1_goDown k) k t li lj (fun t => Q t ∧ G t)
      unfold wbX1_goDown_0 at hR ⊢
      exact vtX6_below hk g hR (fun y1_0 y1_1 h1 g1 => ih.2.1 _ _ _ g1 h1)
    · intro t li lj g hR
      have hR : wbX1_goDown_1 (wpX1_goDown k) k t li lj Q := hR
      show wbX1_goDown_1 (wpX1_goDown k) k t li lj (fun t => Q t ∧ G t)
      unfold wbX1_goDown_1 at hR ⊢
      exact ⟨fun c1 => ⟨(hR.1 c1), g⟩, fun c2 => fun x3 e3 => ⟨fun c4 => ⟨(((hR.2 c2) x3 e3).1 c4), g⟩, fun c5 => wcX11_lowest (((hR.2 c2) x3 e3).2 c5) (fun y6_0 h6 => fun x7 e7 => fun x8 e8 => ⟨((h6 x7 e7) x8 e8).1, fun x9 e9 => ⟨fun c10 => ⟨((((h6 x7 e7) x8 e8).2 x9 e9).1 c10).1, fun x11 e11 => ih.2.2 _ _ _ g (((((h6 x7 e7) x8 e8).2 x9 e9).1 c10).2 x11 e11)⟩, fun c12 => ⟨((((h6 x7 e7) x8 e8).2 x9 e9).2 c12).1, fun x13 e13 => vtX9_signOf hk g (((((h6 x7 e7) x8 e8).2 x9 e9).2 c12).2 x13 e13) (fun y14_0 y14_1 h14 g14 => fun x15 e15 => fun x16 e16 => ih.2.2 _ _ _ g14 ((h14 x15 e15) x16 e16))⟩⟩⟩)⟩⟩
    · intro t li lj g hR
      have hR : wbX1_goDown_2 (wpX1_goDown k) k t li lj Q := hR
      show wbX1_goDown_2 (wpX1_goDown k) k t li lj (fun t => Q t ∧ G t)
      unfold wbX1_goDown_2 at hR ⊢
      exact fun x1 e1 => ⟨(hR x1 e1).1, fun x2 e2 => have g2 : G x2 := (by rw [e2]; exact hk.2.2.2 _ _ _ g); fun x3 e3 => ih.2.1 _ _ _ g2 (((hR x1 e1).2 x2 e2) x3 e3)⟩
theorem vgX1_goDown {G : XT → Prop} {k : Nat} {t : XT} {a1 : Int32} {a2 : Int32} {Q : XT → Prop} (hk : kpA G) (g : G t) (hR : wqX1_goDown k t a1 a2 Q) : wqX1_goDown k t a1 a2 (fun t => Q t ∧ G t) := (vfX1_goDown hk Q k).1 t _ _ g hR
theorem vtX1_goDown {G : XT → Prop} {k : Nat} {t : XT} {a1 : Int32} {a2 : Int32} {Q Q' : XT → Prop} (hk : kpA G) (g : G t) (hR : wqX1_goDown k t a1 a2 Q) (hQ : (∀ t, Q t → G t → Q' t)) : wqX1_goDown k t a1 a2 Q' := wmX1_goDown (Nat.le_refl k) (fun t h => hQ t h.1 h.2) (vgX1_goDown hk g hR)
