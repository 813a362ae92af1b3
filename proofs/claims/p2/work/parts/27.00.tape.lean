/-! ===== the class: all but feed leave the TAPE's bytes as they are ===== -/
def kpA (G : XT → Prop) : Prop := (∀ u i v, G u → G (sI u i v)) ∧ (∀ u i v, G u → G (sJ u i v)) ∧ (∀ u i f, i ≠ 0 → G u → G (sA u i f)) ∧ (∀ u i f, G u → G (sB u i f))
set_option maxHeartbeats 4000000 in
set_option maxRecDepth 100000 in
theorem vfX11_end {G : XT → Prop} (hk : kpA G) (Q : Int32 → XT → Prop) : ∀ k : Nat, (∀ (t : XT) (li : Nat → Int32) (lj : Nat → Int64), G t → wpX11_end k 0 t li lj Q → wpX11_end k 0 t li lj (fun r t => Q r t ∧ G t)) ∧ (∀ (t : XT) (li : Nat → Int32) (lj : Nat → Int64), G t → wpX11_end k 1 t li lj Q → wpX11_end k 1 t li lj (fun r t => Q r t ∧ G t)) := by
  intro k
  induction k with
  | zero => exact ⟨fun _ _ _ _ hR => False.elim hR, fun _ _ _ _ hR => False.elim hR⟩
  | succ k ih =>
    refine ⟨?_, ?_⟩
    · intro t li lj g hR
      have hR : wbX11_end_0 (wpX11_end k) k t li lj Q := hR
      show wbX11_end_0 (wpX11_end k) k t li lj (fun r t => Q r t ∧ G t)
      unfold wbX11_end_0 at hR ⊢
      exact ⟨fun c1 => ih.2 _ _ _ g (hR.1 c1), fun c2 => ⟨fun c3 => fun x4 e4 => have g4 : G x4 := (by rw [e4]; exact hk.1 _ _ _ g); ⟨(((hR.2 c2).1 c3) x4 e4), g4⟩, fun c5 => ih.2 _ _ _ g ((hR.2 c2).2 c5)⟩⟩
    · intro t li lj g hR
      have hR : wbX11_end_1 (wpX11_end k) k t li lj Q := hR
      show wbX11_end_1 (wpX11_end k) k t li lj (fun r t => Q r t ∧ G t)
      unfold wbX11_end_1 at hR ⊢
      exact ⟨hR, g⟩
theorem vgX11_end {G : XT → Prop} {k : Nat} {t : XT} {a1 : Int32} {Q : Int32 → XT → Prop} (hk : kpA G) (g : G t) (hR : wqX11_end k t a1 Q) : wqX11_end k t a1 (fun r t => Q r t ∧ G t) := (vfX11_end hk Q k).1 t _ _ g hR
theorem vtX11_end {G : XT → Prop} {k : Nat} {t : XT} {a1 : Int32} {Q Q' : Int32 → XT → Prop} (hk : kpA G) (g : G t) (hR : wqX11_end k t a1 Q) (hQ : (∀ r t, Q r t → G t → Q' r t)) : wqX11_end k t a1 Q' := wmX11_end (Nat.le_refl k) (fun r t h => hQ r t h.1 h.2) (vgX11_end hk g hR)
set_option maxHeartbeats 4000000 in
set_option maxRecDepth 100000 in
theorem vfX10_at {G : XT → Prop} (hk : kpA G) (Q : Int32 → XT → Prop) : ∀ k : Nat, (∀ (t : XT) (li : Nat → Int32) (lj : Nat → Int64), G t → wpX10_at k 0 t li lj Q → wpX10_at k 0 t li lj (fun r t => Q r t ∧ G t)) ∧ (∀ (t : XT) (li : Nat → Int32) (lj : Nat → Int64), G t → wpX10_at k 1 t li lj Q → wpX10_at k 1 t li lj (fun r t => Q r t ∧ G t)) := by
  intro k
  induction k with
  | zero => exact ⟨fun _ _ _ _ hR => False.elim hR, fun _ _ _ _ hR => False.elim hR⟩
  | succ k ih =>
    refine ⟨?_, ?_⟩
    · intro t li lj g hR
      have hR : wbX10_at_0 (wpX10_at k) k t li lj Q := hR
      show wbX10_at_0 (wpX10_at k) k t li lj (fun r t => Q r t ∧ G t)
      unfold wbX10_at_0 at hR ⊢
      exact ⟨fun c1 => ih.2 _ _ _ g (hR.1 c1), fun c2 => ⟨fun c3 => ih.2 _ _ _ g ((hR.2 c2).1 c3), fun c4 => ⟨((hR.2 c2).2 c4).1, fun x5 e5 => ⟨(((hR.2 c2).2 c4).2 x5 e5), g⟩⟩⟩⟩
    · intro t li lj g hR
      have hR : wbX10_at_1 (wpX10_at k) k t li lj Q := hR
      show wbX10_at_1 (wpX10_at k) k t li lj (fun r t => Q r t ∧ G t)
      unfold wbX10_at_1 at hR ⊢
      exact ⟨hR, g⟩
theorem vgX10_at {G : XT → Prop} {k : Nat} {t : XT} {a1 : Int32} {Q : Int32 → XT → Prop} (hk : kpA G) (g : G t) (hR : wqX10_at k t a1 Q) : wqX10_at k t a1 (fun r t => Q r t ∧ G t) := (vfX10_at hk Q k).1 t _ _ g hR
theorem vtX10_at {G : XT → Prop} {k : Nat} {t : XT} {a1 : Int32} {Q Q' : Int32 → XT → Prop} (hk : kpA G) (g : G t) (hR : wqX10_at k t a1 Q) (hQ : (∀ r t, Q r t → G t → Q' r t)) : wqX10_at k t a1 Q' := wmX10_at (Nat.le_refl k) (fun r t h => hQ r t h.1 h.2) (vgX10_at hk g hR)
set_option maxHeartbeats 4000000 in
set_option maxRecDepth 100000 in
theorem vfX8_skipBlanks_c1 {G : XT → Prop} (hk : kpA G) (Q : XT → Prop) : ∀ k : Nat, (∀ (t : XT) (li : Nat → Int32) (lj : Nat → Int64), G t → wpX8_skipBlanks_c1 k 0 t li lj Q → wpX8_skipBlanks_c1 k 0 t li lj (fun t => Q t ∧ G t)) := by
  intro k
  induction k with
  | zero => exact fun _ _ _ _ hR => False.elim hR
  | succ k ih =>
    intro t li lj g hR
    have hR : wbX8_skipBlanks_c1_0 (wpX8_skipBlanks_c1 k) k t li lj Q := hR
    show wbX8_skipBlanks_c1_0 (wpX8_skipBlanks_c1 k) k t li lj (fun t => Q t ∧ G t)
    unfold wbX8_skipBlanks_c1_0 at hR ⊢
    exact ⟨fun c1 => ⟨(hR.1 c1), g⟩, fun c2 => vtX10_at hk g (hR.2 c2) (fun y3_0 y3_1 h3 g3 => ⟨fun c4 => ⟨(h3.1 c4), g3⟩, fun c5 => fun x6 e6 => fun x7 e7 => have g7 : G x7 := (by rw [e7]; exact hk.1 _ _ _ g3); ih _ _ _ g7 (((h3.2 c5) x6 e6) x7 e7)⟩)⟩
theorem vgX8_skipBlanks_c1 {G : XT → Prop} {k : Nat} {t : XT}  {Q : XT → Prop} (hk : kpA G) (g : G t) (hR : wqX8_skipBlanks_c1 k t  Q) : wqX8_skipBlanks_c1 k t  (fun t => Q t ∧ G t) := (vfX8_skipBlanks_c1 hk Q k) t _ _ g hR
theorem vtX8_skipBlanks_c1 {G : XT → Prop} {k : Nat} {t : XT}  {Q Q' : XT → Prop} (hk : kpA G) (g : G t) (hR : wqX8_skipBlanks_c1 k t  Q) (hQ : (∀ t, Q t → G t → Q' t)) : wqX8_skipBlanks_c1 k t  Q' := wmX8_skipBlanks_c1 (Nat.le_refl k) (fun t h => hQ t h.1 h.2) (vgX8_skipBlanks_c1 hk g hR)
set_option maxHeartbeats 4000000 in
set_option maxRecDepth 100000 in
theorem vfX8_tell {G : XT → Prop} (hk : kpA G) (Q : XT → Prop) : ∀ k : Nat, (∀ (t : XT) (li : Nat → Int32) (lj : Nat → Int64), G t → wpX8_tell k 0 t li lj Q → wpX8_tell k 0 t li lj (fun t => Q t ∧ G t)) ∧ (∀ (t : XT) (li : Nat → Int32) (lj : Nat → Int64), G t → wpX8_tell k 1 t li lj Q → wpX8_tell k 1 t li lj (fun t => Q t ∧ G t)) ∧ (∀ (t : XT) (li : Nat → Int32) (lj : Nat → Int64), G t → wpX8_tell k 2 t li lj Q → wpX8_tell k 2 t li lj (fun t => Q t ∧ G t)) := by
  intro k
  induction k with
  | zero => exact ⟨fun _ _ _ _ hR => False.elim hR, fun _ _ _ _ hR => False.elim hR, fun _ _ _ _ hR => False.elim hR⟩
  | succ k ih =>
    refine ⟨?_, ?_, ?_⟩
    · intro t li lj g hR
      have hR : wbX8_tell_0 (wpX8_tell k) k t li lj Q := hR
      show wbX8_tell_0 (wpX8_tell k) k t li lj (fun t => Q t ∧ G t)
      unfold wbX8_tell_0 at hR ⊢
      exact ih.2.1 _ _ _ g hR
    · intro t li lj g hR
      have hR : wbX8_tell_1 (wpX8_tell k) k t li lj Q := hR
      show wbX8_tell_1 (wpX8_tell k) k t li lj (fun t => Q t ∧ G t)
      unfold wbX8_tell_1 at hR ⊢
      exact ⟨fun c1 => ⟨(hR.1 c1), g⟩, fun c2 => ⟨fun c3 => ⟨((hR.2 c2).1 c3), g⟩, fun c4 => fun x5 e5 => fun x6 e6 => ⟨fun c7 => ih.2.2 _ _ _ g (((((hR.2 c2).2 c4) x5 e5) x6 e6).1 c7), fun c8 => ⟨(((((hR.2 c2).2 c4) x5 e5) x6 e6).2 c8).1, fun x9 e9 => ⟨fun c10 => ih.2.2 _ _ _ g (((((((hR.2 c2).2 c4) x5 e5) x6 e6).2 c8).2 x9 e9).1 c10), fun c11 => ⟨(((((((hR.2 c2).2 c4) x5 e5) x6 e6).2 c8).2 x9 e9).2 c11).1, fun x12 e12 => have g12 : G x12 := (by rw [e12]; exact hk.2.2.1 _ _ _ (by decide) g); fun x13 e13 => fun x14 e14 => have g14 : G x14 := (by rw [e14]; exact hk.1 _ _ _ g12); ih.2.2 _ _ _ g14 ((((((((((hR.2 c2).2 c4) x5 e5) x6 e6).2 c8).2 x9 e9).2 c11).2 x12 e12) x13 e13) x14 e14)⟩⟩⟩⟩⟩⟩
    · intro t li lj g hR
      have hR : wbX8_tell_2 (wpX8_tell k) k t li lj Q := hR
      show wbX8_tell_2 (wpX8_tell k) k t li lj (fun t => Q t ∧ G t)
      unfold wbX8_tell_2 at hR ⊢
      exact fun x1 e1 => ih.2.1 _ _ _ g (hR x1 e1)
theorem vgX8_tell {G : XT → Prop} {k : Nat} {t : XT} {a1 : Int32} {Q : XT → Prop} (hk : kpA G) (g : G t) (hR : wqX8_tell k t a1 Q) : wqX8_tell k t a1 (fun t => Q t ∧ G t) := (vfX8_tell hk Q k).1 t _ _ g hR
theorem vtX8_tell {G : XT → Prop} {k : Nat} {t : XT} {a1 : Int32} {Q Q' : XT → Prop} (hk : kpA G) (g : G t) (hR : wqX8_tell k t a1 Q) (hQ : (∀ t, Q t → G t → Q' t)) : wqX8_tell k t a1 Q' := wmX8_tell (Nat.le_refl k) (fun t h => hQ t h.1 h.2) (vgX8_tell hk g hR)
set_option maxHeartbeats 4000000 in
set_option maxRecDepth 100000 in
theorem vfX8_readFacet_c1 {G : XT → Prop} (hk : kpA G) (Q : Int32 → XT → Prop) : ∀ k : Nat, (∀ (t : XT) (li : Nat → Int32) (lj : Nat → Int64), G t → wpX8_readFacet_c1 k 0 t li lj Q → wpX8_readFacet_c1 k 0 t li lj (fun r t => Q r t ∧ G t)) ∧ (∀ (t : XT) (li : Nat → Int32) (lj : Nat → Int64), G t → wpX8_readFacet_c1 k 1 t li lj Q → wpX8_readFacet_c1 k 1 t li lj (fun r t => Q r t ∧ G t)) ∧ (∀ (t : XT) (li : Nat → Int32) (lj : Nat → Int64), G t → wpX8_readFacet_c1 k 2 t li lj Q → wpX8_readFacet_c1 k 2 t li lj (fun r t => Q r t ∧ G t)) := by
  intro k
  induction k with
  | zero => exact ⟨fun _ _ _ _ hR => False.elim hR, fun _ _ _ _ hR => False.elim hR, fun _ _ _ _ hR => False.elim hR⟩
  | succ k ih =>
    refine ⟨?_, ?_, ?_⟩
    · intro t li lj g hR
      have hR : wbX8_readFacet_c1_0 (wpX8_readFacet_c1 k) k t li lj Q := hR
      show wbX8_readFacet_c1_0 (wpX8_readFacet_c1 k) k t li lj (fun r t => Q r t ∧ G t)
      unfold wbX8_readFacet_c1_0 at hR ⊢
      exact vtX10_at hk g hR (fun y1_0 y1_1 h1 g1 => wcX8_isLetter h1 (fun y2_0 h2 => ⟨fun c3 => ⟨fun c4 => ih.2.1 _ _ _ g1 ((h2.1 c3).1 c4), fun c5 => wcX8_fault ((h2.1 c3).2 c5) (fun y6_0 h6 => ⟨h6, g1⟩)⟩, fun c7 => wcX8_fault (h2.2 c7) (fun y8_0 h8 => ⟨h8, g1⟩)⟩))
    · intro t li lj g hR
      have hR : wbX8_readFacet_c1_1 (wpX8_readFacet_c1 k) k t li lj Q := hR
      show wbX8_readFacet_c1_1 (wpX8_readFacet_c1 k) k t li lj (fun r t => Q r t ∧ G t)
      unfold wbX8_readFacet_c1_1 at hR ⊢
      exact ⟨fun c1 => ih.2.2 _ _ _ g (hR.1 c1), fun c2 => vtX10_at hk g (hR.2 c2) (fun y3_0 y3_1 h3 g3 => wcX8_isLetter h3 (fun y4_0 h4 => ⟨fun c5 => ih.2.2 _ _ _ g3 (h4.1 c5), fun c6 => vtX10_at hk g3 (h4.2 c6) (fun y7_0 y7_1 h7 g7 => fun x8 e8 => fun x9 e9 => fun x10 e10 => ⟨fun c11 => wcJ6_bitCount_0f7a4 ((((h7 x8 e8) x9 e9) x10 e10).1 c11) (fun y12_0 h12 => ⟨fun c13 => fun x14 e14 => fun x15 e15 => fun x16 e16 => have g16 : G x16 := (by rw [e16]; exact hk.1 _ _ _ g7); ih.2.1 _ _ _ g16 ((((h12.1 c13) x14 e14) x15 e15) x16 e16), fun c17 => wcX8_fault (h12.2 c17) (fun y18_0 h18 => ⟨h18, g7⟩)⟩), fun c19 => wcX8_fault ((((h7 x8 e8) x9 e9) x10 e10).2 c19) (fun y20_0 h20 => ⟨h20, g7⟩)⟩)⟩))⟩
    · intro t li lj g hR
      have hR : wbX8_readFacet_c1_2 (wpX8_readFacet_c1 k) k t li lj Q := hR
      show wbX8_readFacet_c1_2 (wpX8_readFacet_c1 k) k t li lj (fun r t => Q r t ∧ G t)
      unfold wbX8_readFacet_c1_2 at hR ⊢
      exact vtX8_tell hk g hR (fun y1_0 h1 g1 => ⟨fun c2 => ⟨(h1.1 c2), g1⟩, fun c3 => wcX8_fault (h1.2 c3) (fun y4_0 h4 => ⟨h4, g1⟩)⟩)
theorem vgX8_readFacet_c1 {G : XT → Prop} {k : Nat} {t : XT} {a2 : Int32} {Q : Int32 → XT → Prop} (hk : kpA G) (g : G t) (hR : wqX8_readFacet_c1 k t a2 Q) : wqX8_readFacet_c1 k t a2 (fun r t => Q r t ∧ G t) := (vfX8_readFacet_c1 hk Q k).1 t _ _ g hR
theorem vtX8_readFacet_c1 {G : XT → Prop} {k : Nat} {t : XT} {a2 : Int32} {Q Q' : Int32 → XT → Prop} (hk : kpA G) (g : G t) (hR : wqX8_readFacet_c1 k t a2 Q) (hQ : (∀ r t, Q r t → G t → Q' r t)) : wqX8_readFacet_c1 k t a2 Q' := wmX8_readFacet_c1 (Nat.le_refl k) (fun r t h => hQ r t h.1 h.2) (vgX8_readFacet_c1 hk g hR)
set_option maxHeartbeats 4000000 in
set_option maxRecDepth 100000 in
theorem vfX8_read_c1 {G : XT → Prop} (hk : kpA G) (Q : Int32 → XT → Prop) : ∀ k : Nat, (∀ (t : XT) (li : Nat → Int32) (lj : Nat → Int64), G t → wpX8_read_c1 k 0 t li lj Q → wpX8_read_c1 k 0 t li lj (fun r t => Q r t ∧ G t)) ∧ (∀ (t : XT) (li : Nat → Int32) (lj : Nat → Int64), G t → wpX8_read_c1 k 1 t li lj Q → wpX8_read_c1 k 1 t li lj (fun r t => Q r t ∧ G t)) := by
  intro k
  induction k with
  | zero => exact ⟨fun _ _ _ _ hR => False.elim hR, fun _ _ _ _ hR => False.elim hR⟩
  | succ k ih =>
    refine ⟨?_, ?_⟩
    · intro t li lj g hR
      have hR : wbX8_read_c1_0 (wpX8_read_c1 k) k t li lj Q := hR
      show wbX8_read_c1_0 (wpX8_read_c1 k) k t li lj (fun r t => Q r t ∧ G t)
      unfold wbX8_read_c1_0 at hR ⊢
      exact fun x1 e1 => have g1 : G x1 := (by rw [e1]; exact hk.2.2.1 _ _ _ (by decide) g); fun x2 e2 => have g2 : G x2 := (by rw [e2]; exact hk.1 _ _ _ g1); fun x3 e3 => have g3 : G x3 := (by rw [e3]; exact hk.1 _ _ _ g2); ih.2 _ _ _ g3 (((hR x1 e1) x2 e2) x3 e3)
    · intro t li lj g hR
      have hR : wbX8_read_c1_1 (wpX8_read_c1 k) k t li lj Q := hR
      show wbX8_read_c1_1 (wpX8_read_c1 k) k t li lj (fun r t => Q r t ∧ G t)
      unfold wbX8_read_c1_1 at hR ⊢
      exact ⟨fun c1 => wcX8_fault (hR.1 c1) (fun y2_0 h2 => ⟨h2, g⟩), fun c3 => vtX8_skipBlanks_c1 hk g (hR.2 c3) (fun y4_0 h4 g4 => vtX8_readFacet_c1 hk g4 h4 (fun y5_0 y5_1 h5 g5 => ⟨fun c6 => vtX8_skipBlanks_c1 hk g5 (h5.1 c6) (fun y7_0 h7 g7 => ⟨fun c8 => vtX10_at hk g7 (h7.1 c8) (fun y9_0 y9_1 h9 g9 => ⟨fun c10 => fun x11 e11 => fun x12 e12 => have g12 : G x12 := (by rw [e12]; exact hk.1 _ _ _ g9); fun x13 e13 => ih.2 _ _ _ g12 ((((h9.1 c10) x11 e11) x12 e12) x13 e13), fun c14 => wcX8_fault (h9.2 c14) (fun y15_0 h15 => ⟨h15, g9⟩)⟩), fun c16 => ⟨(h7.2 c16), g7⟩⟩), fun c17 => ⟨(h5.2 c17), g5⟩⟩))⟩
theorem vgX8_read_c1 {G : XT → Prop} {k : Nat} {t : XT}  {Q : Int32 → XT → Prop} (hk : kpA G) (g : G t) (hR : wqX8_read_c1 k t  Q) : wqX8_read_c1 k t  (fun r t => Q r t ∧ G t) := (vfX8_read_c1 hk Q k).1 t _ _ g hR
theorem vtX8_read_c1 {G : XT → Prop} {k : Nat} {t : XT}  {Q Q' : Int32 → XT → Prop} (hk : kpA G) (g : G t) (hR : wqX8_read_c1 k t  Q) (hQ : (∀ r t, Q r t → G t → Q' r t)) : wqX8_read_c1 k t  Q' := wmX8_read_c1 (Nat.le_refl k) (fun r t h => hQ r t h.1 h.2) (vgX8_read_c1 hk g hR)
set_option maxHeartbeats 4000000 in
set_option maxRecDepth 100000 in
theorem vfX9_add {G : XT → Prop} (hk : kpA G) (Q : XT → Prop) : ∀ k : Nat, (∀ (t : XT) (li : Nat → Int32) (lj : Nat → Int64), G t → wpX9_add k 0 t li lj Q → wpX9_add k 0 t li lj (fun t => Q t ∧ G t)) ∧ (∀ (t : XT) (li : Nat → Int32) (lj : Nat → Int64), G t → wpX9_add k 1 t li lj Q → wpX9_add k 1 t li lj (fun t => Q t ∧ G t)) ∧ (∀ (t : XT) (li : Nat → Int32) (lj : Nat → Int64), G t → wpX9_add k 2 t li lj Q → wpX9_add k 2 t li lj (fun t => Q t ∧ G t)) ∧ (∀ (t : XT) (li : Nat → Int32) (lj : Nat → Int64), G t → wpX9_add k 3 t li lj Q → wpX9_add k 3 t li lj (fun t => Q t ∧ G t)) := by
  intro k
  induction k with
  | zero => exact ⟨fun _ _ _ _ hR => False.elim hR, fun _ _ _ _ hR => False.elim hR, fun _ _ _ _ hR => False.elim hR, fun _ _ _ _ hR => False.elim hR⟩
  | succ k ih =>
    refine ⟨?_, ?_, ?_, ?_⟩
    · intro t li lj g hR
      have hR : wbX9_add_0 (wpX9_add k) k t li lj Q := hR
      show wbX9_add_0 (wpX9_add k) k t li lj (fun t => Q t ∧ G t)
      unfold wbX9_add_0 at hR ⊢
      exact ⟨hR.1, fun x1 e1 => have g1 : G x1 := (by rw [e1]; exact hk.2.2.1 _ _ _ (by decide) g); ⟨(hR.2 x1 e1).1, fun x2 e2 => have g2 : G x2 := (by rw [e2]; exact hk.2.2.1 _ _ _ (by decide) g1); ⟨((hR.2 x1 e1).2 x2 e2).1, fun x3 e3 => have g3 : G x3 := (by rw [e3]; exact hk.2.2.1 _ _ _ (by decide) g2); ⟨(((hR.2 x1 e1).2 x2 e2).2 x3 e3).1, fun x4 e4 => wcX11_bit ((((hR.2 x1 e1).2 x2 e2).2 x3 e3).2 x4 e4) (fun y5_0 h5 => fun x6 e6 => ⟨(h5 x6 e6).1, fun x7 e7 => have g7 : G x7 := (by rw [e7]; exact hk.2.2.2 _ _ _ g3); ih.2.1 _ _ _ g7 ((h5 x6 e6).2 x7 e7)⟩)⟩⟩⟩⟩
    · intro t li lj g hR
      have hR : wbX9_add_1 (wpX9_add k) k t li lj Q := hR
      show wbX9_add_1 (wpX9_add k) k t li lj (fun t => Q t ∧ G t)
      unfold wbX9_add_1 at hR ⊢
      exact ⟨fun c1 => fun x2 e2 => fun x3 e3 => have g3 : G x3 := (by rw [e3]; exact hk.1 _ _ _ g); ⟨(((hR.1 c1) x2 e2) x3 e3), g3⟩, fun c4 => fun x5 e5 => fun x6 e6 => fun x7 e7 => ⟨fun c8 => ih.2.2.1 _ _ _ g (((((hR.2 c4) x5 e5) x6 e6) x7 e7).1 c8), fun c9 => ⟨(((((hR.2 c4) x5 e5) x6 e6) x7 e7).2 c9).1, fun x10 e10 => ih.2.2.1 _ _ _ g ((((((hR.2 c4) x5 e5) x6 e6) x7 e7).2 c9).2 x10 e10)⟩⟩⟩
    · intro t li lj g hR
      have hR : wbX9_add_2 (wpX9_add k) k t li lj Q := hR
      show wbX9_add_2 (wpX9_add k) k t li lj (fun t => Q t ∧ G t)
      unfold wbX9_add_2 at hR ⊢
      exact ⟨fun c1 => ih.2.2.2 _ _ _ g (hR.1 c1), fun c2 => ⟨(hR.2 c2).1, fun x3 e3 => wcX11_bit ((hR.2 c2).2 x3 e3) (fun y4_0 h4 => fun x5 e5 => ⟨(h4 x5 e5).1, fun x6 e6 => have g6 : G x6 := (by rw [e6]; exact hk.2.2.2 _ _ _ g); ⟨((h4 x5 e5).2 x6 e6).1, fun x7 e7 => wcX11_bit (((h4 x5 e5).2 x6 e6).2 x7 e7) (fun y8_0 h8 => fun x9 e9 => ⟨(h8 x9 e9).1, fun x10 e10 => have g10 : G x10 := (by rw [e10]; exact hk.2.2.2 _ _ _ g6); ih.2.2.2 _ _ _ g10 ((h8 x9 e9).2 x10 e10)⟩)⟩⟩)⟩⟩
    · intro t li lj g hR
      have hR : wbX9_add_3 (wpX9_add k) k t li lj Q := hR
      show wbX9_add_3 (wpX9_add k) k t li lj (fun t => Q t ∧ G t)
      unfold wbX9_add_3 at hR ⊢
      exact fun x1 e1 => ih.2.1 _ _ _ g (hR x1 e1)
theorem vgX9_add {G : XT → Prop} {k : Nat} {t : XT} {a1 : Int32} {a2 : Int32} {Q : XT → Prop} (hk : kpA G) (g : G t) (hR : wqX9_add k t a1 a2 Q) : wqX9_add k t a1 a2 (fun t => Q t ∧ G t) := (vfX9_add hk Q k).1 t _ _ g hR
theorem vtX9_add {G : XT → Prop} {k : Nat} {t : XT} {a1 : Int32} {a2 : Int32} {Q Q' : XT → Prop} (hk : kpA G) (g : G t) (hR : wqX9_add k t a1 a2 Q) (hQ : (∀ t, Q t → G t → Q' t)) : wqX9_add k t a1 a2 Q' := wmX9_add (Nat.le_refl k) (fun t h => hQ t h.1 h.2) (vgX9_add hk g hR)
set_option maxHeartbeats 4000000 in
set_option maxRecDepth 100000 in
theorem vfX9_build_c13 {G : XT → Prop} (hk : kpA G) (Q : XT → Prop) : ∀ k : Nat, (∀ (t : XT) (li : Nat → Int32) (lj : Nat → Int64), G t → wpX9_build_c13 k 0 t li lj Q → wpX9_build_c13 k 0 t li lj (fun t => Q t ∧ G t)) ∧ (∀ (t : XT) (li : Nat → Int32) (lj : Nat → Int64), G t → wpX9_build_c13 k 1 t li lj Q → wpX9_build_c13 k 1 t li lj (fun t => Q t ∧ G t)) ∧ (∀ (t : XT) (li : Nat → Int32) (lj : Nat → Int64), G t → wpX9_build_c13 k 2 t li lj Q → wpX9_build_c13 k 2 t li lj (fun t => Q t ∧ G t)) ∧ (∀ (t : XT) (li : Nat → Int32) (lj : Nat → Int64), G t → wpX9_build_c13 k 3 t li lj Q → wpX9_build_c13 k 3 t li lj (fun t => Q t ∧ G t)) ∧ (∀ (t : XT) (li : Nat → Int32) (lj : Nat → Int64), G t → wpX9_build_c13 k 4 t li lj Q → wpX9_build_c13 k 4 t li lj (fun t => Q t ∧ G t)) := by
  intro k
  induction k with
  | zero => exact ⟨fun _ _ _ _ hR => False.elim hR, fun _ _ _ _ hR => False.elim hR, fun _ _ _ _ hR => False.elim hR, fun _ _ _ _ hR => False.elim hR, fun _ _ _ _ hR => False.elim hR⟩
  | succ k ih =>
    refine ⟨?_, ?_, ?_, ?_, ?_⟩
    · intro t li lj g hR
      have hR : wbX9_build_c13_0 (wpX9_build_c13 k) k t li lj Q := hR
      show wbX9_build_c13_0 (wpX9_build_c13 k) k t li lj (fun t => Q t ∧ G t)
      unfold wbX9_build_c13_0 at hR ⊢
      exact fun x1 e1 => have g1 : G x1 := (by rw [e1]; exact hk.1 _ _ _ g); fun x2 e2 => have g2 : G x2 := (by rw [e2]; exact hk.2.2.1 _ _ _ (by decide) g1); fun x3 e3 => have g3 : G x3 := (by rw [e3]; exact hk.2.2.2 _ _ _ g2); fun x4 e4 => have g4 : G x4 := (by rw [e4]; exact hk.2.2.2 _ _ _ g3); fun x5 e5 => have g5 : G x5 := (by rw [e5]; exact hk.2.2.2 _ _ _ g4); ih.2.1 _ _ _ g5 (((((hR x1 e1) x2 e2) x3 e3) x4 e4) x5 e5)
    · intro t li lj g hR
      have hR : wbX9_build_c13_1 (wpX9_build_c13 k) k t li lj Q := hR
      show wbX9_build_c13_1 (wpX9_build_c13 k) k t li lj (fun t => Q t ∧ G t)
      unfold wbX9_build_c13_1 at hR ⊢
      exact ⟨fun c1 => ⟨(hR.1 c1), g⟩, fun c2 => ih.2.2.1 _ _ _ g (hR.2 c2)⟩
    · intro t li lj g hR
      have hR : wbX9_build_c13_2 (wpX9_build_c13 k) k t li lj Q := hR
      show wbX9_build_c13_2 (wpX9_build_c13 k) k t li lj (fun t => Q t ∧ G t)
      unfold wbX9_build_c13_2 at hR ⊢
      exact ⟨fun c1 => ih.2.2.2.2 _ _ _ g (hR.1 c1), fun c2 => ⟨fun c3 => ih.2.2.2.2 _ _ _ g ((hR.2 c2).1 c3), fun c4 => ⟨((hR.2 c2).2 c4).1, fun x5 e5 => ⟨fun c6 => ih.2.2.2.1 _ _ _ g ((((hR.2 c2).2 c4).2 x5 e5).1 c6), fun c7 => wcJ6_bitCount_0f7a4 ((((hR.2 c2).2 c4).2 x5 e5).2 c7) (fun y8_0 h8 => fun x9 e9 => ⟨fun c10 => ih.2.2.2.1 _ _ _ g ((h8 x9 e9).1 c10), fun c11 => ⟨fun c12 => ih.2.2.2.1 _ _ _ g (((h8 x9 e9).2 c11).1 c12), fun c13 => vtX9_add hk g (((h8 x9 e9).2 c11).2 c13) (fun y14_0 h14 g14 => ih.2.2.2.1 _ _ _ g14 h14)⟩⟩)⟩⟩⟩⟩
    · intro t li lj g hR
      have hR : wbX9_build_c13_3 (wpX9_build_c13 k) k t li lj Q := hR
      show wbX9_build_c13_3 (wpX9_build_c13 k) k t li lj (fun t => Q t ∧ G t)
      unfold wbX9_build_c13_3 at hR ⊢
      exact fun x1 e1 => ih.2.2.1 _ _ _ g (hR x1 e1)
    · intro t li lj g hR
      have hR : wbX9_build_c13_4 (wpX9_build_c13 k) k t li lj Q := hR
      show wbX9_build_c13_4 (wpX9_build_c13 k) k t li lj (fun t => Q t ∧ G t)
      unfold wbX9_build_c13_4 at hR ⊢
      exact fun x1 e1 => ih.2.1 _ _ _ g (hR x1 e1)
theorem vgX9_build_c13 {G : XT → Prop} {k : Nat} {t : XT}  {Q : XT → Prop} (hk : kpA G) (g : G t) (hR : wqX9_build_c13 k t  Q) : wqX9_build_c13 k t  (fun t => Q t ∧ G t) := (vfX9_build_c13 hk Q k).1 t _ _ g hR
theorem vtX9_build_c13 {G : XT → Prop} {k : Nat} {t : XT}  {Q Q' : XT → Prop} (hk : kpA G) (g : G t) (hR : wqX9_build_c13 k t  Q) (hQ : (∀ t, Q t → G t → Q' t)) : wqX9_build_c13 k t  Q' := wmX9_build_c13 (Nat.le_refl k) (fun t h => hQ t h.1 h.2) (vgX9_build_c13 hk g hR)
set_option maxHeartbeats 4000000 in
set_option maxRecDepth 100000 in
theorem vfX9_all {G : XT → Prop} (hk : kpA G) (Q : Int64 → XT → Prop) : ∀ k : Nat, (∀ (t : XT) (li : Nat → Int32) (lj : Nat → Int64), G t → wpX9_all k 0 t li lj Q → wpX9_all k 0 t li lj (fun r t => Q r t ∧ G t)) := by
  intro k
  induction k with
  | zero => exact fun _ _ _ _ hR => False.elim hR
  | succ k ih =>
    intro t li lj g hR
    have hR : wbX9_all_0 (wpX9_all k) k t li lj Q := hR
    show wbX9_all_0 (wpX9_all k) k t li lj (fun r t => Q r t ∧ G t)
    unfold wbX9_all_0 at hR ⊢
    exact wcX11_bit hR (fun y1_0 h1 => fun x2 e2 => ⟨(h1 x2 e2), g⟩)
theorem vgX9_all {G : XT → Prop} {k : Nat} {t : XT}  {Q : Int64 → XT → Prop} (hk : kpA G) (g : G t) (hR : wqX9_all k t  Q) : wqX9_all k t  (fun r t => Q r t ∧ G t) := (vfX9_all hk Q k) t _ _ g hR
theorem vtX9_all {G : XT → Prop} {k : Nat} {t : XT}  {Q Q' : Int64 → XT → Prop} (hk : kpA G) (g : G t) (hR : wqX9_all k t  Q) (hQ : (∀ r t, Q r t → G t → Q' r t)) : wqX9_all k t  Q' := wmX9_all (Nat.le_refl k) (fun r t h => hQ r t h.1 h.2) (vgX9_all hk g hR)
set_option maxHeartbeats 4000000 in
set_option maxRecDepth 100000 in
theorem vfX6_restart {G : XT → Prop} (hk : kpA G) (Q : XT → Prop) : ∀ k : Nat, (∀ (t : XT) (li : Nat → Int32) (lj : Nat → Int64), G t → wpX6_restart k 0 t li lj Q → wpX6_restart k 0 t li lj (fun t => Q t ∧ G t)) := by
  intro k
  induction k with
  | zero => exact fun _ _ _ _ hR => False.elim hR
  | succ k ih =>
    intro t li lj g hR
    have hR : wbX6_restart_0 (wpX6_restart k) k t li lj Q := hR
    show wbX6_restart_0 (wpX6_restart k) k t li lj (fun t => Q t ∧ G t)
    unfold wbX6_restart_0 at hR ⊢
    exact fun x1 e1 => have g1 : G x1 := (by rw [e1]; exact hk.2.2.1 _ _ _ (by decide) g); fun x2 e2 => have g2 : G x2 := (by rw [e2]; exact hk.2.1 _ _ _ g1); fun x3 e3 => have g3 : G x3 := (by rw [e3]; exact hk.2.1 _ _ _ g2); fun x4 e4 => have g4 : G x4 := (by rw [e4]; exact hk.2.1 _ _ _ g3); fun x5 e5 => fun x6 e6 => have g6 : G x6 := (by rw [e6]; exact hk.1 _ _ _ g4); ⟨((((((hR x1 e1) x2 e2) x3 e3) x4 e4) x5 e5) x6 e6), g6⟩
theorem vgX6_restart {G : XT → Prop} {k : Nat} {t : XT} {a1 : Int64} {Q : XT → Prop} (hk : kpA G) (g : G t) (hR : wqX6_restart k t a1 Q) : wqX6_restart k t a1 (fun t => Q t ∧ G t) := (vfX6_restart hk Q k) t _ _ g hR
theorem vtX6_restart {G : XT → Prop} {k : Nat} {t : XT} {a1 : Int64} {Q Q' : XT → Prop} (hk : kpA G) (g : G t) (hR : wqX6_restart k t a1 Q) (hQ : (∀ t, Q t → G t → Q' t)) : wqX6_restart k t a1 Q' := wmX6_restart (Nat.le_refl k) (fun t h => hQ t h.1 h.2) (vgX6_restart hk g hR)
set_option maxHeartbeats 4000000 in
set_option maxRecDepth 100000 in
theorem vfX4_forget {G : XT → Prop} (hk : kpA G) (Q : XT → Prop) : ∀ k : Nat, (∀ (t : XT) (li : Nat → Int32) (lj : Nat → Int64), G t → wpX4_forget k 0 t li lj Q → wpX4_forget k 0 t li lj (fun t => Q t ∧ G t)) := by
  intro k
  induction k with
  | zero => exact fun _ _ _ _ hR => False.elim hR
  | succ k ih =>
    intro t li lj g hR
    have hR : wbX4_forget_0 (wpX4_forget k) k t li lj Q := hR
    show wbX4_forget_0 (wpX4_forget k) k t li lj (fun t => Q t ∧ G t)
    unfold wbX4_forget_0 at hR ⊢
    exact fun x1 e1 => have g1 : G x1 := (by rw [e1]; exact hk.2.1 _ _ _ g); ⟨(hR x1 e1), g1⟩
theorem vgX4_forget {G : XT → Prop} {k : Nat} {t : XT}  {Q : XT → Prop} (hk : kpA G) (g : G t) (hR : wqX4_forget k t  Q) : wqX4_forget k t  (fun t => Q t ∧ G t) := (vfX4_forget hk Q k) t _ _ g hR
theorem vtX4_forget {G : XT → Prop} {k : Nat} {t : XT}  {Q Q' : XT → Prop} (hk : kpA G) (g : G t) (hR : wqX4_forget k t  Q) (hQ : (∀ t, Q t → G t → Q' t)) : wqX4_forget k t  Q' := wmX4_forget (Nat.le_refl k) (fun t h => hQ t h.1 h.2) (vgX4_forget hk g hR)
set_option maxHeartbeats 4000000 in
set_option maxRecDepth 100000 in
theorem vfX11_complex {G : XT → Prop} (hk : kpA G) (Q : Int32 → XT → Prop) : ∀ k : Nat, (∀ (t : XT) (li : Nat → Int32) (lj : Nat → Int64), G t → wpX11_complex k 0 t li lj Q → wpX11_complex k 0 t li lj (fun r t => Q r t ∧ G t)) := by
  intro k
  induction k with
  | zero => exact fun _ _ _ _ hR => False.elim hR
  | succ k ih =>
    intro t li lj g hR
    have hR : wbX11_complex_0 (wpX11_complex k) k t li lj Q := hR
    show wbX11_complex_0 (wpX11_complex k) k t li lj (fun r t => Q r t ∧ G t)
    unfold wbX11_complex_0 at hR ⊢
    exact vtX8_read_c1 hk g hR (fun y1_0 y1_1 h1 g1 => fun x2 e2 => have g2 : G x2 := (by rw [e2]; exact hk.1 _ _ _ g1); ⟨fun c3 => vtX9_build_c13 hk g2 ((h1 x2 e2).1 c3) (fun y4_0 h4 g4 => vtX9_all hk g4 h4 (fun y5_0 y5_1 h5 g5 => vtX6_restart hk g5 h5 (fun y6_0 h6 g6 => fun x7 e7 => have g7 : G x7 := (by rw [e7]; exact hk.1 _ _ _ g6); vtX4_forget hk g7 (h6 x7 e7) (fun y8_0 h8 g8 => ⟨h8, g8⟩)))), fun c9 => fun x10 e10 => ⟨(((h1 x2 e2).2 c9) x10 e10), g2⟩⟩)
theorem vgX11_complex {G : XT → Prop} {k : Nat} {t : XT}  {Q : Int32 → XT → Prop} (hk : kpA G) (g : G t) (hR : wqX11_complex k t  Q) : wqX11_complex k t  (fun r t => Q r t ∧ G t) := (vfX11_complex hk Q k) t _ _ g hR
theorem vtX11_complex {G : XT → Prop} {k : Nat} {t : XT}  {Q Q' : Int32 → XT → Prop} (hk : kpA G) (g : G t) (hR : wqX11_complex k t  Q) (hQ : (∀ r t, Q r t → G t → Q' r t)) : wqX11_complex k t  Q' := wmX11_complex (Nat.le_refl k) (fun r t h => hQ r t h.1 h.2) (vgX11_complex hk g hR)
set_option maxHeartbeats 4000000 in
set_option maxRecDepth 100000 in
theorem vfX9_has {G : XT → Prop} (hk : kpA G) (Q : Int32 → XT → Prop) : ∀ k : Nat, (∀ (t : XT) (li : Nat → Int32) (lj : Nat → Int64), G t → wpX9_has k 0 t li lj Q → wpX9_has k 0 t li lj (fun r t => Q r t ∧ G t)) ∧ (∀ (t : XT) (li : Nat → Int32) (lj : Nat → Int64), G t → wpX9_has k 1 t li lj Q → wpX9_has k 1 t li lj (fun r t => Q r t ∧ G t)) := by
  intro k
  induction k with
  | zero => exact ⟨fun _ _ _ _ hR => False.elim hR, fun _ _ _ _ hR => False.elim hR⟩
  | succ k ih =>
    refine ⟨?_, ?_⟩
    · intro t li lj g hR
      have hR : wbX9_has_0 (wpX9_has k) k t li lj Q := hR
      show wbX9_has_0 (wpX9_has k) k t li lj (fun r t => Q r t ∧ G t)
      unfold wbX9_has_0 at hR ⊢
      exact ⟨fun c1 => ih.2 _ _ _ g (hR.1 c1), fun c2 => ⟨fun c3 => ih.2 _ _ _ g ((hR.2 c2).1 c3), fun c4 => ⟨((hR.2 c2).2 c4), g⟩⟩⟩
    · intro t li lj g hR
      have hR : wbX9_has_1 (wpX9_has k) k t li lj Q := hR
      show wbX9_has_1 (wpX9_has k) k t li lj (fun r t => Q r t ∧ G t)
      unfold wbX9_has_1 at hR ⊢
      exact ⟨hR, g⟩
theorem vgX9_has {G : XT → Prop} {k : Nat} {t : XT} {a1 : Int32} {Q : Int32 → XT → Prop} (hk : kpA G) (g : G t) (hR : wqX9_has k t a1 Q) : wqX9_has k t a1 (fun r t => Q r t ∧ G t) := (vfX9_has hk Q k).1 t _ _ g hR
theorem vtX9_has {G : XT → Prop} {k : Nat} {t : XT} {a1 : Int32} {Q Q' : Int32 → XT → Prop} (hk : kpA G) (g : G t) (hR : wqX9_has k t a1 Q) (hQ : (∀ r t, Q r t → G t → Q' r t)) : wqX9_has k t a1 Q' := wmX9_has (Nat.le_refl k) (fun r t h => hQ r t h.1 h.2) (vgX9_has hk g hR)
set_option maxHeartbeats 4000000 in
set_option maxRecDepth 100000 in
theorem vfX11_isThere {G : XT → Prop} (hk : kpA G) (Q : Int32 → XT → Prop) : ∀ k : Nat, (∀ (t : XT) (li : Nat → Int32) (lj : Nat → Int64), G t → wpX11_isThere k 0 t li lj Q → wpX11_isThere k 0 t li lj (fun r t => Q r t ∧ G t)) ∧ (∀ (t : XT) (li : Nat → Int32) (lj : Nat → Int64), G t → wpX11_isThere k 1 t li lj Q → wpX11_isThere k 1 t li lj (fun r t => Q r t ∧ G t)) := by
  intro k
  induction k with
  | zero => exact ⟨fun _ _ _ _ hR => False.elim hR, fun _ _ _ _ hR => False.elim hR⟩
  | succ k ih =>
    refine ⟨?_, ?_⟩
    · intro t li lj g hR
      have hR : wbX11_isThere_0 (wpX11_isThere k) k t li lj Q := hR
      show wbX11_isThere_0 (wpX11_isThere k) k t li lj (fun r t => Q r t ∧ G t)
      unfold wbX11_isThere_0 at hR ⊢
      exact vtX9_has hk g hR (fun y1_0 y1_1 h1 g1 => ⟨fun c2 => ih.2 _ _ _ g1 (h1.1 c2), fun c3 => wcX11_isIn (h1.2 c3) (fun y4_0 h4 => ⟨fun c5 => ih.2 _ _ _ g1 (h4.1 c5), fun c6 => ⟨(h4.2 c6), g1⟩⟩)⟩)
    · intro t li lj g hR
      have hR : wbX11_isThere_1 (wpX11_isThere k) k t li lj Q := hR
      show wbX11_isThere_1 (wpX11_isThere k) k t li lj (fun r t => Q r t ∧ G t)
      unfold wbX11_isThere_1 at hR ⊢
      exact ⟨hR, g⟩
theorem vgX11_isThere {G : XT → Prop} {k : Nat} {t : XT} {a1 : Int32} {Q : Int32 → XT → Prop} (hk : kpA G) (g : G t) (hR : wqX11_isThere k t a1 Q) : wqX11_isThere k t a1 (fun r t => Q r t ∧ G t) := (vfX11_isThere hk Q k).1 t _ _ g hR
theorem vtX11_isThere {G : XT → Prop} {k : Nat} {t : XT} {a1 : Int32} {Q Q' : Int32 → XT → Prop} (hk : kpA G) (g : G t) (hR : wqX11_isThere k t a1 Q) (hQ : (∀ r t, Q r t → G t → Q' r t)) : wqX11_isThere k t a1 Q' := wmX11_isThere (Nat.le_refl k) (fun r t h => hQ r t h.1 h.2) (vgX11_isThere hk g hR)
set_option maxHeartbeats 4000000 in
set_option maxRecDepth 100000 in
theorem vfX6_side {G : XT → Prop} (hk : kpA G) (Q : Int32 → XT → Prop) : ∀ k : Nat, (∀ (t : XT) (li : Nat → Int32) (lj : Nat → Int64), G t → wpX6_side k 0 t li lj Q → wpX6_side k 0 t li lj (fun r t => Q r t ∧ G t)) := by
  intro k
  induction k with
  | zero => exact fun _ _ _ _ hR => False.elim hR
  | succ k ih =>
    intro t li lj g hR
    have hR : wbX6_side_0 (wpX6_side k) k t li lj Q := hR
    show wbX6_side_0 (wpX6_side k) k t li lj (fun r t => Q r t ∧ G t)
    unfold wbX6_side_0 at hR ⊢
    exact ⟨hR.1, fun x1 e1 => ⟨fun c2 => wcX11_isIn ((hR.2 x1 e1).1 c2) (fun y3_0 h3 => ⟨fun c4 => ⟨(h3.1 c4), g⟩, fun c5 => ⟨(h3.2 c5), g⟩⟩), fun c6 => ⟨((hR.2 x1 e1).2 c6), g⟩⟩⟩
theorem vgX6_side {G : XT → Prop} {k : Nat} {t : XT} {a1 : Int32} {Q : Int32 → XT → Prop} (hk : kpA G) (g : G t) (hR : wqX6_side k t a1 Q) : wqX6_side k t a1 (fun r t => Q r t ∧ G t) := (vfX6_side hk Q k) t _ _ g hR
theorem vtX6_side {G : XT → Prop} {k : Nat} {t : XT} {a1 : Int32} {Q Q' : Int32 → XT → Prop} (hk : kpA G) (g : G t) (hR : wqX6_side k t a1 Q) (hQ : (∀ r t, Q r t → G t → Q' r t)) : wqX6_side k t a1 Q' := wmX6_side (Nat.le_refl k) (fun r t h => hQ r t h.1 h.2) (vgX6_side hk g hR)
set_option maxHeartbeats 4000000 in
set_option maxRecDepth 100000 in
theorem vfX6_steps {G : XT → Prop} (hk : kpA G) (Q : Int64 → XT → Prop) : ∀ k : Nat, (∀ (t : XT) (li : Nat → Int32) (lj : Nat → Int64), G t → wpX6_steps k 0 t li lj Q → wpX6_steps k 0 t li lj (fun r t => Q r t ∧ G t)) := by
  intro k
  induction k with
  | zero => exact fun _ _ _ _ hR => False.elim hR
  | succ k ih =>
    intro t li lj g hR
    have hR : wbX6_steps_0 (wpX6_steps k) k t li lj Q := hR
    show wbX6_steps_0 (wpX6_steps k) k t li lj (fun r t => Q r t ∧ G t)
    unfold wbX6_steps_0 at hR ⊢
    exact ⟨hR.1, fun x1 e1 => ⟨fun c2 => ⟨((hR.2 x1 e1).1 c2).1, fun x3 e3 => ⟨(((hR.2 x1 e1).1 c2).2 x3 e3).1, fun x4 e4 => fun x5 e5 => fun x6 e6 => ⟨((((((hR.2 x1 e1).1 c2).2 x3 e3).2 x4 e4) x5 e5) x6 e6), g⟩⟩⟩, fun c7 => ⟨((hR.2 x1 e1).2 c7).1, fun x8 e8 => ⟨(((hR.2 x1 e1).2 c7).2 x8 e8), g⟩⟩⟩⟩
theorem vgX6_steps {G : XT → Prop} {k : Nat} {t : XT} {a1 : Int32} {Q : Int64 → XT → Prop} (hk : kpA G) (g : G t) (hR : wqX6_steps k t a1 Q) : wqX6_steps k t a1 (fun r t => Q r t ∧ G t) := (vfX6_steps hk Q k) t _ _ g hR
theorem vtX6_steps {G : XT → Prop} {k : Nat} {t : XT} {a1 : Int32} {Q Q' : Int64 → XT → Prop} (hk : kpA G) (g : G t) (hR : wqX6_steps k t a1 Q) (hQ : (∀ r t, Q r t → G t → Q' r t)) : wqX6_steps k t a1 Q' := wmX6_steps (Nat.le_refl k) (fun r t h => hQ r t h.1 h.2) (vgX6_steps hk g hR)
set_option maxHeartbeats 4000000 in
set_option maxRecDepth 100000 in
theorem vfX2_give {G : XT → Prop} (hk : kpA G) (Q : Int64 → XT → Prop) : ∀ k : Nat, (∀ (t : XT) (li : Nat → Int32) (lj : Nat → Int64), G t → wpX2_give k 0 t li lj Q → wpX2_give k 0 t li lj (fun r t => Q r t ∧ G t)) ∧ (∀ (t : XT) (li : Nat → Int32) (lj : Nat → Int64), G t → wpX2_give k 1 t li lj Q → wpX2_give k 1 t li lj (fun r t => Q r t ∧ G t)) ∧ (∀ (t : XT) (li : Nat → Int32) (lj : Nat → Int64), G t → wpX2_give k 2 t li lj Q → wpX2_give k 2 t li lj (fun r t => Q r t ∧ G t)) ∧ (∀ (t : XT) (li : Nat → Int32) (lj : Nat → Int64), G t → wpX2_give k 3 t li lj Q → wpX2_give k 3 t li lj (fun r t => Q r t ∧ G t)) := by
  intro k
  induction k with
  | zero => exact ⟨fun _ _ _ _ hR => False.elim hR, fun _ _ _ _ hR => False.elim hR, fun _ _ _ _ hR => False.elim hR, fun _ _ _ _ hR => False.elim hR⟩
  | succ k ih =>
    refine ⟨?_, ?_, ?_, ?_⟩
    · intro t li lj g hR
      have hR : wbX2_give_0 (wpX2_give k) k t li lj Q := hR
      show wbX2_give_0 (wpX2_give k) k t li lj (fun r t => Q r t ∧ G t)
      unfold wbX2_give_0 at hR ⊢
      exact ih.2.1 _ _ _ g hR
    · intro t li lj g hR
      have hR : wbX2_give_1 (wpX2_give k) k t li lj Q := hR
      show wbX2_give_1 (wpX2_give k) k t li lj (fun r t => Q r t ∧ G t)
      unfold wbX2_give_1 at hR ⊢
      exact ⟨fun c1 => ih.2.2.2 _ _ _ g (hR.1 c1), fun c2 => ⟨fun c3 => ih.2.2.2 _ _ _ g ((hR.2 c2).1 c3), fun c4 => wcX11_isIn ((hR.2 c2).2 c4) (fun y5_0 h5 => ⟨fun c6 => ih.2.2.1 _ _ _ g (h5.1 c6), fun c7 => vtX6_steps hk g (h5.2 c7) (fun y8_0 y8_1 h8 g8 => fun x9 e9 => fun x10 e10 => ⟨fun c11 => ih.2.2.1 _ _ _ g8 (((h8 x9 e9) x10 e10).1 c11), fun c12 => wcX11_bit (((h8 x9 e9) x10 e10).2 c12) (fun y13_0 h13 => fun x14 e14 => ⟨(h13 x14 e14).1, fun x15 e15 => have g15 : G x15 := (by rw [e15]; exact hk.2.2.1 _ _ _ (by decide) g8); ⟨((h13 x14 e14).2 x15 e15).1, fun x16 e16 => have g16 : G x16 := (by rw [e16]; exact hk.2.2.1 _ _ _ (by decide) g15); fun x17 e17 => fun x18 e18 => have g18 : G x18 := (by rw [e18]; exact hk.1 _ _ _ g16); ih.2.2.1 _ _ _ g18 (((((h13 x14 e14).2 x15 e15).2 x16 e16) x17 e17) x18 e18)⟩⟩)⟩)⟩)⟩⟩
    · intro t li lj g hR
      have hR : wbX2_give_2 (wpX2_give k) k t li lj Q := hR
      show wbX2_give_2 (wpX2_give k) k t li lj (fun r t => Q r t ∧ G t)
      unfold wbX2_give_2 at hR ⊢
      exact fun x1 e1 => ih.2.1 _ _ _ g (hR x1 e1)
    · intro t li lj g hR
      have hR : wbX2_give_3 (wpX2_give k) k t li lj Q := hR
      show wbX2_give_3 (wpX2_give k) k t li lj (fun r t => Q r t ∧ G t)
      unfold wbX2_give_3 at hR ⊢
      exact ⟨hR, g⟩
theorem vgX2_give {G : XT → Prop} {k : Nat} {t : XT} {a1 : Int32} {a2 : Int64} {Q : Int64 → XT → Prop} (hk : kpA G) (g : G t) (hR : wqX2_give k t a1 a2 Q) : wqX2_give k t a1 a2 (fun r t => Q r t ∧ G t) := (vfX2_give hk Q k).1 t _ _ g hR
theorem vtX2_give {G : XT → Prop} {k : Nat} {t : XT} {a1 : Int32} {a2 : Int64} {Q Q' : Int64 → XT → Prop} (hk : kpA G) (g : G t) (hR : wqX2_give k t a1 a2 Q) (hQ : (∀ r t, Q r t → G t → Q' r t)) : wqX2_give k t a1 a2 Q' := wmX2_give (Nat.le_refl k) (fun r t h => hQ r t h.1 h.2) (vgX2_give hk g hR)
set_option maxHeartbeats 4000000 in
set_option maxRecDepth 100000 in
theorem vfX2_measure {G : XT → Prop} (hk : kpA G) (Q : XT → Prop) : ∀ k : Nat, (∀ (t : XT) (li : Nat → Int32) (lj : Nat → Int64), G t → wpX2_measure k 0 t li lj Q → wpX2_measure k 0 t li lj (fun t => Q t ∧ G t)) ∧ (∀ (t : XT) (li : Nat → Int32) (lj : Nat → Int64), G t → wpX2_measure k 1 t li lj Q → wpX2_measure k 1 t li lj (fun t => Q t ∧ G t)) := by
  intro k
  induction k with
  | zero => exact ⟨fun _ _ _ _ hR => False.elim hR, fun _ _ _ _ hR => False.elim hR⟩
  | succ k ih =>
    refine ⟨?_, ?_⟩
    · intro t li lj g hR
      have hR : wbX2_measure_0 (wpX2_measure k) k t li lj Q := hR
      show wbX2_measure_0 (wpX2_measure k) k t li lj (fun t => Q t ∧ G t)
      unfold wbX2_measure_0 at hR ⊢
      exact ⟨fun c1 => fun x2 e2 => have g2 : G x2 := (by rw [e2]; exact hk.1 _ _ _ g); fun x3 e3 => have g3 : G x3 := (by rw [e3]; exact hk.2.2.1 _ _ _ (by decide) g2); fun x4 e4 => have g4 : G x4 := (by rw [e4]; exact hk.1 _ _ _ g3); ih.2 _ _ _ g4 ((((hR.1 c1) x2 e2) x3 e3) x4 e4), fun c5 => ⟨(hR.2 c5), g⟩⟩
    · intro t li lj g hR
      have hR : wbX2_measure_1 (wpX2_measure k) k t li lj Q := hR
      show wbX2_measure_1 (wpX2_measure k) k t li lj (fun t => Q t ∧ G t)
      unfold wbX2_measure_1 at hR ⊢
      exact ⟨fun c1 => ⟨(hR.1 c1), g⟩, fun c2 => fun x3 e3 => ⟨fun c4 => ⟨(((hR.2 c2) x3 e3).1 c4), g⟩, fun c5 => vtX2_give hk g (((hR.2 c2) x3 e3).2 c5) (fun y6_0 y6_1 h6 g6 => fun x7 e7 => fun x8 e8 => fun x9 e9 => ih.2 _ _ _ g6 (((h6 x7 e7) x8 e8) x9 e9))⟩⟩
theorem vgX2_measure {G : XT → Prop} {k : Nat} {t : XT}  {Q : XT → Prop} (hk : kpA G) (g : G t) (hR : wqX2_measure k t  Q) : wqX2_measure k t  (fun t => Q t ∧ G t) := (vfX2_measure hk Q k).1 t _ _ g hR
theorem vtX2_measure {G : XT → Prop} {k : Nat} {t : XT}  {Q Q' : XT → Prop} (hk : kpA G) (g : G t) (hR : wqX2_measure k t  Q) (hQ : (∀ t, Q t → G t → Q' t)) : wqX2_measure k t  Q' := wmX2_measure (Nat.le_refl k) (fun t h => hQ t h.1 h.2) (vgX2_measure hk g hR)
set_option maxHeartbeats 4000000 in
set_option maxRecDepth 100000 in
theorem vfX2_of {G : XT → Prop} (hk : kpA G) (Q : Int32 → XT → Prop) : ∀ k : Nat, (∀ (t : XT) (li : Nat → Int32) (lj : Nat → Int64), G t → wpX2_of k 0 t li lj Q → wpX2_of k 0 t li lj (fun r t => Q r t ∧ G t)) := by
  intro k
  induction k with
  | zero => exact fun _ _ _ _ hR => False.elim hR
  | succ k ih =>
    intro t li lj g hR
    have hR : wbX2_of_0 (wpX2_of k) k t li lj Q := hR
    show wbX2_of_0 (wpX2_of k) k t li lj (fun r t => Q r t ∧ G t)
    unfold wbX2_of_0 at hR ⊢
    exact vtX2_measure hk g hR (fun y1_0 h1 g1 => ⟨h1.1, fun x2 e2 => ⟨(h1.2 x2 e2), g1⟩⟩)
theorem vgX2_of {G : XT → Prop} {k : Nat} {t : XT} {a1 : Int32} {Q : Int32 → XT → Prop} (hk : kpA G) (g : G t) (hR : wqX2_of k t a1 Q) : wqX2_of k t a1 (fun r t => Q r t ∧ G t) := (vfX2_of hk Q k) t _ _ g hR
theorem vtX2_of {G : XT → Prop} {k : Nat} {t : XT} {a1 : Int32} {Q Q' : Int32 → XT → Prop} (hk : kpA G) (g : G t) (hR : wqX2_of k t a1 Q) (hQ : (∀ r t, Q r t → G t → Q' r t)) : wqX2_of k t a1 Q' := wmX2_of (Nat.le_refl k) (fun r t h => hQ r t h.1 h.2) (vgX2_of hk g hR)
set_option maxHeartbeats 4000000 in
set_option maxRecDepth 100000 in
theorem vfX11_simplex {G : XT → Prop} (hk : kpA G) (Q : Int32 → XT → Prop) : ∀ k : Nat, (∀ (t : XT) (li : Nat → Int32) (lj : Nat → Int64), G t → wpX11_simplex k 0 t li lj Q → wpX11_simplex k 0 t li lj (fun r t => Q r t ∧ G t)) := by
  intro k
  induction k with
  | zero => exact fun _ _ _ _ hR => False.elim hR
  | succ k ih =>
    intro t li lj g hR
    have hR : wbX11_simplex_0 (wpX11_simplex k) k t li lj Q := hR
    show wbX11_simplex_0 (wpX11_simplex k) k t li lj (fun r t => Q r t ∧ G t)
    unfold wbX11_simplex_0 at hR ⊢
    exact vtX9_has hk g hR (fun y1_0 y1_1 h1 g1 => ⟨fun c2 => ⟨fun c3 => ⟨((h1.1 c2).1 c3), g1⟩, fun c4 => ⟨((h1.1 c2).2.1 c4).1, fun x5 e5 => ⟨(((h1.1 c2).2.1 c4).2 x5 e5), g1⟩⟩, fun c6 => ⟨((h1.1 c2).2.2.1 c6).1, fun x7 e7 => ⟨(((h1.1 c2).2.2.1 c6).2 x7 e7), g1⟩⟩, fun c8 => vtX11_isThere hk g1 ((h1.1 c2).2.2.2.1 c8) (fun y9_0 y9_1 h9 g9 => ⟨fun c10 => ⟨(h9.1 c10), g9⟩, fun c11 => ⟨(h9.2 c11), g9⟩⟩), fun c12 => ⟨((h1.1 c2).2.2.2.2.1 c12).1, fun x13 e13 => ⟨(((h1.1 c2).2.2.2.2.1 c12).2 x13 e13), g1⟩⟩, fun c14 => vtX6_side hk g1 ((h1.1 c2).2.2.2.2.2.1 c14) (fun y15_0 y15_1 h15 g15 => ⟨h15, g15⟩), fun c16 => vtX2_of hk g1 ((h1.1 c2).2.2.2.2.2.2.1 c16) (fun y17_0 y17_1 h17 g17 => ⟨h17, g17⟩), fun c18 => ⟨((h1.1 c2).2.2.2.2.2.2.2 c18).1, fun x19 e19 => fun x20 e20 => wcJ13_bitCount_95d88 ((((h1.1 c2).2.2.2.2.2.2.2 c18).2 x19 e19) x20 e20) (fun y21_0 h21 => ⟨h21, g1⟩)⟩⟩, fun c22 => ⟨(h1.2 c22), g1⟩⟩)
theorem vgX11_simplex {G : XT → Prop} {k : Nat} {t : XT} {a1 : Int32} {a2 : Int32} {Q : Int32 → XT → Prop} (hk : kpA G) (g : G t) (hR : wqX11_simplex k t a1 a2 Q) : wqX11_simplex k t a1 a2 (fun r t => Q r t ∧ G t) := (vfX11_simplex hk Q k) t _ _ g hR
theorem vtX11_simplex {G : XT → Prop} {k : Nat} {t : XT} {a1 : Int32} {a2 : Int32} {Q Q' : Int32 → XT → Prop} (hk : kpA G) (g : G t) (hR : wqX11_simplex k t a1 a2 Q) (hQ : (∀ r t, Q r t → G t → Q' r t)) : wqX11_simplex k t a1 a2 Q' := wmX11_simplex (Nat.le_refl k) (fun r t h => hQ r t h.1 h.2) (vgX11_simplex hk g hR)
set_option maxHeartbeats 4000000 in
set_option maxRecDepth 100000 in
theorem vfX11_number {G : XT → Prop} (hk : kpA G) (Q : Int32 → XT → Prop) : ∀ k : Nat, (∀ (t : XT) (li : Nat → Int32) (lj : Nat → Int64), G t → wpX11_number k 0 t li lj Q → wpX11_number k 0 t li lj (fun r t => Q r t ∧ G t)) ∧ (∀ (t : XT) (li : Nat → Int32) (lj : Nat → Int64), G t → wpX11_number k 1 t li lj Q → wpX11_number k 1 t li lj (fun r t => Q r t ∧ G t)) := by
  intro k
  induction k with
  | zero => exact ⟨fun _ _ _ _ hR => False.elim hR, fun _ _ _ _ hR => False.elim hR⟩
  | succ k ih =>
    refine ⟨?_, ?_⟩
    · intro t li lj g hR
      have hR : wbX11_number_0 (wpX11_number k) k t li lj Q := hR
      show wbX11_number_0 (wpX11_number k) k t li lj (fun r t => Q r t ∧ G t)
      unfold wbX11_number_0 at hR ⊢
      exact ⟨fun c1 => ih.2 _ _ _ g (hR.1 c1), fun c2 => ⟨fun c3 => ⟨((hR.2 c2).1 c3).1, fun x4 e4 => ⟨(((hR.2 c2).1 c3).2 x4 e4), g⟩⟩, fun c5 => ih.2 _ _ _ g ((hR.2 c2).2 c5)⟩⟩
    · intro t li lj g hR
      have hR : wbX11_number_1 (wpX11_number k) k t li lj Q := hR
      show wbX11_number_1 (wpX11_number k) k t li lj (fun r t => Q r t ∧ G t)
      unfold wbX11_number_1 at hR ⊢
      exact ⟨hR, g⟩
theorem vgX11_number {G : XT → Prop} {k : Nat} {t : XT} {a1 : Int32} {Q : Int32 → XT → Prop} (hk : kpA G) (g : G t) (hR : wqX11_number k t a1 Q) : wqX11_number k t a1 (fun r t => Q r t ∧ G t) := (vfX11_number hk Q k).1 t _ _ g hR
theorem vtX11_number {G : XT → Prop} {k : Nat} {t : XT} {a1 : Int32} {Q Q' : Int32 → XT → Prop} (hk : kpA G) (g : G t) (hR : wqX11_number k t a1 Q) (hQ : (∀ r t, Q r t → G t → Q' r t)) : wqX11_number k t a1 Q' := wmX11_number (Nat.le_refl k) (fun r t h => hQ r t h.1 h.2) (vgX11_number hk g hR)
set_option maxHeartbeats 4000000 in
set_option maxRecDepth 100000 in
theorem vfX9_signOf {G : XT → Prop} (hk : kpA G) (Q : Int32 → XT → Prop) : ∀ k : Nat, (∀ (t : XT) (li : Nat → Int32) (lj : Nat → Int64), G t → wpX9_signOf k 0 t li lj Q → wpX9_signOf k 0 t li lj (fun r t => Q r t ∧ G t)) := by
  intro k
  induction k with
  | zero => exact fun _ _ _ _ hR => False.elim hR
  | succ k ih =>
    intro t li lj g hR
    have hR : wbX9_signOf_0 (wpX9_signOf k) k t li lj Q := hR
    show wbX9_signOf_0 (wpX9_signOf k) k t li lj (fun r t => Q r t ∧ G t)
    unfold wbX9_signOf_0 at hR ⊢
    exact ⟨hR.1, fun x1 e1 => wcX11_isIn (hR.2 x1 e1) (fun y2_0 h2 => ⟨fun c3 => ⟨(h2.1 c3).1, fun x4 e4 => ⟨((h2.1 c3).2 x4 e4).1, fun x5 e5 => fun x6 e6 => fun x7 e7 => ⟨(((((h2.1 c3).2 x4 e4).2 x5 e5) x6 e6) x7 e7).1, fun x8 e8 => fun x9 e9 => fun x10 e10 => wcJ6_bitCount_0f7a4 ((((((((h2.1 c3).2 x4 e4).2 x5 e5) x6 e6) x7 e7).2 x8 e8) x9 e9) x10 e10) (fun y11_0 h11 => fun x12 e12 => ⟨fun c13 => ⟨((h11 x12 e12).1 c13), g⟩, fun c14 => ⟨((h11 x12 e12).2 c14), g⟩⟩)⟩⟩⟩, fun c15 => ⟨(h2.2 c15), g⟩⟩)⟩
theorem vgX9_signOf {G : XT → Prop} {k : Nat} {t : XT} {a1 : Int32} {a2 : Int32} {Q : Int32 → XT → Prop} (hk : kpA G) (g : G t) (hR : wqX9_signOf k t a1 a2 Q) : wqX9_signOf k t a1 a2 (fun r t => Q r t ∧ G t) := (vfX9_signOf hk Q k) t _ _ g hR
theorem vtX9_signOf {G : XT → Prop} {k : Nat} {t : XT} {a1 : Int32} {a2 : Int32} {Q Q' : Int32 → XT → Prop} (hk : kpA G) (g : G t) (hR : wqX9_signOf k t a1 a2 Q) (hQ : (∀ r t, Q r t → G t → Q' r t)) : wqX9_signOf k t a1 a2 Q' := wmX9_signOf (Nat.le_refl k) (fun r t h => hQ r t h.1 h.2) (vgX9_signOf hk g hR)
set_option maxHeartbeats 4000000 in
set_option maxRecDepth 100000 in
theorem vfX11_sign {G : XT → Prop} (hk : kpA G) (Q : Int32 → XT → Prop) : ∀ k : Nat, (∀ (t : XT) (li : Nat → Int32) (lj : Nat → Int64), G t → wpX11_sign k 0 t li lj Q → wpX11_sign k 0 t li lj (fun r t => Q r t ∧ G t)) ∧ (∀ (t : XT) (li : Nat → Int32) (lj : Nat → Int64), G t → wpX11_sign k 1 t li lj Q → wpX11_sign k 1 t li lj (fun r t => Q r t ∧ G t)) := by
  intro k
  induction k with
  | zero => exact ⟨fun _ _ _ _ hR => False.elim hR, fun _ _ _ _ hR => False.elim hR⟩
  | succ k ih =>
    refine ⟨?_, ?_⟩
    · intro t li lj g hR
      have hR : wbX11_sign_0 (wpX11_sign k) k t li lj Q := hR
      show wbX11_sign_0 (wpX11_sign k) k t li lj (fun r t => Q r t ∧ G t)
      unfold wbX11_sign_0 at hR ⊢
      exact vtX9_has hk g hR (fun y1_0 y1_1 h1 g1 => ⟨fun c2 => ih.2 _ _ _ g1 (h1.1 c2), fun c3 => vtX9_has hk g1 (h1.2 c3) (fun y4_0 y4_1 h4 g4 => ⟨fun c5 => vtX9_signOf hk g4 (h4.1 c5) (fun y6_0 y6_1 h6 g6 => ⟨h6, g6⟩), fun c7 => ih.2 _ _ _ g4 (h4.2 c7)⟩)⟩)
    · intro t li lj g hR
      have hR : wbX11_sign_1 (wpX11_sign k) k t li lj Q := hR
      show wbX11_sign_1 (wpX11_sign k) k t li lj (fun r t => Q r t ∧ G t)
      unfold wbX11_sign_1 at hR ⊢
      exact ⟨hR, g⟩
theorem vgX11_sign {G : XT → Prop} {k : Nat} {t : XT} {a1 : Int32} {a2 : Int32} {Q : Int32 → XT → Prop} (hk : kpA G) (g : G t) (hR : wqX11_sign k t a1 a2 Q) : wqX11_sign k t a1 a2 (fun r t => Q r t ∧ G t) := (vfX11_sign hk Q k).1 t _ _ g hR
theorem vtX11_sign {G : XT → Prop} {k : Nat} {t : XT} {a1 : Int32} {a2 : Int32} {Q Q' : Int32 → XT → Prop} (hk : kpA G) (g : G t) (hR : wqX11_sign k t a1 a2 Q) (hQ : (∀ r t, Q r t → G t → Q' r t)) : wqX11_sign k t a1 a2 Q' := wmX11_sign (Nat.le_refl k) (fun r t h => hQ r t h.1 h.2) (vgX11_sign hk g hR)
set_option maxHeartbeats 4000000 in
set_option maxRecDepth 100000 in
theorem vfX6_unpaired {G : XT → Prop} (hk : kpA G) (Q : Int64 → XT → Prop) : ∀ k : Nat, (∀ (t : XT) (li : Nat → Int32) (lj : Nat → Int64), G t → wpX6_unpaired k 0 t li lj Q → wpX6_unpaired k 0 t li lj (fun r t => Q r t ∧ G t)) := by
  intro k
  induction k with
  | zero => exact fun _ _ _ _ hR => False.elim hR
  | succ k ih =>
    intro t li lj g hR
    have hR : wbX6_unpaired_0 (wpX6_unpaired k) k t li lj Q := hR
    show wbX6_unpaired_0 (wpX6_unpaired k) k t li lj (fun r t => Q r t ∧ G t)
    unfold wbX6_unpaired_0 at hR ⊢
    exact fun x1 e1 => fun x2 e2 => fun x3 e3 => ⟨(((hR x1 e1) x2 e2) x3 e3), g⟩
theorem vgX6_unpaired {G : XT → Prop} {k : Nat} {t : XT}  {Q : Int64 → XT → Prop} (hk : kpA G) (g : G t) (hR : wqX6_unpaired k t  Q) : wqX6_unpaired k t  (fun r t => Q r t ∧ G t) := (vfX6_unpaired hk Q k) t _ _ g hR
theorem vtX6_unpaired {G : XT → Prop} {k : Nat} {t : XT}  {Q Q' : Int64 → XT → Prop} (hk : kpA G) (g : G t) (hR : wqX6_unpaired k t  Q) (hQ : (∀ r t, Q r t → G t → Q' r t)) : wqX6_unpaired k t  Q' := wmX6_unpaired (Nat.le_refl k) (fun r t h => hQ r t h.1 h.2) (vgX6_unpaired hk g hR)
set_option maxHeartbeats 4000000 in
set_option maxRecDepth 100000 in
theorem vfX6_isCritical {G : XT → Prop} (hk : kpA G) (Q : Int32 → XT → Prop) : ∀ k : Nat, (∀ (t : XT) (li : Nat → Int32) (lj : Nat → Int64), G t → wpX6_isCritical k 0 t li lj Q → wpX6_isCritical k 0 t li lj (fun r t => Q r t ∧ G t)) := by
  intro k
  induction k with
  | zero => exact fun _ _ _ _ hR => False.elim hR
  | succ k ih =>
    intro t li lj g hR
    have hR : wbX6_isCritical_0 (wpX6_isCritical k) k t li lj Q := hR
    show wbX6_isCritical_0 (wpX6_isCritical k) k t li lj (fun r t => Q r t ∧ G t)
    unfold wbX6_isCritical_0 at hR ⊢
    exact vtX6_unpaired hk g hR (fun y1_0 y1_1 h1 g1 => wcX11_isIn h1 (fun y2_0 h2 => ⟨h2.1, ⟨h2.2, g1⟩⟩))
theorem vgX6_isCritical {G : XT → Prop} {k : Nat} {t : XT} {a1 : Int32} {Q : Int32 → XT → Prop} (hk : kpA G) (g : G t) (hR : wqX6_isCritical k t a1 Q) : wqX6_isCritical k t a1 (fun r t => Q r t ∧ G t) := (vfX6_isCritical hk Q k) t _ _ g hR
theorem vtX6_isCritical {G : XT → Prop} {k : Nat} {t : XT} {a1 : Int32} {Q Q' : Int32 → XT → Prop} (hk : kpA G) (g : G t) (hR : wqX6_isCritical k t a1 Q) (hQ : (∀ r t, Q r t → G t → Q' r t)) : wqX6_isCritical k t a1 Q' := wmX6_isCritical (Nat.le_refl k) (fun r t h => hQ r t h.1 h.2) (vgX6_isCritical hk g hR)
set_option maxHeartbeats 4000000 in
set_option maxRecDepth 100000 in
theorem vfX6_staysAcyclic {G : XT → Prop} (hk : kpA G) (Q : Int32 → XT → Prop) : ∀ k : Nat, (∀ (t : XT) (li : Nat → Int32) (lj : Nat → Int64), G t → wpX6_staysAcyclic k 0 t li lj Q → wpX6_staysAcyclic k 0 t li lj (fun r t => Q r t ∧ G t)) ∧ (∀ (t : XT) (li : Nat → Int32) (lj : Nat → Int64), G t → wpX6_staysAcyclic k 1 t li lj Q → wpX6_staysAcyclic k 1 t li lj (fun r t => Q r t ∧ G t)) ∧ (∀ (t : XT) (li : Nat → Int32) (lj : Nat → Int64), G t → wpX6_staysAcyclic k 2 t li lj Q → wpX6_staysAcyclic k 2 t li lj (fun r t => Q r t ∧ G t)) ∧ (∀ (t : XT) (li : Nat → Int32) (lj : Nat → Int64), G t → wpX6_staysAcyclic k 3 t li lj Q → wpX6_staysAcyclic k 3 t li lj (fun r t => Q r t ∧ G t)) := by
  intro k
  induction k with
  | zero => exact ⟨fun _ _ _ _ hR => False.elim hR, fun _ _ _ _ hR => False.elim hR, fun _ _ _ _ hR => False.elim hR, fun _ _ _ _ hR => False.elim hR⟩
  | succ k ih =>
    refine ⟨?_, ?_, ?_, ?_⟩
    · intro t li lj g hR
      have hR : wbX6_staysAcyclic_0 (wpX6_staysAcyclic k) k t li lj Q := hR
      show wbX6_staysAcyclic_0 (wpX6_staysAcyclic k) k t li lj (fun r t => Q r t ∧ G t)
      unfold wbX6_staysAcyclic_0 at hR ⊢
      exact ⟨hR.1, fun x1 e1 => wcX11_bit (hR.2 x1 e1) (fun y2_0 h2 => fun x3 e3 => fun x4 e4 => fun x5 e5 => ih.2.1 _ _ _ g (((h2 x3 e3) x4 e4) x5 e5))⟩
    · intro t li lj g hR
      have hR : wbX6_staysAcyclic_1 (wpX6_staysAcyclic k) k t li lj Q := hR
      show wbX6_staysAcyclic_1 (wpX6_staysAcyclic k) k t li lj (fun r t => Q r t ∧ G t)
      unfold wbX6_staysAcyclic_1 at hR ⊢
      exact ⟨fun c1 => ih.2.2.2 _ _ _ g (hR.1 c1), fun c2 => fun x3 e3 => ⟨fun c4 => ih.2.2.2 _ _ _ g (((hR.2 c2) x3 e3).1 c4), fun c5 => wcX11_lowest (((hR.2 c2) x3 e3).2 c5) (fun y6_0 h6 => wcX11_bit h6 (fun y7_0 h7 => fun x8 e8 => fun x9 e9 => ⟨((h7 x8 e8) x9 e9).1, fun x10 e10 => ⟨fun c11 => ih.2.2.1 _ _ _ g ((((h7 x8 e8) x9 e9).2 x10 e10).1 c11), fun c12 => ⟨((((h7 x8 e8) x9 e9).2 x10 e10).2 c12).1, fun x13 e13 => ⟨(((((h7 x8 e8) x9 e9).2 x10 e10).2 c12).2 x13 e13).1, fun x14 e14 => fun x15 e15 => fun x16 e16 => fun x17 e17 => fun x18 e18 => fun x19 e19 => ih.2.2.1 _ _ _ g (((((((((((h7 x8 e8) x9 e9).2 x10 e10).2 c12).2 x13 e13).2 x14 e14) x15 e15) x16 e16) x17 e17) x18 e18) x19 e19)⟩⟩⟩⟩))⟩⟩
    · intro t li lj g hR
      have hR : wbX6_staysAcyclic_2 (wpX6_staysAcyclic k) k t li lj Q := hR
      show wbX6_staysAcyclic_2 (wpX6_staysAcyclic k) k t li lj (fun r t => Q r t ∧ G t)
      unfold wbX6_staysAcyclic_2 at hR ⊢
      exact fun x1 e1 => ih.2.1 _ _ _ g (hR x1 e1)
    · intro t li lj g hR
      have hR : wbX6_staysAcyclic_3 (wpX6_staysAcyclic k) k t li lj Q := hR
      show wbX6_staysAcyclic_3 (wpX6_staysAcyclic k) k t li lj (fun r t => Q r t ∧ G t)
      unfold wbX6_staysAcyclic_3 at hR ⊢
      exact wcX11_isIn hR (fun y1_0 h1 => ⟨fun c2 => ⟨(h1.1 c2), g⟩, fun c3 => ⟨(h1.2 c3), g⟩⟩)
theorem vgX6_staysAcyclic {G : XT → Prop} {k : Nat} {t : XT} {a1 : Int32} {a2 : Int32} {Q : Int32 → XT → Prop} (hk : kpA G) (g : G t) (hR : wqX6_staysAcyclic k t a1 a2 Q) : wqX6_staysAcyclic k t a1 a2 (fun r t => Q r t ∧ G t) := (vfX6_staysAcyclic hk Q k).1 t _ _ g hR
theorem vtX6_staysAcyclic {G : XT → Prop} {k : Nat} {t : XT} {a1 : Int32} {a2 : Int32} {Q Q' : Int32 → XT → Prop} (hk : kpA G) (g : G t) (hR : wqX6_staysAcyclic k t a1 a2 Q) (hQ : (∀ r t, Q r t → G t → Q' r t)) : wqX6_staysAcyclic k t a1 a2 Q' := wmX6_staysAcyclic (Nat.le_refl k) (fun r t h => hQ r t h.1 h.2) (vgX6_staysAcyclic hk g hR)
set_option maxHeartbeats 4000000 in
set_option maxRecDepth 100000 in
theorem vfX3_save_c4 {G : XT → Prop} (hk : kpA G) (Q : XT → Prop) : ∀ k : Nat, (∀ (t : XT) (li : Nat → Int32) (lj : Nat → Int64), G t → wpX3_save_c4 k 0 t li lj Q → wpX3_save_c4 k 0 t li lj (fun t => Q t ∧ G t)) := by
  intro k
  induction k with
  | zero => exact fun _ _ _ _ hR => False.elim hR
  | succ k ih =>
    intro t li lj g hR
    have hR : wbX3_save_c4_0 (wpX3_save_c4 k) k t li lj Q := hR
    show wbX3_save_c4_0 (wpX3_save_c4 k) k t li lj (fun t => Q t ∧ G t)
    unfold wbX3_save_c4_0 at hR ⊢
    exact fun x1 e1 => ⟨(hR x1 e1).1, (hR x1 e1).2.1, (hR x1 e1).2.2.1, (hR x1 e1).2.2.2.1, (hR x1 e1).2.2.2.2.1, fun x2 e2 => have g2 : G x2 := (by rw [e2]; exact hk.2.2.1 _ _ _ (by decide) g); ⟨((hR x1 e1).2.2.2.2.2 x2 e2).1, fun x3 e3 => have g3 : G x3 := (by rw [e3]; exact hk.2.2.2 _ _ _ g2); fun x4 e4 => ⟨((((hR x1 e1).2.2.2.2.2 x2 e2).2 x3 e3) x4 e4).1, fun x5 e5 => fun x6 e6 => have g6 : G x6 := (by rw [e6]; exact hk.1 _ _ _ g3); fun x7 e7 => fun x8 e8 => fun x9 e9 => have g9 : G x9 := (by rw [e9]; exact hk.1 _ _ _ g6); ⟨(((((((((hR x1 e1).2.2.2.2.2 x2 e2).2 x3 e3) x4 e4).2 x5 e5) x6 e6) x7 e7) x8 e8) x9 e9), g9⟩⟩⟩⟩
theorem vgX3_save_c4 {G : XT → Prop} {k : Nat} {t : XT}  {Q : XT → Prop} (hk : kpA G) (g : G t) (hR : wqX3_save_c4 k t  Q) : wqX3_save_c4 k t  (fun t => Q t ∧ G t) := (vfX3_save_c4 hk Q k) t _ _ g hR
theorem vtX3_save_c4 {G : XT → Prop} {k : Nat} {t : XT}  {Q Q' : XT → Prop} (hk : kpA G) (g : G t) (hR : wqX3_save_c4 k t  Q) (hQ : (∀ t, Q t → G t → Q' t)) : wqX3_save_c4 k t  Q' := wmX3_save_c4 (Nat.le_refl k) (fun t h => hQ t h.1 h.2) (vgX3_save_c4 hk g hR)
set_option maxHeartbeats 4000000 in
set_option maxRecDepth 100000 in
theorem vfX6_unite {G : XT → Prop} (hk : kpA G) (Q : XT → Prop) : ∀ k : Nat, (∀ (t : XT) (li : Nat → Int32) (lj : Nat → Int64), G t → wpX6_unite k 0 t li lj Q → wpX6_unite k 0 t li lj (fun t => Q t ∧ G t)) := by
  intro k
  induction k with
  | zero => exact fun _ _ _ _ hR => False.elim hR
  | succ k ih =>
    intro t li lj g hR
    have hR : wbX6_unite_0 (wpX6_unite k) k t li lj Q := hR
    show wbX6_unite_0 (wpX6_unite k) k t li lj (fun t => Q t ∧ G t)
    unfold wbX6_unite_0 at hR ⊢
    exact ⟨hR.1, fun x1 e1 => have g1 : G x1 := (by rw [e1]; exact hk.2.2.1 _ _ _ (by decide) g); ⟨(hR.2 x1 e1).1, fun x2 e2 => have g2 : G x2 := (by rw [e2]; exact hk.2.2.1 _ _ _ (by decide) g1); wcX11_bit ((hR.2 x1 e1).2 x2 e2) (fun y3_0 h3 => fun x4 e4 => fun x5 e5 => have g5 : G x5 := (by rw [e5]; exact hk.2.1 _ _ _ g2); wcX11_bit ((h3 x4 e4) x5 e5) (fun y6_0 h6 => fun x7 e7 => fun x8 e8 => have g8 : G x8 := (by rw [e8]; exact hk.2.1 _ _ _ g5); fun x9 e9 => fun x10 e10 => have g10 : G x10 := (by rw [e10]; exact hk.1 _ _ _ g8); ⟨((((h6 x7 e7) x8 e8) x9 e9) x10 e10), g10⟩))⟩⟩
theorem vgX6_unite {G : XT → Prop} {k : Nat} {t : XT} {a1 : Int32} {a2 : Int32} {Q : XT → Prop} (hk : kpA G) (g : G t) (hR : wqX6_unite k t a1 a2 Q) : wqX6_unite k t a1 a2 (fun t => Q t ∧ G t) := (vfX6_unite hk Q k) t _ _ g hR
theorem vtX6_unite {G : XT → Prop} {k : Nat} {t : XT} {a1 : Int32} {a2 : Int32} {Q Q' : XT → Prop} (hk : kpA G) (g : G t) (hR : wqX6_unite k t a1 a2 Q) (hQ : (∀ t, Q t → G t → Q' t)) : wqX6_unite k t a1 a2 Q' := wmX6_unite (Nat.le_refl k) (fun t h => hQ t h.1 h.2) (vgX6_unite hk g hR)
set_option maxHeartbeats 4000000 in
set_option maxRecDepth 100000 in
theorem vfX11_criticalOnes {G : XT → Prop} (hk : kpA G) (Q : Int32 → XT → Prop) : ∀ k : Nat, (∀ (t : XT) (li : Nat → Int32) (lj : Nat → Int64), G t → wpX11_criticalOnes k 0 t li lj Q → wpX11_criticalOnes k 0 t li lj (fun r t => Q r t ∧ G t)) := by
  intro k
  induction k with
  | zero => exact fun _ _ _ _ hR => False.elim hR
  | succ k ih =>
    intro t li lj g hR
    have hR : wbX11_criticalOnes_0 (wpX11_criticalOnes k) k t li lj Q := hR
    show wbX11_criticalOnes_0 (wpX11_criticalOnes k) k t li lj (fun r t => Q r t ∧ G t)
    unfold wbX11_criticalOnes_0 at hR ⊢
    exact vtX6_unpaired hk g hR (fun y1_0 y1_1 h1 g1 => wcJ13_bitCount_95d88 h1 (fun y2_0 h2 => ⟨h2, g1⟩))
theorem vgX11_criticalOnes {G : XT → Prop} {k : Nat} {t : XT}  {Q : Int32 → XT → Prop} (hk : kpA G) (g : G t) (hR : wqX11_criticalOnes k t  Q) : wqX11_criticalOnes k t  (fun r t => Q r t ∧ G t) := (vfX11_criticalOnes hk Q k) t _ _ g hR
theorem vtX11_criticalOnes {G : XT → Prop} {k : Nat} {t : XT}  {Q Q' : Int32 → XT → Prop} (hk : kpA G) (g : G t) (hR : wqX11_criticalOnes k t  Q) (hQ : (∀ r t, Q r t → G t → Q' r t)) : wqX11_criticalOnes k t  Q' := wmX11_criticalOnes (Nat.le_refl k) (fun r t h => hQ r t h.1 h.2) (vgX11_criticalOnes hk g hR)
set_option maxHeartbeats 4000000 in
set_option maxRecDepth 100000 in
theorem vfX11_pair {G : XT → Prop} (hk : kpA G) (Q : Int32 → XT → Prop) : ∀ k : Nat, (∀ (t : XT) (li : Nat → Int32) (lj : Nat → Int64), G t → wpX11_pair k 0 t li lj Q → wpX11_pair k 0 t li lj (fun r t => Q r t ∧ G t)) ∧ (∀ (t : XT) (li : Nat → Int32) (lj : Nat → Int64), G t → wpX11_pair k 1 t li lj Q → wpX11_pair k 1 t li lj (fun r t => Q r t ∧ G t)) ∧ (∀ (t : XT) (li : Nat → Int32) (lj : Nat → Int64), G t → wpX11_pair k 2 t li lj Q → wpX11_pair k 2 t li lj (fun r t => Q r t ∧ G t)) := by
  intro k
  induction k with
  | zero => exact ⟨fun _ _ _ _ hR => False.elim hR, fun _ _ _ _ hR => False.elim hR, fun _ _ _ _ hR => False.elim hR⟩
  | succ k ih =>
    refine ⟨?_, ?_, ?_⟩
    · intro t li lj g hR
      have hR : wbX11_pair_0 (wpX11_pair k) k t li lj Q := hR
      show wbX11_pair_0 (wpX11_pair k) k t li lj (fun r t => Q r t ∧ G t)
      unfold wbX11_pair_0 at hR ⊢
      exact vtX11_isThere hk g hR (fun y1_0 y1_1 h1 g1 => ⟨fun c2 => ih.2.1 _ _ _ g1 (h1.1 c2), fun c3 => vtX11_isThere hk g1 (h1.2 c3) (fun y4_0 y4_1 h4 g4 => ⟨fun c5 => ih.2.1 _ _ _ g4 (h4.1 c5), fun c6 => ⟨(h4.2 c6).1, fun x7 e7 => wcX11_isIn ((h4.2 c6).2 x7 e7) (fun y8_0 h8 => ⟨fun c9 => vtX6_isCritical hk g4 (h8.1 c9) (fun y10_0 y10_1 h10 g10 => ⟨fun c11 => ih.2.2 _ _ _ g10 (h10.1 c11), fun c12 => vtX6_isCritical hk g10 (h10.2 c12) (fun y13_0 y13_1 h13 g13 => ⟨fun c14 => vtX6_staysAcyclic hk g13 (h13.1 c14) (fun y15_0 y15_1 h15 g15 => ⟨fun c16 => vtX3_save_c4 hk g15 (h15.1 c16) (fun y17_0 h17 g17 => vtX6_unite hk g17 h17 (fun y18_0 h18 g18 => vtX11_criticalOnes hk g18 h18 (fun y19_0 y19_1 h19 g19 => ⟨h19, g19⟩))), fun c20 => ⟨(h15.2 c20), g15⟩⟩), fun c21 => ih.2.2 _ _ _ g13 (h13.2 c21)⟩)⟩), fun c22 => ih.2.1 _ _ _ g4 (h8.2 c22)⟩)⟩⟩)⟩)
    · intro t li lj g hR
      have hR : wbX11_pair_1 (wpX11_pair k) k t li lj Q := hR
      show wbX11_pair_1 (wpX11_pair k) k t li lj (fun r t => Q r t ∧ G t)
      unfold wbX11_pair_1 at hR ⊢
      exact ⟨hR, g⟩
    · intro t li lj g hR
      have hR : wbX11_pair_2 (wpX11_pair k) k t li lj Q := hR
      show wbX11_pair_2 (wpX11_pair k) k t li lj (fun r t => Q r t ∧ G t)
      unfold wbX11_pair_2 at hR ⊢
      exact ⟨hR, g⟩
theorem vgX11_pair {G : XT → Prop} {k : Nat} {t : XT} {a1 : Int32} {a2 : Int32} {Q : Int32 → XT → Prop} (hk : kpA G) (g : G t) (hR : wqX11_pair k t a1 a2 Q) : wqX11_pair k t a1 a2 (fun r t => Q r t ∧ G t) := (vfX11_pair hk Q k).1 t _ _ g hR
theorem vtX11_pair {G : XT → Prop} {k : Nat} {t : XT} {a1 : Int32} {a2 : Int32} {Q Q' : Int32 → XT → Prop} (hk : kpA G) (g : G t) (hR : wqX11_pair k t a1 a2 Q) (hQ : (∀ r t, Q r t → G t → Q' r t)) : wqX11_pair k t a1 a2 Q' := wmX11_pair (Nat.le_refl k) (fun r t h => hQ r t h.1 h.2) (vgX11_pair hk g hR)
set_option maxHeartbeats 4000000 in
set_option maxRecDepth 100000 in
theorem vfX6_divide {G : XT → Prop} (hk : kpA G) (Q : XT → Prop) : ∀ k : Nat, (∀ (t : XT) (li : Nat → Int32) (lj : Nat → Int64), G t → wpX6_divide k 0 t li lj Q → wpX6_divide k 0 t li lj (fun t => Q t ∧ G t)) := by
  intro k
  induction k with
  | zero => exact fun _ _ _ _ hR => False.elim hR
  | succ k ih =>
    intro t li lj g hR
    have hR : wbX6_divide_0 (wpX6_divide k) k t li lj Q := hR
    show wbX6_divide_0 (wpX6_divide k) k t li lj (fun t => Q t ∧ G t)
    unfold wbX6_divide_0 at hR ⊢
    exact ⟨hR.1, fun x1 e1 => ⟨fun c2 => ⟨((hR.2 x1 e1).1 c2).1, fun x3 e3 => have g3 : G x3 := (by rw [e3]; exact hk.2.2.1 _ _ _ (by decide) g); ⟨(((hR.2 x1 e1).1 c2).2 x3 e3).1, fun x4 e4 => have g4 : G x4 := (by rw [e4]; exact hk.2.2.1 _ _ _ (by decide) g3); wcX11_bit ((((hR.2 x1 e1).1 c2).2 x3 e3).2 x4 e4) (fun y5_0 h5 => wcX11_bit h5 (fun y6_0 h6 => fun x7 e7 => fun x8 e8 => fun x9 e9 => fun x10 e10 => have g10 : G x10 := (by rw [e10]; exact hk.2.1 _ _ _ g4); fun x11 e11 => fun x12 e12 => have g12 : G x12 := (by rw [e12]; exact hk.2.1 _ _ _ g10); fun x13 e13 => fun x14 e14 => have g14 : G x14 := (by rw [e14]; exact hk.1 _ _ _ g12); ⟨((((((((h6 x7 e7) x8 e8) x9 e9) x10 e10) x11 e11) x12 e12) x13 e13) x14 e14), g14⟩))⟩⟩, fun c15 => ⟨((hR.2 x1 e1).2 c15), g⟩⟩⟩
theorem vgX6_divide {G : XT → Prop} {k : Nat} {t : XT} {a1 : Int32} {Q : XT → Prop} (hk : kpA G) (g : G t) (hR : wqX6_divide k t a1 Q) : wqX6_divide k t a1 (fun t => Q t ∧ G t) := (vfX6_divide hk Q k) t _ _ g hR
theorem vtX6_divide {G : XT → Prop} {k : Nat} {t : XT} {a1 : Int32} {Q Q' : XT → Prop} (hk : kpA G) (g : G t) (hR : wqX6_divide k t a1 Q) (hQ : (∀ t, Q t → G t → Q' t)) : wqX6_divide k t a1 Q' := wmX6_divide (Nat.le_refl k) (fun t h => hQ t h.1 h.2) (vgX6_divide hk g hR)
