/-! ===== the class: what does not act leaves PAIRS, what is THERE, the past and what is kept ===== -/
def kpP (G : XT → Prop) : Prop := (∀ u i v, i ≠ 8 → i ≠ 9 → G u → G (sI u i v)) ∧ (∀ u i v, i ≠ 0 → i ≠ 1 → i ≠ 2 → i ≠ 6 → G u → G (sJ u i v)) ∧ (∀ u i f, i ≠ 5 → i ≠ 9 → i ≠ 10 → G u → G (sA u i f)) ∧ (∀ u i f, i ≠ 6 → G u → G (sB u i f))
set_option maxHeartbeats 4000000 in
set_option maxRecDepth 100000 in
theorem zfX10_append {G : XT → Prop} (hk : kpP G) (Q : XT → Prop) : ∀ k : Nat, (∀ (t : XT) (li : Nat → Int32) (lj : Nat → Int64), G t → wpX10_append k 0 t li lj Q → wpX10_append k 0 t li lj (fun t => Q t ∧ G t)) ∧ (∀ (t : XT) (li : Nat → Int32) (lj : Nat → Int64), G t → wpX10_append k 1 t li lj Q → wpX10_append k 1 t li lj (fun t => Q t ∧ G t)) := by
  intro k
  induction k with
  | zero => exact ⟨fun _ _ _ _ hR => False.elim hR, fun _ _ _ _ hR => False.elim hR⟩
  | succ k ih =>
    refine ⟨?_, ?_⟩
    · intro t li lj g hR
      have hR : wbX10_append_0 (wpX10_append k) k t li lj Q := hR
      show wbX10_append_0 (wpX10_append k) k t li lj (fun t => Q t ∧ G t)
      unfold wbX10_append_0 at hR ⊢
      exact ih.2 _ _ _ g hR
    · intro t li lj g hR
      have hR : wbX10_append_1 (wpX10_append k) k t li lj Q := hR
      show wbX10_append_1 (wpX10_append k) k t li lj (fun t => Q t ∧ G t)
      unfold wbX10_append_1 at hR ⊢
      exact ⟨fun c1 => ⟨(hR.1 c1), g⟩, fun c2 => ⟨fun c3 => ⟨((hR.2 c2).1 c3), g⟩, fun c4 => fun x5 e5 => fun x6 e6 => ⟨((((hR.2 c2).2 c4) x5 e5) x6 e6).1, fun x7 e7 => have g7 : G x7 := (by rw [e7]; exact hk.2.2.1 _ _ _ (by decide) (by decide) (by decide) g); fun x8 e8 => fun x9 e9 => have g9 : G x9 := (by rw [e9]; exact hk.1 _ _ _ (by decide) (by decide) g7); fun x10 e10 => ih.2 _ _ _ g9 ((((((((hR.2 c2).2 c4) x5 e5) x6 e6).2 x7 e7) x8 e8) x9 e9) x10 e10)⟩⟩⟩
theorem zgX10_append {G : XT → Prop} {k : Nat} {t : XT} {a1 : Int32} {Q : XT → Prop} (hk : kpP G) (g : G t) (hR : wqX10_append k t a1 Q) : wqX10_append k t a1 (fun t => Q t ∧ G t) := (zfX10_append hk Q k).1 t _ _ g hR
theorem ztX10_append {G : XT → Prop} {k : Nat} {t : XT} {a1 : Int32} {Q Q' : XT → Prop} (hk : kpP G) (g : G t) (hR : wqX10_append k t a1 Q) (hQ : (∀ t, Q t → G t → Q' t)) : wqX10_append k t a1 Q' := wmX10_append (Nat.le_refl k) (fun t h => hQ t h.1 h.2) (zgX10_append hk g hR)
set_option maxHeartbeats 4000000 in
set_option maxRecDepth 100000 in
theorem zfX11_feed {G : XT → Prop} (hk : kpP G) (Q : Int32 → XT → Prop) : ∀ k : Nat, (∀ (t : XT) (li : Nat → Int32) (lj : Nat → Int64), G t → wpX11_feed k 0 t li lj Q → wpX11_feed k 0 t li lj (fun r t => Q r t ∧ G t)) := by
  intro k
  induction k with
  | zero => exact fun _ _ _ _ hR => False.elim hR
  | succ k ih =>
    intro t li lj g hR
    have hR : wbX11_feed_0 (wpX11_feed k) k t li lj Q := hR
    show wbX11_feed_0 (wpX11_feed k) k t li lj (fun r t => Q r t ∧ G t)
    unfold wbX11_feed_0 at hR ⊢
    exact fun x1 e1 => ⟨fun c2 => ztX10_append hk g ((hR x1 e1).1 c2) (fun y3_0 h3 g3 => ztX10_append hk g3 h3 (fun y4_0 h4 g4 => ztX10_append hk g4 h4 (fun y5_0 h5 g5 => ztX10_append hk g5 h5 (fun y6_0 h6 g6 => ztX10_append hk g6 h6 (fun y7_0 h7 g7 => ⟨h7, g7⟩))))), fun c8 => ⟨((hR x1 e1).2 c8), g⟩⟩
theorem zgX11_feed {G : XT → Prop} {k : Nat} {t : XT} {a1 : Int32} {a2 : Int32} {a3 : Int32} {a4 : Int32} {a5 : Int32} {Q : Int32 → XT → Prop} (hk : kpP G) (g : G t) (hR : wqX11_feed k t a1 a2 a3 a4 a5 Q) : wqX11_feed k t a1 a2 a3 a4 a5 (fun r t => Q r t ∧ G t) := (zfX11_feed hk Q k) t _ _ g hR
theorem ztX11_feed {G : XT → Prop} {k : Nat} {t : XT} {a1 : Int32} {a2 : Int32} {a3 : Int32} {a4 : Int32} {a5 : Int32} {Q Q' : Int32 → XT → Prop} (hk : kpP G) (g : G t) (hR : wqX11_feed k t a1 a2 a3 a4 a5 Q) (hQ : (∀ r t, Q r t → G t → Q' r t)) : wqX11_feed k t a1 a2 a3 a4 a5 Q' := wmX11_feed (Nat.le_refl k) (fun r t h => hQ r t h.1 h.2) (zgX11_feed hk g hR)
set_option maxHeartbeats 4000000 in
set_option maxRecDepth 100000 in
theorem zfX11_end {G : XT → Prop} (hk : kpP G) (Q : Int32 → XT → Prop) : ∀ k : Nat, (∀ (t : XT) (li : Nat → Int32) (lj : Nat → Int64), G t → wpX11_end k 0 t li lj Q → wpX11_end k 0 t li lj (fun r t => Q r t ∧ G t)) ∧ (∀ (t : XT) (li : Nat → Int32) (lj : Nat → Int64), G t → wpX11_end k 1 t li lj Q → wpX11_end k 1 t li lj (fun r t => Q r t ∧ G t)) := by
  intro k
  induction k with
  | zero => exact ⟨fun _ _ _ _ hR => False.elim hR, fun _ _ _ _ hR => False.elim hR⟩
  | succ k ih =>
    refine ⟨?_, ?_⟩
    · intro t li lj g hR
      have hR : wbX11_end_0 (wpX11_end k) k t li lj Q := hR
      show wbX11_end_0 (wpX11_end k) k t li lj (fun r t => Q r t ∧ G t)
      unfold wbX11_end_0 at hR ⊢
      exact ⟨fun c1 => ih.2 _ _ _ g (hR.1 c1), fun c2 => ⟨fun c3 => fun x4 e4 => have g4 : G x4 := (by rw [e4]; exact hk.1 _ _ _ (by decide) (by decide) g); ⟨(((hR.2 c2).1 c3) x4 e4), g4⟩, fun c5 => ih.2 _ _ _ g ((hR.2 c2).2 c5)⟩⟩
    · intro t li lj g hR
      have hR : wbX11_end_1 (wpX11_end k) k t li lj Q := hR
      show wbX11_end_1 (wpX11_end k) k t li lj (fun r t => Q r t ∧ G t)
      unfold wbX11_end_1 at hR ⊢
      exact ⟨hR, g⟩
theorem zgX11_end {G : XT → Prop} {k : Nat} {t : XT} {a1 : Int32} {Q : Int32 → XT → Prop} (hk : kpP G) (g : G t) (hR : wqX11_end k t a1 Q) : wqX11_end k t a1 (fun r t => Q r t ∧ G t) := (zfX11_end hk Q k).1 t _ _ g hR
theorem ztX11_end {G : XT → Prop} {k : Nat} {t : XT} {a1 : Int32} {Q Q' : Int32 → XT → Prop} (hk : kpP G) (g : G t) (hR : wqX11_end k t a1 Q) (hQ : (∀ r t, Q r t → G t → Q' r t)) : wqX11_end k t a1 Q' := wmX11_end (Nat.le_refl k) (fun r t h => hQ r t h.1 h.2) (zgX11_end hk g hR)
set_option maxHeartbeats 4000000 in
set_option maxRecDepth 100000 in
theorem zfX10_at {G : XT → Prop} (hk : kpP G) (Q : Int32 → XT → Prop) : ∀ k : Nat, (∀ (t : XT) (li : Nat → Int32) (lj : Nat → Int64), G t → wpX10_at k 0 t li lj Q → wpX10_at k 0 t li lj (fun r t => Q r t ∧ G t)) ∧ (∀ (t : XT) (li : Nat → Int32) (lj : Nat → Int64), G t → wpX10_at k 1 t li lj Q → wpX10_at k 1 t li lj (fun r t => Q r t ∧ G t)) := by
  intro k
  induction k with
  | zero => exact ⟨fun _ _ _ _ hR => False.elim hR, fun _ _ _ _ hR => False.elim hR⟩
  | succ k ih =>
    refine ⟨?_, ?_⟩
    · intro t li lj g hR
      have hR : wbX10_at_0 (wpX10_at k) k t li lj Q := hR
      show wbX10_at_0 (wpX10_at k) k t li lj (fun r t => Q r t ∧ G t)
      unfold wbX10_at_0 at hR ⊢
      exact ⟨fun c1 => ih.2 _ _ _ g (hR.1 c1), fun c2 => ⟨fun c3 => ih.2 _ _ _ g ((hR.2 c2).1 c3), fun c4 => ⟨((hR.2 c2).2 c4).1, fun x5 e5 => ⟨(((hR.2 c2).2 c4).2 x5 e5), g⟩⟩⟩⟩
    · intro t li lj g hR
      have hR : wbX10_at_1 (wpX10_at k) k t li lj Q := hR
      show wbX10_at_1 (wpX10_at k) k t li lj (fun r t => Q r t ∧ G t)
      unfold wbX10_at_1 at hR ⊢
      exact ⟨hR, g⟩
theorem zgX10_at {G : XT → Prop} {k : Nat} {t : XT} {a1 : Int32} {Q : Int32 → XT → Prop} (hk : kpP G) (g : G t) (hR : wqX10_at k t a1 Q) : wqX10_at k t a1 (fun r t => Q r t ∧ G t) := (zfX10_at hk Q k).1 t _ _ g hR
theorem ztX10_at {G : XT → Prop} {k : Nat} {t : XT} {a1 : Int32} {Q Q' : Int32 → XT → Prop} (hk : kpP G) (g : G t) (hR : wqX10_at k t a1 Q) (hQ : (∀ r t, Q r t → G t → Q' r t)) : wqX10_at k t a1 Q' := wmX10_at (Nat.le_refl k) (fun r t h => hQ r t h.1 h.2) (zgX10_at hk g hR)
set_option maxHeartbeats 4000000 in
set_option maxRecDepth 100000 in
theorem zfX8_skipBlanks_c1 {G : XT → Prop} (hk : kpP G) (Q : XT → Prop) : ∀ k : Nat, (∀ (t : XT) (li : Nat → Int32) (lj : Nat → Int64), G t → wpX8_skipBlanks_c1 k 0 t li lj Q → wpX8_skipBlanks_c1 k 0 t li lj (fun t => Q t ∧ G t)) := by
  intro k
  induction k with
  | zero => exact fun _ _ _ _ hR => False.elim hR
  | succ k ih =>
    intro t li lj g hR
    have hR : wbX8_skipBlanks_c1_0 (wpX8_skipBlanks_c1 k) k t li lj Q := hR
    show wbX8_skipBlanks_c1_0 (wpX8_skipBlanks_c1 k) k t li lj (fun t => Q t ∧ G t)
    unfold wbX8_skipBlanks_c1_0 at hR ⊢
    exact ⟨fun c1 => ⟨(hR.1 c1), g⟩, fun c2 => ztX10_at hk g (hR.2 c2) (fun y3_0 y3_1 h3 g3 => ⟨fun c4 => ⟨(h3.1 c4), g3⟩, fun c5 => fun x6 e6 => fun x7 e7 => have g7 : G x7 := (by rw [e7]; exact hk.1 _ _ _ (by decide) (by decide) g3); ih _ _ _ g7 (((h3.2 c5) x6 e6) x7 e7)⟩)⟩
theorem zgX8_skipBlanks_c1 {G : XT → Prop} {k : Nat} {t : XT}  {Q : XT → Prop} (hk : kpP G) (g : G t) (hR : wqX8_skipBlanks_c1 k t  Q) : wqX8_skipBlanks_c1 k t  (fun t => Q t ∧ G t) := (zfX8_skipBlanks_c1 hk Q k) t _ _ g hR
theorem ztX8_skipBlanks_c1 {G : XT → Prop} {k : Nat} {t : XT}  {Q Q' : XT → Prop} (hk : kpP G) (g : G t) (hR : wqX8_skipBlanks_c1 k t  Q) (hQ : (∀ t, Q t → G t → Q' t)) : wqX8_skipBlanks_c1 k t  Q' := wmX8_skipBlanks_c1 (Nat.le_refl k) (fun t h => hQ t h.1 h.2) (zgX8_skipBlanks_c1 hk g hR)
set_option maxHeartbeats 4000000 in
set_option maxRecDepth 100000 in
theorem zfX8_tell {G : XT → Prop} (hk : kpP G) (Q : XT → Prop) : ∀ k : Nat, (∀ (t : XT) (li : Nat → Int32) (lj : Nat → Int64), G t → wpX8_tell k 0 t li lj Q → wpX8_tell k 0 t li lj (fun t => Q t ∧ G t)) ∧ (∀ (t : XT) (li : Nat → Int32) (lj : Nat → Int64), G t → wpX8_tell k 1 t li lj Q → wpX8_tell k 1 t li lj (fun t => Q t ∧ G t)) ∧ (∀ (t : XT) (li : Nat → Int32) (lj : Nat → Int64), G t → wpX8_tell k 2 t li lj Q → wpX8_tell k 2 t li lj (fun t => Q t ∧ G t)) := by
  intro k
  induction k with
  | zero => exact ⟨fun _ _ _ _ hR => False.elim hR, fun _ _ _ _ hR => False.elim hR, fun _ _ _ _ hR => False.elim hR⟩
  | succ k ih =>
    refine ⟨?_, ?_, ?_⟩
    · intro t li lj g hR
      have hR : wbX8_tell_0 (wpX8_tell k) k t li lj Q := hR
      show wbX8_tell_0 (wpX8_tell k) k t li lj (fun t => Q t ∧ G t)
      unfold wbX8_tell_0 at hR ⊢
      exact ih.2.1 _ _ _ g hR
    · intro t li lj g hR
      have hR : wbX8_tell_1 (wpX8_tell k) k t li lj Q := hR
      show wbX8_tell_1 (wpX8_tell k) k t li lj (fun t => Q t ∧ G t)
      unfold wbX8_tell_1 at hR ⊢
      exact ⟨fun c1 => ⟨(hR.1 c1), g⟩, fun c2 => ⟨fun c3 => ⟨((hR.2 c2).1 c3), g⟩, fun c4 => fun x5 e5 => fun x6 e6 => ⟨fun c7 => ih.2.2 _ _ _ g (((((hR.2 c2).2 c4) x5 e5) x6 e6).1 c7), fun c8 => ⟨(((((hR.2 c2).2 c4) x5 e5) x6 e6).2 c8).1, fun x9 e9 => ⟨fun c10 => ih.2.2 _ _ _ g (((((((hR.2 c2).2 c4) x5 e5) x6 e6).2 c8).2 x9 e9).1 c10), fun c11 => ⟨(((((((hR.2 c2).2 c4) x5 e5) x6 e6).2 c8).2 x9 e9).2 c11).1, fun x12 e12 => have g12 : G x12 := (by rw [e12]; exact hk.2.2.1 _ _ _ (by decide) (by decide) (by decide) g); fun x13 e13 => fun x14 e14 => have g14 : G x14 := (by rw [e14]; exact hk.1 _ _ _ (by decide) (by decide) g12); ih.2.2 _ _ _ g14 ((((((((((hR.2 c2).2 c4) x5 e5) x6 e6).2 c8).2 x9 e9).2 c11).2 x12 e12) x13 e13) x14 e14)⟩⟩⟩⟩⟩⟩
    · intro t li lj g hR
      have hR : wbX8_tell_2 (wpX8_tell k) k t li lj Q := hR
      show wbX8_tell_2 (wpX8_tell k) k t li lj (fun t => Q t ∧ G t)
      unfold wbX8_tell_2 at hR ⊢
      exact fun x1 e1 => ih.2.1 _ _ _ g (hR x1 e1)
theorem zgX8_tell {G : XT → Prop} {k : Nat} {t : XT} {a1 : Int32} {Q : XT → Prop} (hk : kpP G) (g : G t) (hR : wqX8_tell k t a1 Q) : wqX8_tell k t a1 (fun t => Q t ∧ G t) := (zfX8_tell hk Q k).1 t _ _ g hR
theorem ztX8_tell {G : XT → Prop} {k : Nat} {t : XT} {a1 : Int32} {Q Q' : XT → Prop} (hk : kpP G) (g : G t) (hR : wqX8_tell k t a1 Q) (hQ : (∀ t, Q t → G t → Q' t)) : wqX8_tell k t a1 Q' := wmX8_tell (Nat.le_refl k) (fun t h => hQ t h.1 h.2) (zgX8_tell hk g hR)
set_option maxHeartbeats 4000000 in
set_option maxRecDepth 100000 in
theorem zfX8_readFacet_c1 {G : XT → Prop} (hk : kpP G) (Q : Int32 → XT → Prop) : ∀ k : Nat, (∀ (t : XT) (li : Nat → Int32) (lj : Nat → Int64), G t → wpX8_readFacet_c1 k 0 t li lj Q → wpX8_readFacet_c1 k 0 t li lj (fun r t => Q r t ∧ G t)) ∧ (∀ (t : XT) (li : Nat → Int32) (lj : Nat → Int64), G t → wpX8_readFacet_c1 k 1 t li lj Q → wpX8_readFacet_c1 k 1 t li lj (fun r t => Q r t ∧ G t)) ∧ (∀ (t : XT) (li : Nat → Int32) (lj : Nat → Int64), G t → wpX8_readFacet_c1 k 2 t li lj Q → wpX8_readFacet_c1 k 2 t li lj (fun r t => Q r t ∧ G t)) := by
  intro k
  induction k with
  | zero => exact ⟨fun _ _ _ _ hR => False.elim hR, fun _ _ _ _ hR => False.elim hR, fun _ _ _ _ hR => False.elim hR⟩
  | succ k ih =>
    refine ⟨?_, ?_, ?_⟩
    · intro t li lj g hR
      have hR : wbX8_readFacet_c1_0 (wpX8_readFacet_c1 k) k t li lj Q := hR
      show wbX8_readFacet_c1_0 (wpX8_readFacet_c1 k) k t li lj (fun r t => Q r t ∧ G t)
      unfold wbX8_readFacet_c1_0 at hR ⊢
      exact ztX10_at hk g hR (fun y1_0 y1_1 h1 g1 => wcX8_isLetter h1 (fun y2_0 h2 => ⟨fun c3 => ⟨fun c4 => ih.2.1 _ _ _ g1 ((h2.1 c3).1 c4), fun c5 => wcX8_fault ((h2.1 c3).2 c5) (fun y6_0 h6 => ⟨h6, g1⟩)⟩, fun c7 => wcX8_fault (h2.2 c7) (fun y8_0 h8 => ⟨h8, g1⟩)⟩))
    · intro t li lj g hR
      have hR : wbX8_readFacet_c1_1 (wpX8_readFacet_c1 k) k t li lj Q := hR
      show wbX8_readFacet_c1_1 (wpX8_readFacet_c1 k) k t li lj (fun r t => Q r t ∧ G t)
      unfold wbX8_readFacet_c1_1 at hR ⊢
      exact ⟨fun c1 => ih.2.2 _ _ _ g (hR.1 c1), fun c2 => ztX10_at hk g (hR.2 c2) (fun y3_0 y3_1 h3 g3 => wcX8_isLetter h3 (fun y4_0 h4 => ⟨fun c5 => ih.2.2 _ _ _ g3 (h4.1 c5), fun c6 => ztX10_at hk g3 (h4.2 c6) (fun y7_0 y7_1 h7 g7 => fun x8 e8 => fun x9 e9 => fun x10 e10 => ⟨fun c11 => wcJ6_bitCount_0f7a4 ((((h7 x8 e8) x9 e9) x10 e10).1 c11) (fun y12_0 h12 => ⟨fun c13 => fun x14 e14 => fun x15 e15 => fun x16 e16 => have g16 : G x16 := (by rw [e16]; exact hk.1 _ _ _ (by decide) (by decide) g7); ih.2.1 _ _ _ g16 ((((h12.1 c13) x14 e14) x15 e15) x16 e16), fun c17 => wcX8_fault (h12.2 c17) (fun y18_0 h18 => ⟨h18, g7⟩)⟩), fun c19 => wcX8_fault ((((h7 x8 e8) x9 e9) x10 e10).2 c19) (fun y20_0 h20 => ⟨h20, g7⟩)⟩)⟩))⟩
    · intro t li lj g hR
      have hR : wbX8_readFacet_c1_2 (wpX8_readFacet_c1 k) k t li lj Q := hR
      show wbX8_readFacet_c1_2 (wpX8_readFacet_c1 k) k t li lj (fun r t => Q r t ∧ G t)
      unfold wbX8_readFacet_c1_2 at hR ⊢
      exact ztX8_tell hk g hR (fun y1_0 h1 g1 => ⟨fun c2 => ⟨(h1.1 c2), g1⟩, fun c3 => wcX8_fault (h1.2 c3) (fun y4_0 h4 => ⟨h4, g1⟩)⟩)
theorem zgX8_readFacet_c1 {G : XT → Prop} {k : Nat} {t : XT} {a2 : Int32} {Q : Int32 → XT → Prop} (hk : kpP G) (g : G t) (hR : wqX8_readFacet_c1 k t a2 Q) : wqX8_readFacet_c1 k t a2 (fun r t => Q r t ∧ G t) := (zfX8_readFacet_c1 hk Q k).1 t _ _ g hR
theorem ztX8_readFacet_c1 {G : XT → Prop} {k : Nat} {t : XT} {a2 : Int32} {Q Q' : Int32 → XT → Prop} (hk : kpP G) (g : G t) (hR : wqX8_readFacet_c1 k t a2 Q) (hQ : (∀ r t, Q r t → G t → Q' r t)) : wqX8_readFacet_c1 k t a2 Q' := wmX8_readFacet_c1 (Nat.le_refl k) (fun r t h => hQ r t h.1 h.2) (zgX8_readFacet_c1 hk g hR)
set_option maxHeartbeats 4000000 in
set_option maxRecDepth 100000 in
theorem zfX8_read_c1 {G : XT → Prop} (hk : kpP G) (Q : Int32 → XT → Prop) : ∀ k : Nat, (∀ (t : XT) (li : Nat → Int32) (lj : Nat → Int64), G t → wpX8_read_c1 k 0 t li lj Q → wpX8_read_c1 k 0 t li lj (fun r t => Q r t ∧ G t)) ∧ (∀ (t : XT) (li : Nat → Int32) (lj : Nat → Int64), G t → wpX8_read_c1 k 1 t li lj Q → wpX8_read_c1 k 1 t li lj (fun r t => Q r t ∧ G t)) := by
  intro k
  induction k with
  | zero => exact ⟨fun _ _ _ _ hR => False.elim hR, fun _ _ _ _ hR => False.elim hR⟩
  | succ k ih =>
    refine ⟨?_, ?_⟩
    · intro t li lj g hR
      have hR : wbX8_read_c1_0 (wpX8_read_c1 k) k t li lj Q := hR
      show wbX8_read_c1_0 (wpX8_read_c1 k) k t li lj (fun r t => Q r t ∧ G t)
      unfold wbX8_read_c1_0 at hR ⊢
      exact fun x1 e1 => have g1 : G x1 := (by rw [e1]; exact hk.2.2.1 _ _ _ (by decide) (by decide) (by decide) g); fun x2 e2 => have g2 : G x2 := (by rw [e2]; exact hk.1 _ _ _ (by decide) (by decide) g1); fun x3 e3 => have g3 : G x3 := (by rw [e3]; exact hk.1 _ _ _ (by decide) (by decide) g2); ih.2 _ _ _ g3 (((hR x1 e1) x2 e2) x3 e3)
    · intro t li lj g hR
      have hR : wbX8_read_c1_1 (wpX8_read_c1 k) k t li lj Q := hR
      show wbX8_read_c1_1 (wpX8_read_c1 k) k t li lj (fun r t => Q r t ∧ G t)
      unfold wbX8_read_c1_1 at hR ⊢
      exact ⟨fun c1 => wcX8_fault (hR.1 c1) (fun y2_0 h2 => ⟨h2, g⟩), fun c3 => ztX8_skipBlanks_c1 hk g (hR.2 c3) (fun y4_0 h4 g4 => ztX8_readFacet_c1 hk g4 h4 (fun y5_0 y5_1 h5 g5 => ⟨fun c6 => ztX8_skipBlanks_c1 hk g5 (h5.1 c6) (fun y7_0 h7 g7 => ⟨fun c8 => ztX10_at hk g7 (h7.1 c8) (fun y9_0 y9_1 h9 g9 => ⟨fun c10 => fun x11 e11 => fun x12 e12 => have g12 : G x12 := (by rw [e12]; exact hk.1 _ _ _ (by decide) (by decide) g9); fun x13 e13 => ih.2 _ _ _ g12 ((((h9.1 c10) x11 e11) x12 e12) x13 e13), fun c14 => wcX8_fault (h9.2 c14) (fun y15_0 h15 => ⟨h15, g9⟩)⟩), fun c16 => ⟨(h7.2 c16), g7⟩⟩), fun c17 => ⟨(h5.2 c17), g5⟩⟩))⟩
theorem zgX8_read_c1 {G : XT → Prop} {k : Nat} {t : XT}  {Q : Int32 → XT → Prop} (hk : kpP G) (g : G t) (hR : wqX8_read_c1 k t  Q) : wqX8_read_c1 k t  (fun r t => Q r t ∧ G t) := (zfX8_read_c1 hk Q k).1 t _ _ g hR
theorem ztX8_read_c1 {G : XT → Prop} {k : Nat} {t : XT}  {Q Q' : Int32 → XT → Prop} (hk : kpP G) (g : G t) (hR : wqX8_read_c1 k t  Q) (hQ : (∀ r t, Q r t → G t → Q' r t)) : wqX8_read_c1 k t  Q' := wmX8_read_c1 (Nat.le_refl k) (fun r t h => hQ r t h.1 h.2) (zgX8_read_c1 hk g hR)
set_option maxHeartbeats 4000000 in
set_option maxRecDepth 100000 in
theorem zfX9_add {G : XT → Prop} (hk : kpP G) (Q : XT → Prop) : ∀ k : Nat, (∀ (t : XT) (li : Nat → Int32) (lj : Nat → Int64), G t → wpX9_add k 0 t li lj Q → wpX9_add k 0 t li lj (fun t => Q t ∧ G t)) ∧ (∀ (t : XT) (li : Nat → Int32) (lj : Nat → Int64), G t → wpX9_add k 1 t li lj Q → wpX9_add k 1 t li lj (fun t => Q t ∧ G t)) ∧ (∀ (t : XT) (li : Nat → Int32) (lj : Nat → Int64), G t → wpX9_add k 2 t li lj Q → wpX9_add k 2 t li lj (fun t => Q t ∧ G t)) ∧ (∀ (t : XT) (li : Nat → Int32) (lj : Nat → Int64), G t → wpX9_add k 3 t li lj Q → wpX9_add k 3 t li lj (fun t => Q t ∧ G t)) := by
  intro k
  induction k with
  | zero => exact ⟨fun _ _ _ _ hR => False.elim hR, fun _ _ _ _ hR => False.elim hR, fun _ _ _ _ hR => False.elim hR, fun _ _ _ _ hR => False.elim hR⟩
  | succ k ih =>
    refine ⟨?_, ?_, ?_, ?_⟩
    · intro t li lj g hR
      have hR : wbX9_add_0 (wpX9_add k) k t li lj Q := hR
      show wbX9_add_0 (wpX9_add k) k t li lj (fun t => Q t ∧ G t)
      unfold wbX9_add_0 at hR ⊢
      exact ⟨hR.1, fun x1 e1 => have g1 : G x1 := (by rw [e1]; exact hk.2.2.1 _ _ _ (by decide) (by decide) (by decide) g); ⟨(hR.2 x1 e1).1, fun x2 e2 => have g2 : G x2 := (by rw [e2]; exact hk.2.2.1 _ _ _ (by decide) (by decide) (by decide) g1); ⟨((hR.2 x1 e1).2 x2 e2).1, fun x3 e3 => have g3 : G x3 := (by rw [e3]; exact hk.2.2.1 _ _ _ (by decide) (by decide) (by decide) g2); ⟨(((hR.2 x1 e1).2 x2 e2).2 x3 e3).1, fun x4 e4 => wcX11_bit ((((hR.2 x1 e1).2 x2 e2).2 x3 e3).2 x4 e4) (fun y5_0 h5 => fun x6 e6 => ⟨(h5 x6 e6).1, fun x7 e7 => have g7 : G x7 := (by rw [e7]; exact hk.2.2.2 _ _ _ (by decide) g3); ih.2.1 _ _ _ g7 ((h5 x6 e6).2 x7 e7)⟩)⟩⟩⟩⟩
    · intro t li lj g hR
      have hR : wbX9_add_1 (wpX9_add k) k t li lj Q := hR
      show wbX9_add_1 (wpX9_add k) k t li lj (fun t => Q t ∧ G t)
      unfold wbX9_add_1 at hR ⊢
      exact ⟨fun c1 => fun x2 e2 => fun x3 e3 => have g3 : G x3 := (by rw [e3]; exact hk.1 _ _ _ (by decide) (by decide) g); ⟨(((hR.1 c1) x2 e2) x3 e3), g3⟩, fun c4 => fun x5 e5 => fun x6 e6 => fun x7 e7 => ⟨fun c8 => ih.2.2.1 _ _ _ g (((((hR.2 c4) x5 e5) x6 e6) x7 e7).1 c8), fun c9 => ⟨(((((hR.2 c4) x5 e5) x6 e6) x7 e7).2 c9).1, fun x10 e10 => ih.2.2.1 _ _ _ g ((((((hR.2 c4) x5 e5) x6 e6) x7 e7).2 c9).2 x10 e10)⟩⟩⟩
    · intro t li lj g hR
      have hR : wbX9_add_2 (wpX9_add k) k t li lj Q := hR
      show wbX9_add_2 (wpX9_add k) k t li lj (fun t => Q t ∧ G t)
      unfold wbX9_add_2 at hR ⊢
      exact ⟨fun c1 => ih.2.2.2 _ _ _ g (hR.1 c1), fun c2 => ⟨(hR.2 c2).1, fun x3 e3 => wcX11_bit ((hR.2 c2).2 x3 e3) (fun y4_0 h4 => fun x5 e5 => ⟨(h4 x5 e5).1, fun x6 e6 => have g6 : G x6 := (by rw [e6]; exact hk.2.2.2 _ _ _ (by decide) g); ⟨((h4 x5 e5).2 x6 e6).1, fun x7 e7 => wcX11_bit (((h4 x5 e5).2 x6 e6).2 x7 e7) (fun y8_0 h8 => fun x9 e9 => ⟨(h8 x9 e9).1, fun x10 e10 => have g10 : G x10 := (by rw [e10]; exact hk.2.2.2 _ _ _ (by decide) g6); ih.2.2.2 _ _ _ g10 ((h8 x9 e9).2 x10 e10)⟩)⟩⟩)⟩⟩
    · intro t li lj g hR
      have hR : wbX9_add_3 (wpX9_add k) k t li lj Q := hR
      show wbX9_add_3 (wpX9_add k) k t li lj (fun t => Q t ∧ G t)
      unfold wbX9_add_3 at hR ⊢
      exact fun x1 e1 => ih.2.1 _ _ _ g (hR x1 e1)
theorem zgX9_add {G : XT → Prop} {k : Nat} {t : XT} {a1 : Int32} {a2 : Int32} {Q : XT → Prop} (hk : kpP G) (g : G t) (hR : wqX9_add k t a1 a2 Q) : wqX9_add k t a1 a2 (fun t => Q t ∧ G t) := (zfX9_add hk Q k).1 t _ _ g hR
theorem ztX9_add {G : XT → Prop} {k : Nat} {t : XT} {a1 : Int32} {a2 : Int32} {Q Q' : XT → Prop} (hk : kpP G) (g : G t) (hR : wqX9_add k t a1 a2 Q) (hQ : (∀ t, Q t → G t → Q' t)) : wqX9_add k t a1 a2 Q' := wmX9_add (Nat.le_refl k) (fun t h => hQ t h.1 h.2) (zgX9_add hk g hR)
set_option maxHeartbeats 4000000 in
set_option maxRecDepth 100000 in
theorem zfX9_build_c13 {G : XT → Prop} (hk : kpP G) (Q : XT → Prop) : ∀ k : Nat, (∀ (t : XT) (li : Nat → Int32) (lj : Nat → Int64), G t → wpX9_build_c13 k 0 t li lj Q → wpX9_build_c13 k 0 t li lj (fun t => Q t ∧ G t)) ∧ (∀ (t : XT) (li : Nat → Int32) (lj : Nat → Int64), G t → wpX9_build_c13 k 1 t li lj Q → wpX9_build_c13 k 1 t li lj (fun t => Q t ∧ G t)) ∧ (∀ (t : XT) (li : Nat → Int32) (lj : Nat → Int64), G t → wpX9_build_c13 k 2 t li lj Q → wpX9_build_c13 k 2 t li lj (fun t => Q t ∧ G t)) ∧ (∀ (t : XT) (li : Nat → Int32) (lj : Nat → Int64), G t → wpX9_build_c13 k 3 t li lj Q → wpX9_build_c13 k 3 t li lj (fun t => Q t ∧ G t)) ∧ (∀ (t : XT) (li : Nat → Int32) (lj : Nat → Int64), G t → wpX9_build_c13 k 4 t li lj Q → wpX9_build_c13 k 4 t li lj (fun t => Q t ∧ G t)) := by
  intro k
  induction k with
  | zero => exact ⟨fun _ _ _ _ hR => False.elim hR, fun _ _ _ _ hR => False.elim hR, fun _ _ _ _ hR => False.elim hR, fun _ _ _ _ hR => False.elim hR, fun _ _ _ _ hR => False.elim hR⟩
  | succ k ih =>
    refine ⟨?_, ?_, ?_, ?_, ?_⟩
    · intro t li lj g hR
      have hR : wbX9_build_c13_0 (wpX9_build_c13 k) k t li lj Q := hR
      show wbX9_build_c13_0 (wpX9_build_c13 k) k t li lj (fun t => Q t ∧ G t)
      unfold wbX9_build_c13_0 at hR ⊢
      exact fun x1 e1 => have g1 : G x1 := (by rw [e1]; exact hk.1 _ _ _ (by decide) (by decide) g); fun x2 e2 => have g2 : G x2 := (by rw [e2]; exact hk.2.2.1 _ _ _ (by decide) (by decide) (by decide) g1); fun x3 e3 => have g3 : G x3 := (by rw [e3]; exact hk.2.2.2 _ _ _ (by decide) g2); fun x4 e4 => have g4 : G x4 := (by rw [e4]; exact hk.2.2.2 _ _ _ (by decide) g3); fun x5 e5 => have g5 : G x5 := (by rw [e5]; exact hk.2.2.2 _ _ _ (by decide) g4); ih.2.1 _ _ _ g5 (((((hR x1 e1) x2 e2) x3 e3) x4 e4) x5 e5)
    · intro t li lj g hR
      have hR : wbX9_build_c13_1 (wpX9_build_c13 k) k t li lj Q := hR
      show wbX9_build_c13_1 (wpX9_build_c13 k) k t li lj (fun t => Q t ∧ G t)
      unfold wbX9_build_c13_1 at hR ⊢
      exact ⟨fun c1 => ⟨(hR.1 c1), g⟩, fun c2 => ih.2.2.1 _ _ _ g (hR.2 c2)⟩
    · intro t li lj g hR
      have hR : wbX9_build_c13_2 (wpX9_build_c13 k) k t li lj Q := hR
      show wbX9_build_c13_2 (wpX9_build_c13 k) k t li lj (fun t => Q t ∧ G t)
      unfold wbX9_build_c13_2 at hR ⊢
      exact ⟨fun c1 => ih.2.2.2.2 _ _ _ g (hR.1 c1), fun c2 => ⟨fun c3 => ih.2.2.2.2 _ _ _ g ((hR.2 c2).1 c3), fun c4 => ⟨((hR.2 c2).2 c4).1, fun x5 e5 => ⟨fun c6 => ih.2.2.2.1 _ _ _ g ((((hR.2 c2).2 c4).2 x5 e5).1 c6), fun c7 => wcJ6_bitCount_0f7a4 ((((hR.2 c2).2 c4).2 x5 e5).2 c7) (fun y8_0 h8 => fun x9 e9 => ⟨fun c10 => ih.2.2.2.1 _ _ _ g ((h8 x9 e9).1 c10), fun c11 => ⟨fun c12 => ih.2.2.2.1 _ _ _ g (((h8 x9 e9).2 c11).1 c12), fun c13 => ztX9_add hk g (((h8 x9 e9).2 c11).2 c13) (fun y14_0 h14 g14 => ih.2.2.2.1 _ _ _ g14 h14)⟩⟩)⟩⟩⟩⟩
    · intro t li lj g hR
      have hR : wbX9_build_c13_3 (wpX9_build_c13 k) k t li lj Q := hR
      show wbX9_build_c13_3 (wpX9_build_c13 k) k t li lj (fun t => Q t ∧ G t)
      unfold wbX9_build_c13_3 at hR ⊢
      exact fun x1 e1 => ih.2.2.1 _ _ _ g (hR x1 e1)
    · intro t li lj g hR
      have hR : wbX9_build_c13_4 (wpX9_build_c13 k) k t li lj Q := hR
      show wbX9_build_c13_4 (wpX9_build_c13 k) k t li lj (fun t => Q t ∧ G t)
      unfold wbX9_build_c13_4 at hR ⊢
      exact fun x1 e1 => ih.2.1 _ _ _ g (hR x1 e1)
theorem zgX9_build_c13 {G : XT → Prop} {k : Nat} {t : XT}  {Q : XT → Prop} (hk : kpP G) (g : G t) (hR : wqX9_build_c13 k t  Q) : wqX9_build_c13 k t  (fun t => Q t ∧ G t) := (zfX9_build_c13 hk Q k).1 t _ _ g hR
theorem ztX9_build_c13 {G : XT → Prop} {k : Nat} {t : XT}  {Q Q' : XT → Prop} (hk : kpP G) (g : G t) (hR : wqX9_build_c13 k t  Q) (hQ : (∀ t, Q t → G t → Q' t)) : wqX9_build_c13 k t  Q' := wmX9_build_c13 (Nat.le_refl k) (fun t h => hQ t h.1 h.2) (zgX9_build_c13 hk g hR)
set_option maxHeartbeats 4000000 in
set_option maxRecDepth 100000 in
theorem zfX9_all {G : XT → Prop} (hk : kpP G) (Q : Int64 → XT → Prop) : ∀ k : Nat, (∀ (t : XT) (li : Nat → Int32) (lj : Nat → Int64), G t → wpX9_all k 0 t li lj Q → wpX9_all k 0 t li lj (fun r t => Q r t ∧ G t)) := by
  intro k
  induction k with
  | zero => exact fun _ _ _ _ hR => False.elim hR
  | succ k ih =>
    intro t li lj g hR
    have hR : wbX9_all_0 (wpX9_all k) k t li lj Q := hR
    show wbX9_all_0 (wpX9_all k) k t li lj (fun r t => Q r t ∧ G t)
    unfold wbX9_all_0 at hR ⊢
    exact wcX11_bit hR (fun y1_0 h1 => fun x2 e2 => ⟨(h1 x2 e2), g⟩)
theorem zgX9_all {G : XT → Prop} {k : Nat} {t : XT}  {Q : Int64 → XT → Prop} (hk : kpP G) (g : G t) (hR : wqX9_all k t  Q) : wqX9_all k t  (fun r t => Q r t ∧ G t) := (zfX9_all hk Q k) t _ _ g hR
theorem ztX9_all {G : XT → Prop} {k : Nat} {t : XT}  {Q Q' : Int64 → XT → Prop} (hk : kpP G) (g : G t) (hR : wqX9_all k t  Q) (hQ : (∀ r t, Q r t → G t → Q' r t)) : wqX9_all k t  Q' := wmX9_all (Nat.le_refl k) (fun r t h => hQ r t h.1 h.2) (zgX9_all hk g hR)
set_option maxHeartbeats 4000000 in
set_option maxRecDepth 100000 in
theorem zfX9_has {G : XT → Prop} (hk : kpP G) (Q : Int32 → XT → Prop) : ∀ k : Nat, (∀ (t : XT) (li : Nat → Int32) (lj : Nat → Int64), G t → wpX9_has k 0 t li lj Q → wpX9_has k 0 t li lj (fun r t => Q r t ∧ G t)) ∧ (∀ (t : XT) (li : Nat → Int32) (lj : Nat → Int64), G t → wpX9_has k 1 t li lj Q → wpX9_has k 1 t li lj (fun r t => Q r t ∧ G t)) := by
  intro k
  induction k with
  | zero => exact ⟨fun _ _ _ _ hR => False.elim hR, fun _ _ _ _ hR => False.elim hR⟩
  | succ k ih =>
    refine ⟨?_, ?_⟩
    · intro t li lj g hR
      have hR : wbX9_has_0 (wpX9_has k) k t li lj Q := hR
      show wbX9_has_0 (wpX9_has k) k t li lj (fun r t => Q r t ∧ G t)
      unfold wbX9_has_0 at hR ⊢
      exact ⟨fun c1 => ih.2 _ _ _ g (hR.1 c1), fun c2 => ⟨fun c3 => ih.2 _ _ _ g ((hR.2 c2).1 c3), fun c4 => ⟨((hR.2 c2).2 c4), g⟩⟩⟩
    · intro t li lj g hR
      have hR : wbX9_has_1 (wpX9_has k) k t li lj Q := hR
      show wbX9_has_1 (wpX9_has k) k t li lj (fun r t => Q r t ∧ G t)
      unfold wbX9_has_1 at hR ⊢
      exact ⟨hR, g⟩
theorem zgX9_has {G : XT → Prop} {k : Nat} {t : XT} {a1 : Int32} {Q : Int32 → XT → Prop} (hk : kpP G) (g : G t) (hR : wqX9_has k t a1 Q) : wqX9_has k t a1 (fun r t => Q r t ∧ G t) := (zfX9_has hk Q k).1 t _ _ g hR
theorem ztX9_has {G : XT → Prop} {k : Nat} {t : XT} {a1 : Int32} {Q Q' : Int32 → XT → Prop} (hk : kpP G) (g : G t) (hR : wqX9_has k t a1 Q) (hQ : (∀ r t, Q r t → G t → Q' r t)) : wqX9_has k t a1 Q' := wmX9_has (Nat.le_refl k) (fun r t h => hQ r t h.1 h.2) (zgX9_has hk g hR)
set_option maxHeartbeats 4000000 in
set_option maxRecDepth 100000 in
theorem zfX11_isThere {G : XT → Prop} (hk : kpP G) (Q : Int32 → XT → Prop) : ∀ k : Nat, (∀ (t : XT) (li : Nat → Int32) (lj : Nat → Int64), G t → wpX11_isThere k 0 t li lj Q → wpX11_isThere k 0 t li lj (fun r t => Q r t ∧ G t)) ∧ (∀ (t : XT) (li : Nat → Int32) (lj : Nat → Int64), G t → wpX11_isThere k 1 t li lj Q → wpX11_isThere k 1 t li lj (fun r t => Q r t ∧ G t)) := by
  intro k
  induction k with
  | zero => exact ⟨fun _ _ _ _ hR => False.elim hR, fun _ _ _ _ hR => False.elim hR⟩
  | succ k ih =>
    refine ⟨?_, ?_⟩
    · intro t li lj g hR
      have hR : wbX11_isThere_0 (wpX11_isThere k) k t li lj Q := hR
      show wbX11_isThere_0 (wpX11_isThere k) k t li lj (fun r t => Q r t ∧ G t)
      unfold wbX11_isThere_0 at hR ⊢
      exact ztX9_has hk g hR (fun y1_0 y1_1 h1 g1 => ⟨fun c2 => ih.2 _ _ _ g1 (h1.1 c2), fun c3 => wcX11_isIn (h1.2 c3) (fun y4_0 h4 => ⟨fun c5 => ih.2 _ _ _ g1 (h4.1 c5), fun c6 => ⟨(h4.2 c6), g1⟩⟩)⟩)
    · intro t li lj g hR
      have hR : wbX11_isThere_1 (wpX11_isThere k) k t li lj Q := hR
      show wbX11_isThere_1 (wpX11_isThere k) k t li lj (fun r t => Q r t ∧ G t)
      unfold wbX11_isThere_1 at hR ⊢
      exact ⟨hR, g⟩
theorem zgX11_isThere {G : XT → Prop} {k : Nat} {t : XT} {a1 : Int32} {Q : Int32 → XT → Prop} (hk : kpP G) (g : G t) (hR : wqX11_isThere k t a1 Q) : wqX11_isThere k t a1 (fun r t => Q r t ∧ G t) := (zfX11_isThere hk Q k).1 t _ _ g hR
theorem ztX11_isThere {G : XT → Prop} {k : Nat} {t : XT} {a1 : Int32} {Q Q' : Int32 → XT → Prop} (hk : kpP G) (g : G t) (hR : wqX11_isThere k t a1 Q) (hQ : (∀ r t, Q r t → G t → Q' r t)) : wqX11_isThere k t a1 Q' := wmX11_isThere (Nat.le_refl k) (fun r t h => hQ r t h.1 h.2) (zgX11_isThere hk g hR)
set_option maxHeartbeats 4000000 in
set_option maxRecDepth 100000 in
theorem zfX6_side {G : XT → Prop} (hk : kpP G) (Q : Int32 → XT → Prop) : ∀ k : Nat, (∀ (t : XT) (li : Nat → Int32) (lj : Nat → Int64), G t → wpX6_side k 0 t li lj Q → wpX6_side k 0 t li lj (fun r t => Q r t ∧ G t)) := by
  intro k
  induction k with
  | zero => exact fun _ _ _ _ hR => False.elim hR
  | succ k ih =>
    intro t li lj g hR
    have hR : wbX6_side_0 (wpX6_side k) k t li lj Q := hR
    show wbX6_side_0 (wpX6_side k) k t li lj (fun r t => Q r t ∧ G t)
    unfold wbX6_side_0 at hR ⊢
    exact ⟨hR.1, fun x1 e1 => ⟨fun c2 => wcX11_isIn ((hR.2 x1 e1).1 c2) (fun y3_0 h3 => ⟨fun c4 => ⟨(h3.1 c4), g⟩, fun c5 => ⟨(h3.2 c5), g⟩⟩), fun c6 => ⟨((hR.2 x1 e1).2 c6), g⟩⟩⟩
theorem zgX6_side {G : XT → Prop} {k : Nat} {t : XT} {a1 : Int32} {Q : Int32 → XT → Prop} (hk : kpP G) (g : G t) (hR : wqX6_side k t a1 Q) : wqX6_side k t a1 (fun r t => Q r t ∧ G t) := (zfX6_side hk Q k) t _ _ g hR
theorem ztX6_side {G : XT → Prop} {k : Nat} {t : XT} {a1 : Int32} {Q Q' : Int32 → XT → Prop} (hk : kpP G) (g : G t) (hR : wqX6_side k t a1 Q) (hQ : (∀ r t, Q r t → G t → Q' r t)) : wqX6_side k t a1 Q' := wmX6_side (Nat.le_refl k) (fun r t h => hQ r t h.1 h.2) (zgX6_side hk g hR)
set_option maxHeartbeats 4000000 in
set_option maxRecDepth 100000 in
theorem zfX6_steps {G : XT → Prop} (hk : kpP G) (Q : Int64 → XT → Prop) : ∀ k : Nat, (∀ (t : XT) (li : Nat → Int32) (lj : Nat → Int64), G t → wpX6_steps k 0 t li lj Q → wpX6_steps k 0 t li lj (fun r t => Q r t ∧ G t)) := by
  intro k
  induction k with
  | zero => exact fun _ _ _ _ hR => False.elim hR
  | succ k ih =>
    intro t li lj g hR
    have hR : wbX6_steps_0 (wpX6_steps k) k t li lj Q := hR
    show wbX6_steps_0 (wpX6_steps k) k t li lj (fun r t => Q r t ∧ G t)
    unfold wbX6_steps_0 at hR ⊢
    exact ⟨hR.1, fun x1 e1 => ⟨fun c2 => ⟨((hR.2 x1 e1).1 c2).1, fun x3 e3 => ⟨(((hR.2 x1 e1).1 c2).2 x3 e3).1, fun x4 e4 => fun x5 e5 => fun x6 e6 => ⟨((((((hR.2 x1 e1).1 c2).2 x3 e3).2 x4 e4) x5 e5) x6 e6), g⟩⟩⟩, fun c7 => ⟨((hR.2 x1 e1).2 c7).1, fun x8 e8 => ⟨(((hR.2 x1 e1).2 c7).2 x8 e8), g⟩⟩⟩⟩
theorem zgX6_steps {G : XT → Prop} {k : Nat} {t : XT} {a1 : Int32} {Q : Int64 → XT → Prop} (hk : kpP G) (g : G t) (hR : wqX6_steps k t a1 Q) : wqX6_steps k t a1 (fun r t => Q r t ∧ G t) := (zfX6_steps hk Q k) t _ _ g hR
theorem ztX6_steps {G : XT → Prop} {k : Nat} {t : XT} {a1 : Int32} {Q Q' : Int64 → XT → Prop} (hk : kpP G) (g : G t) (hR : wqX6_steps k t a1 Q) (hQ : (∀ r t, Q r t → G t → Q' r t)) : wqX6_steps k t a1 Q' := wmX6_steps (Nat.le_refl k) (fun r t h => hQ r t h.1 h.2) (zgX6_steps hk g hR)
set_option maxHeartbeats 4000000 in
set_option maxRecDepth 100000 in
theorem zfX2_give {G : XT → Prop} (hk : kpP G) (Q : Int64 → XT → Prop) : ∀ k : Nat, (∀ (t : XT) (li : Nat → Int32) (lj : Nat → Int64), G t → wpX2_give k 0 t li lj Q → wpX2_give k 0 t li lj (fun r t => Q r t ∧ G t)) ∧ (∀ (t : XT) (li : Nat → Int32) (lj : Nat → Int64), G t → wpX2_give k 1 t li lj Q → wpX2_give k 1 t li lj (fun r t => Q r t ∧ G t)) ∧ (∀ (t : XT) (li : Nat → Int32) (lj : Nat → Int64), G t → wpX2_give k 2 t li lj Q → wpX2_give k 2 t li lj (fun r t => Q r t ∧ G t)) ∧ (∀ (t : XT) (li : Nat → Int32) (lj : Nat → Int64), G t → wpX2_give k 3 t li lj Q → wpX2_give k 3 t li lj (fun r t => Q r t ∧ G t)) := by
  intro k
  induction k with
  | zero => exact ⟨fun _ _ _ _ hR => False.elim hR, fun _ _ _ _ hR => False.elim hR, fun _ _ _ _ hR => False.elim hR, fun _ _ _ _ hR => False.elim hR⟩
  | succ k ih =>
    refine ⟨?_, ?_, ?_, ?_⟩
    · intro t li lj g hR
      have hR : wbX2_give_0 (wpX2_give k) k t li lj Q := hR
      show wbX2_give_0 (wpX2_give k) k t li lj (fun r t => Q r t ∧ G t)
      unfold wbX2_give_0 at hR ⊢
      exact ih.2.1 _ _ _ g hR
    · intro t li lj g hR
      have hR : wbX2_give_1 (wpX2_give k) k t li lj Q := hR
      show wbX2_give_1 (wpX2_give k) k t li lj (fun r t => Q r t ∧ G t)
      unfold wbX2_give_1 at hR ⊢
      exact ⟨fun c1 => ih.2.2.2 _ _ _ g (hR.1 c1), fun c2 => ⟨fun c3 => ih.2.2.2 _ _ _ g ((hR.2 c2).1 c3), fun c4 => wcX11_isIn ((hR.2 c2).2 c4) (fun y5_0 h5 => ⟨fun c6 => ih.2.2.1 _ _ _ g (h5.1 c6), fun c7 => ztX6_steps hk g (h5.2 c7) (fun y8_0 y8_1 h8 g8 => fun x9 e9 => fun x10 e10 => ⟨fun c11 => ih.2.2.1 _ _ _ g8 (((h8 x9 e9) x10 e10).1 c11), fun c12 => wcX11_bit (((h8 x9 e9) x10 e10).2 c12) (fun y13_0 h13 => fun x14 e14 => ⟨(h13 x14 e14).1, fun x15 e15 => have g15 : G x15 := (by rw [e15]; exact hk.2.2.1 _ _ _ (by decide) (by decide) (by decide) g8); ⟨((h13 x14 e14).2 x15 e15).1, fun x16 e16 => have g16 : G x16 := (by rw [e16]; exact hk.2.2.1 _ _ _ (by decide) (by decide) (by decide) g15); fun x17 e17 => fun x18 e18 => have g18 : G x18 := (by rw [e18]; exact hk.1 _ _ _ (by decide) (by decide) g16); ih.2.2.1 _ _ _ g18 (((((h13 x14 e14).2 x15 e15).2 x16 e16) x17 e17) x18 e18)⟩⟩)⟩)⟩)⟩⟩
    · intro t li lj g hR
      have hR : wbX2_give_2 (wpX2_give k) k t li lj Q := hR
      show wbX2_give_2 (wpX2_give k) k t li lj (fun r t => Q r t ∧ G t)
      unfold wbX2_give_2 at hR ⊢
      exact fun x1 e1 => ih.2.1 _ _ _ g (hR x1 e1)
    · intro t li lj g hR
      have hR : wbX2_give_3 (wpX2_give k) k t li lj Q := hR
      show wbX2_give_3 (wpX2_give k) k t li lj (fun r t => Q r t ∧ G t)
      unfold wbX2_give_3 at hR ⊢
      exact ⟨hR, g⟩
theorem zgX2_give {G : XT → Prop} {k : Nat} {t : XT} {a1 : Int32} {a2 : Int64} {Q : Int64 → XT → Prop} (hk : kpP G) (g : G t) (hR : wqX2_give k t a1 a2 Q) : wqX2_give k t a1 a2 (fun r t => Q r t ∧ G t) := (zfX2_give hk Q k).1 t _ _ g hR
theorem ztX2_give {G : XT → Prop} {k : Nat} {t : XT} {a1 : Int32} {a2 : Int64} {Q Q' : Int64 → XT → Prop} (hk : kpP G) (g : G t) (hR : wqX2_give k t a1 a2 Q) (hQ : (∀ r t, Q r t → G t → Q' r t)) : wqX2_give k t a1 a2 Q' := wmX2_give (Nat.le_refl k) (fun r t h => hQ r t h.1 h.2) (zgX2_give hk g hR)
set_option maxHeartbeats 4000000 in
set_option maxRecDepth 100000 in
theorem zfX2_measure {G : XT → Prop} (hk : kpP G) (Q : XT → Prop) : ∀ k : Nat, (∀ (t : XT) (li : Nat → Int32) (lj : Nat → Int64), G t → wpX2_measure k 0 t li lj Q → wpX2_measure k 0 t li lj (fun t => Q t ∧ G t)) ∧ (∀ (t : XT) (li : Nat → Int32) (lj : Nat → Int64), G t → wpX2_measure k 1 t li lj Q → wpX2_measure k 1 t li lj (fun t => Q t ∧ G t)) := by
  intro k
  induction k with
  | zero => exact ⟨fun _ _ _ _ hR => False.elim hR, fun _ _ _ _ hR => False.elim hR⟩
  | succ k ih =>
    refine ⟨?_, ?_⟩
    · intro t li lj g hR
      have hR : wbX2_measure_0 (wpX2_measure k) k t li lj Q := hR
      show wbX2_measure_0 (wpX2_measure k) k t li lj (fun t => Q t ∧ G t)
      unfold wbX2_measure_0 at hR ⊢
      exact ⟨fun c1 => fun x2 e2 => have g2 : G x2 := (by rw [e2]; exact hk.1 _ _ _ (by decide) (by decide) g); fun x3 e3 => have g3 : G x3 := (by rw [e3]; exact hk.2.2.1 _ _ _ (by decide) (by decide) (by decide) g2); fun x4 e4 => have g4 : G x4 := (by rw [e4]; exact hk.1 _ _ _ (by decide) (by decide) g3); ih.2 _ _ _ g4 ((((hR.1 c1) x2 e2) x3 e3) x4 e4), fun c5 => ⟨(hR.2 c5), g⟩⟩
    · intro t li lj g hR
      have hR : wbX2_measure_1 (wpX2_measure k) k t li lj Q := hR
      show wbX2_measure_1 (wpX2_measure k) k t li lj (fun t => Q t ∧ G t)
      unfold wbX2_measure_1 at hR ⊢
      exact ⟨fun c1 => ⟨(hR.1 c1), g⟩, fun c2 => fun x3 e3 => ⟨fun c4 => ⟨(((hR.2 c2) x3 e3).1 c4), g⟩, fun c5 => ztX2_give hk g (((hR.2 c2) x3 e3).2 c5) (fun y6_0 y6_1 h6 g6 => fun x7 e7 => fun x8 e8 => fun x9 e9 => ih.2 _ _ _ g6 (((h6 x7 e7) x8 e8) x9 e9))⟩⟩
theorem zgX2_measure {G : XT → Prop} {k : Nat} {t : XT}  {Q : XT → Prop} (hk : kpP G) (g : G t) (hR : wqX2_measure k t  Q) : wqX2_measure k t  (fun t => Q t ∧ G t) := (zfX2_measure hk Q k).1 t _ _ g hR
theorem ztX2_measure {G : XT → Prop} {k : Nat} {t : XT}  {Q Q' : XT → Prop} (hk : kpP G) (g : G t) (hR : wqX2_measure k t  Q) (hQ : (∀ t, Q t → G t → Q' t)) : wqX2_measure k t  Q' := wmX2_measure (Nat.le_refl k) (fun t h => hQ t h.1 h.2) (zgX2_measure hk g hR)
set_option maxHeartbeats 4000000 in
set_option maxRecDepth 100000 in
theorem zfX2_of {G : XT → Prop} (hk : kpP G) (Q : Int32 → XT → Prop) : ∀ k : Nat, (∀ (t : XT) (li : Nat → Int32) (lj : Nat → Int64), G t → wpX2_of k 0 t li lj Q → wpX2_of k 0 t li lj (fun r t => Q r t ∧ G t)) := by
  intro k
  induction k with
  | zero => exact fun _ _ _ _ hR => False.elim hR
  | succ k ih =>
    intro t li lj g hR
    have hR : wbX2_of_0 (wpX2_of k) k t li lj Q := hR
    show wbX2_of_0 (wpX2_of k) k t li lj (fun r t => Q r t ∧ G t)
    unfold wbX2_of_0 at hR ⊢
    exact ztX2_measure hk g hR (fun y1_0 h1 g1 => ⟨h1.1, fun x2 e2 => ⟨(h1.2 x2 e2), g1⟩⟩)
theorem zgX2_of {G : XT → Prop} {k : Nat} {t : XT} {a1 : Int32} {Q : Int32 → XT → Prop} (hk : kpP G) (g : G t) (hR : wqX2_of k t a1 Q) : wqX2_of k t a1 (fun r t => Q r t ∧ G t) := (zfX2_of hk Q k) t _ _ g hR
theorem ztX2_of {G : XT → Prop} {k : Nat} {t : XT} {a1 : Int32} {Q Q' : Int32 → XT → Prop} (hk : kpP G) (g : G t) (hR : wqX2_of k t a1 Q) (hQ : (∀ r t, Q r t → G t → Q' r t)) : wqX2_of k t a1 Q' := wmX2_of (Nat.le_refl k) (fun r t h => hQ r t h.1 h.2) (zgX2_of hk g hR)
set_option maxHeartbeats 4000000 in
set_option maxRecDepth 100000 in
theorem zfX11_simplex {G : XT → Prop} (hk : kpP G) (Q : Int32 → XT → Prop) : ∀ k : Nat, (∀ (t : XT) (li : Nat → Int32) (lj : Nat → Int64), G t → wpX11_simplex k 0 t li lj Q → wpX11_simplex k 0 t li lj (fun r t => Q r t ∧ G t)) := by
  intro k
  induction k with
  | zero => exact fun _ _ _ _ hR => False.elim hR
  | succ k ih =>
    intro t li lj g hR
    have hR : wbX11_simplex_0 (wpX11_simplex k) k t li lj Q := hR
    show wbX11_simplex_0 (wpX11_simplex k) k t li lj (fun r t => Q r t ∧ G t)
    unfold wbX11_simplex_0 at hR ⊢
    exact ztX9_has hk g hR (fun y1_0 y1_1 h1 g1 => ⟨fun c2 => ⟨fun c3 => ⟨((h1.1 c2).1 c3), g1⟩, fun c4 => ⟨((h1.1 c2).2.1 c4).1, fun x5 e5 => ⟨(((h1.1 c2).2.1 c4).2 x5 e5), g1⟩⟩, fun c6 => ⟨((h1.1 c2).2.2.1 c6).1, fun x7 e7 => ⟨(((h1.1 c2).2.2.1 c6).2 x7 e7), g1⟩⟩, fun c8 => ztX11_isThere hk g1 ((h1.1 c2).2.2.2.1 c8) (fun y9_0 y9_1 h9 g9 => ⟨fun c10 => ⟨(h9.1 c10), g9⟩, fun c11 => ⟨(h9.2 c11), g9⟩⟩), fun c12 => ⟨((h1.1 c2).2.2.2.2.1 c12).1, fun x13 e13 => ⟨(((h1.1 c2).2.2.2.2.1 c12).2 x13 e13), g1⟩⟩, fun c14 => ztX6_side hk g1 ((h1.1 c2).2.2.2.2.2.1 c14) (fun y15_0 y15_1 h15 g15 => ⟨h15, g15⟩), fun c16 => ztX2_of hk g1 ((h1.1 c2).2.2.2.2.2.2.1 c16) (fun y17_0 y17_1 h17 g17 => ⟨h17, g17⟩), fun c18 => ⟨((h1.1 c2).2.2.2.2.2.2.2 c18).1, fun x19 e19 => fun x20 e20 => wcJ13_bitCount_95d88 ((((h1.1 c2).2.2.2.2.2.2.2 c18).2 x19 e19) x20 e20) (fun y21_0 h21 => ⟨h21, g1⟩)⟩⟩, fun c22 => ⟨(h1.2 c22), g1⟩⟩)
theorem zgX11_simplex {G : XT → Prop} {k : Nat} {t : XT} {a1 : Int32} {a2 : Int32} {Q : Int32 → XT → Prop} (hk : kpP G) (g : G t) (hR : wqX11_simplex k t a1 a2 Q) : wqX11_simplex k t a1 a2 (fun r t => Q r t ∧ G t) := (zfX11_simplex hk Q k) t _ _ g hR
theorem ztX11_simplex {G : XT → Prop} {k : Nat} {t : XT} {a1 : Int32} {a2 : Int32} {Q Q' : Int32 → XT → Prop} (hk : kpP G) (g : G t) (hR : wqX11_simplex k t a1 a2 Q) (hQ : (∀ r t, Q r t → G t → Q' r t)) : wqX11_simplex k t a1 a2 Q' := wmX11_simplex (Nat.le_refl k) (fun r t h => hQ r t h.1 h.2) (zgX11_simplex hk g hR)
set_option maxHeartbeats 4000000 in
set_option maxRecDepth 100000 in
theorem zfX11_number {G : XT → Prop} (hk : kpP G) (Q : Int32 → XT → Prop) : ∀ k : Nat, (∀ (t : XT) (li : Nat → Int32) (lj : Nat → Int64), G t → wpX11_number k 0 t li lj Q → wpX11_number k 0 t li lj (fun r t => Q r t ∧ G t)) ∧ (∀ (t : XT) (li : Nat → Int32) (lj : Nat → Int64), G t → wpX11_number k 1 t li lj Q → wpX11_number k 1 t li lj (fun r t => Q r t ∧ G t)) := by
  intro k
  induction k with
  | zero => exact ⟨fun _ _ _ _ hR => False.elim hR, fun _ _ _ _ hR => False.elim hR⟩
  | succ k ih =>
    refine ⟨?_, ?_⟩
    · intro t li lj g hR
      have hR : wbX11_number_0 (wpX11_number k) k t li lj Q := hR
      show wbX11_number_0 (wpX11_number k) k t li lj (fun r t => Q r t ∧ G t)
      unfold wbX11_number_0 at hR ⊢
      exact ⟨fun c1 => ih.2 _ _ _ g (hR.1 c1), fun c2 => ⟨fun c3 => ⟨((hR.2 c2).1 c3).1, fun x4 e4 => ⟨(((hR.2 c2).1 c3).2 x4 e4), g⟩⟩, fun c5 => ih.2 _ _ _ g ((hR.2 c2).2 c5)⟩⟩
    · intro t li lj g hR
      have hR : wbX11_number_1 (wpX11_number k) k t li lj Q := hR
      show wbX11_number_1 (wpX11_number k) k t li lj (fun r t => Q r t ∧ G t)
      unfold wbX11_number_1 at hR ⊢
      exact ⟨hR, g⟩
theorem zgX11_number {G : XT → Prop} {k : Nat} {t : XT} {a1 : Int32} {Q : Int32 → XT → Prop} (hk : kpP G) (g : G t) (hR : wqX11_number k t a1 Q) : wqX11_number k t a1 (fun r t => Q r t ∧ G t) := (zfX11_number hk Q k).1 t _ _ g hR
theorem ztX11_number {G : XT → Prop} {k : Nat} {t : XT} {a1 : Int32} {Q Q' : Int32 → XT → Prop} (hk : kpP G) (g : G t) (hR : wqX11_number k t a1 Q) (hQ : (∀ r t, Q r t → G t → Q' r t)) : wqX11_number k t a1 Q' := wmX11_number (Nat.le_refl k) (fun r t h => hQ r t h.1 h.2) (zgX11_number hk g hR)
set_option maxHeartbeats 4000000 in
set_option maxRecDepth 100000 in
theorem zfX9_signOf {G : XT → Prop} (hk : kpP G) (Q : Int32 → XT → Prop) : ∀ k : Nat, (∀ (t : XT) (li : Nat → Int32) (lj : Nat → Int64), G t → wpX9_signOf k 0 t li lj Q → wpX9_signOf k 0 t li lj (fun r t => Q r t ∧ G t)) := by
  intro k
  induction k with
  | zero => exact fun _ _ _ _ hR => False.elim hR
  | succ k ih =>
    intro t li lj g hR
    have hR : wbX9_signOf_0 (wpX9_signOf k) k t li lj Q := hR
    show wbX9_signOf_0 (wpX9_signOf k) k t li lj (fun r t => Q r t ∧ G t)
    unfold wbX9_signOf_0 at hR ⊢
    exact ⟨hR.1, fun x1 e1 => wcX11_isIn (hR.2 x1 e1) (fun y2_0 h2 => ⟨fun c3 => ⟨(h2.1 c3).1, fun x4 e4 => ⟨((h2.1 c3).2 x4 e4).1, fun x5 e5 => fun x6 e6 => fun x7 e7 => ⟨(((((h2.1 c3).2 x4 e4).2 x5 e5) x6 e6) x7 e7).1, fun x8 e8 => fun x9 e9 => fun x10 e10 => wcJ6_bitCount_0f7a4 ((((((((h2.1 c3).2 x4 e4).2 x5 e5) x6 e6) x7 e7).2 x8 e8) x9 e9) x10 e10) (fun y11_0 h11 => fun x12 e12 => ⟨fun c13 => ⟨((h11 x12 e12).1 c13), g⟩, fun c14 => ⟨((h11 x12 e12).2 c14), g⟩⟩)⟩⟩⟩, fun c15 => ⟨(h2.2 c15), g⟩⟩)⟩
theorem zgX9_signOf {G : XT → Prop} {k : Nat} {t : XT} {a1 : Int32} {a2 : Int32} {Q : Int32 → XT → Prop} (hk : kpP G) (g : G t) (hR : wqX9_signOf k t a1 a2 Q) : wqX9_signOf k t a1 a2 (fun r t => Q r t ∧ G t) := (zfX9_signOf hk Q k) t _ _ g hR
theorem ztX9_signOf {G : XT → Prop} {k : Nat} {t : XT} {a1 : Int32} {a2 : Int32} {Q Q' : Int32 → XT → Prop} (hk : kpP G) (g : G t) (hR : wqX9_signOf k t a1 a2 Q) (hQ : (∀ r t, Q r t → G t → Q' r t)) : wqX9_signOf k t a1 a2 Q' := wmX9_signOf (Nat.le_refl k) (fun r t h => hQ r t h.1 h.2) (zgX9_signOf hk g hR)
set_option maxHeartbeats 4000000 in
set_option maxRecDepth 100000 in
theorem zfX11_sign {G : XT → Prop} (hk : kpP G) (Q : Int32 → XT → Prop) : ∀ k : Nat, (∀ (t : XT) (li : Nat → Int32) (lj : Nat → Int64), G t → wpX11_sign k 0 t li lj Q → wpX11_sign k 0 t li lj (fun r t => Q r t ∧ G t)) ∧ (∀ (t : XT) (li : Nat → Int32) (lj : Nat → Int64), G t → wpX11_sign k 1 t li lj Q → wpX11_sign k 1 t li lj (fun r t => Q r t ∧ G t)) := by
  intro k
  induction k with
  | zero => exact ⟨fun _ _ _ _ hR => False.elim hR, fun _ _ _ _ hR => False.elim hR⟩
  | succ k ih =>
    refine ⟨?_, ?_⟩
    · intro t li lj g hR
      have hR : wbX11_sign_0 (wpX11_sign k) k t li lj Q := hR
      show wbX11_sign_0 (wpX11_sign k) k t li lj (fun r t => Q r t ∧ G t)
      unfold wbX11_sign_0 at hR ⊢
      exact ztX9_has hk g hR (fun y1_0 y1_1 h1 g1 => ⟨fun c2 => ih.2 _ _ _ g1 (h1.1 c2), fun c3 => ztX9_has hk g1 (h1.2 c3) (fun y4_0 y4_1 h4 g4 => ⟨fun c5 => ztX9_signOf hk g4 (h4.1 c5) (fun y6_0 y6_1 h6 g6 => ⟨h6, g6⟩), fun c7 => ih.2 _ _ _ g4 (h4.2 c7)⟩)⟩)
    · intro t li lj g hR
      have hR : wbX11_sign_1 (wpX11_sign k) k t li lj Q := hR
      show wbX11_sign_1 (wpX11_sign k) k t li lj (fun r t => Q r t ∧ G t)
      unfold wbX11_sign_1 at hR ⊢
      exact ⟨hR, g⟩
theorem zgX11_sign {G : XT → Prop} {k : Nat} {t : XT} {a1 : Int32} {a2 : Int32} {Q : Int32 → XT → Prop} (hk : kpP G) (g : G t) (hR : wqX11_sign k t a1 a2 Q) : wqX11_sign k t a1 a2 (fun r t => Q r t ∧ G t) := (zfX11_sign hk Q k).1 t _ _ g hR
theorem ztX11_sign {G : XT → Prop} {k : Nat} {t : XT} {a1 : Int32} {a2 : Int32} {Q Q' : Int32 → XT → Prop} (hk : kpP G) (g : G t) (hR : wqX11_sign k t a1 a2 Q) (hQ : (∀ r t, Q r t → G t → Q' r t)) : wqX11_sign k t a1 a2 Q' := wmX11_sign (Nat.le_refl k) (fun r t h => hQ r t h.1 h.2) (zgX11_sign hk g hR)
set_option maxHeartbeats 4000000 in
set_option maxRecDepth 100000 in
theorem zfX6_unpaired {G : XT → Prop} (hk : kpP G) (Q : Int64 → XT → Prop) : ∀ k : Nat, (∀ (t : XT) (li : Nat → Int32) (lj : Nat → Int64), G t → wpX6_unpaired k 0 t li lj Q → wpX6_unpaired k 0 t li lj (fun r t => Q r t ∧ G t)) := by
  intro k
  induction k with
  | zero => exact fun _ _ _ _ hR => False.elim hR
  | succ k ih =>
    intro t li lj g hR
    have hR : wbX6_unpaired_0 (wpX6_unpaired k) k t li lj Q := hR
    show wbX6_unpaired_0 (wpX6_unpaired k) k t li lj (fun r t => Q r t ∧ G t)
    unfold wbX6_unpaired_0 at hR ⊢
    exact fun x1 e1 => fun x2 e2 => fun x3 e3 => ⟨(((hR x1 e1) x2 e2) x3 e3), g⟩
theorem zgX6_unpaired {G : XT → Prop} {k : Nat} {t : XT}  {Q : Int64 → XT → Prop} (hk : kpP G) (g : G t) (hR : wqX6_unpaired k t  Q) : wqX6_unpaired k t  (fun r t => Q r t ∧ G t) := (zfX6_unpaired hk Q k) t _ _ g hR
theorem ztX6_unpaired {G : XT → Prop} {k : Nat} {t : XT}  {Q Q' : Int64 → XT → Prop} (hk : kpP G) (g : G t) (hR : wqX6_unpaired k t  Q) (hQ : (∀ r t, Q r t → G t → Q' r t)) : wqX6_unpaired k t  Q' := wmX6_unpaired (Nat.le_refl k) (fun r t h => hQ r t h.1 h.2) (zgX6_unpaired hk g hR)
set_option maxHeartbeats 4000000 in
set_option maxRecDepth 100000 in
theorem zfX6_isCritical {G : XT → Prop} (hk : kpP G) (Q : Int32 → XT → Prop) : ∀ k : Nat, (∀ (t : XT) (li : Nat → Int32) (lj : Nat → Int64), G t → wpX6_isCritical k 0 t li lj Q → wpX6_isCritical k 0 t li lj (fun r t => Q r t ∧ G t)) := by
  intro k
  induction k with
  | zero => exact fun _ _ _ _ hR => False.elim hR
  | succ k ih =>
    intro t li lj g hR
    have hR : wbX6_isCritical_0 (wpX6_isCritical k) k t li lj Q := hR
    show wbX6_isCritical_0 (wpX6_isCritical k) k t li lj (fun r t => Q r t ∧ G t)
    unfold wbX6_isCritical_0 at hR ⊢
    exact ztX6_unpaired hk g hR (fun y1_0 y1_1 h1 g1 => wcX11_isIn h1 (fun y2_0 h2 => ⟨h2.1, ⟨h2.2, g1⟩⟩))
theorem zgX6_isCritical {G : XT → Prop} {k : Nat} {t : XT} {a1 : Int32} {Q : Int32 → XT → Prop} (hk : kpP G) (g : G t) (hR : wqX6_isCritical k t a1 Q) : wqX6_isCritical k t a1 (fun r t => Q r t ∧ G t) := (zfX6_isCritical hk Q k) t _ _ g hR
theorem ztX6_isCritical {G : XT → Prop} {k : Nat} {t : XT} {a1 : Int32} {Q Q' : Int32 → XT → Prop} (hk : kpP G) (g : G t) (hR : wqX6_isCritical k t a1 Q) (hQ : (∀ r t, Q r t → G t → Q' r t)) : wqX6_isCritical k t a1 Q' := wmX6_isCritical (Nat.le_refl k) (fun r t h => hQ r t h.1 h.2) (zgX6_isCritical hk g hR)
set_option maxHeartbeats 4000000 in
set_option maxRecDepth 100000 in
theorem zfX6_staysAcyclic {G : XT → Prop} (hk : kpP G) (Q : Int32 → XT → Prop) : ∀ k : Nat, (∀ (t : XT) (li : Nat → Int32) (lj : Nat → Int64), G t → wpX6_staysAcyclic k 0 t li lj Q → wpX6_staysAcyclic k 0 t li lj (fun r t => Q r t ∧ G t)) ∧ (∀ (t : XT) (li : Nat → Int32) (lj : Nat → Int64), G t → wpX6_staysAcyclic k 1 t li lj Q → wpX6_staysAcyclic k 1 t li lj (fun r t => Q r t ∧ G t)) ∧ (∀ (t : XT) (li : Nat → Int32) (lj : Nat → Int64), G t → wpX6_staysAcyclic k 2 t li lj Q → wpX6_staysAcyclic k 2 t li lj (fun r t => Q r t ∧ G t)) ∧ (∀ (t : XT) (li : Nat → Int32) (lj : Nat → Int64), G t → wpX6_staysAcyclic k 3 t li lj Q → wpX6_staysAcyclic k 3 t li lj (fun r t => Q r t ∧ G t)) := by
  intro k
  induction k with
  | zero => exact ⟨fun _ _ _ _ hR => False.elim hR, fun _ _ _ _ hR => False.elim hR, fun _ _ _ _ hR => False.elim hR, fun _ _ _ _ hR => False.elim hR⟩
  | succ k ih =>
    refine ⟨?_, ?_, ?_, ?_⟩
    · intro t li lj g hR
      have hR : wbX6_staysAcyclic_0 (wpX6_staysAcyclic k) k t li lj Q := hR
      show wbX6_staysAcyclic_0 (wpX6_staysAcyclic k) k t li lj (fun r t => Q r t ∧ G t)
      unfold wbX6_staysAcyclic_0 at hR ⊢
      exact ⟨hR.1, fun x1 e1 => wcX11_bit (hR.2 x1 e1) (fun y2_0 h2 => fun x3 e3 => fun x4 e4 => fun x5 e5 => ih.2.1 _ _ _ g (((h2 x3 e3) x4 e4) x5 e5))⟩
    · intro t li lj g hR
      have hR : wbX6_staysAcyclic_1 (wpX6_staysAcyclic k) k t li lj Q := hR
      show wbX6_staysAcyclic_1 (wpX6_staysAcyclic k) k t li lj (fun r t => Q r t ∧ G t)
      unfold wbX6_staysAcyclic_1 at hR ⊢
      exact ⟨fun c1 => ih.2.2.2 _ _ _ g (hR.1 c1), fun c2 => fun x3 e3 => ⟨fun c4 => ih.2.2.2 _ _ _ g (((hR.2 c2) x3 e3).1 c4), fun c5 => wcX11_lowest (((hR.2 c2) x3 e3).2 c5) (fun y6_0 h6 => wcX11_bit h6 (fun y7_0 h7 => fun x8 e8 => fun x9 e9 => ⟨((h7 x8 e8) x9 e9).1, fun x10 e10 => ⟨fun c11 => ih.2.2.1 _ _ _ g ((((h7 x8 e8) x9 e9).2 x10 e10).1 c11), fun c12 => ⟨((((h7 x8 e8) x9 e9).2 x10 e10).2 c12).1, fun x13 e13 => ⟨(((((h7 x8 e8) x9 e9).2 x10 e10).2 c12).2 x13 e13).1, fun x14 e14 => fun x15 e15 => fun x16 e16 => fun x17 e17 => fun x18 e18 => fun x19 e19 => ih.2.2.1 _ _ _ g (((((((((((h7 x8 e8) x9 e9).2 x10 e10).2 c12).2 x13 e13).2 x14 e14) x15 e15) x16 e16) x17 e17) x18 e18) x19 e19)⟩⟩⟩⟩))⟩⟩
    · intro t li lj g hR
      have hR : wbX6_staysAcyclic_2 (wpX6_staysAcyclic k) k t li lj Q := hR
      show wbX6_staysAcyclic_2 (wpX6_staysAcyclic k) k t li lj (fun r t => Q r t ∧ G t)
      unfold wbX6_staysAcyclic_2 at hR ⊢
      exact fun x1 e1 => ih.2.1 _ _ _ g (hR x1 e1)
    · intro t li lj g hR
      have hR : wbX6_staysAcyclic_3 (wpX6_staysAcyclic k) k t li lj Q := hR
      show wbX6_staysAcyclic_3 (wpX6_staysAcyclic k) k t li lj (fun r t => Q r t ∧ G t)
      unfold wbX6_staysAcyclic_3 at hR ⊢
      exact wcX11_isIn hR (fun y1_0 h1 => ⟨fun c2 => ⟨(h1.1 c2), g⟩, fun c3 => ⟨(h1.2 c3), g⟩⟩)
theorem zgX6_staysAcyclic {G : XT → Prop} {k : Nat} {t : XT} {a1 : Int32} {a2 : Int32} {Q : Int32 → XT → Prop} (hk : kpP G) (g : G t) (hR : wqX6_staysAcyclic k t a1 a2 Q) : wqX6_staysAcyclic k t a1 a2 (fun r t => Q r t ∧ G t) := (zfX6_staysAcyclic hk Q k).1 t _ _ g hR
theorem ztX6_staysAcyclic {G : XT → Prop} {k : Nat} {t : XT} {a1 : Int32} {a2 : Int32} {Q Q' : Int32 → XT → Prop} (hk : kpP G) (g : G t) (hR : wqX6_staysAcyclic k t a1 a2 Q) (hQ : (∀ r t, Q r t → G t → Q' r t)) : wqX6_staysAcyclic k t a1 a2 Q' := wmX6_staysAcyclic (Nat.le_refl k) (fun r t h => hQ r t h.1 h.2) (zgX6_staysAcyclic hk g hR)
set_option maxHeartbeats 4000000 in
set_option maxRecDepth 100000 in
theorem zfX11_criticalOnes {G : XT → Prop} (hk : kpP G) (Q : Int32 → XT → Prop) : ∀ k : Nat, (∀ (t : XT) (li : Nat → Int32) (lj : Nat → Int64), G t → wpX11_criticalOnes k 0 t li lj Q → wpX11_criticalOnes k 0 t li lj (fun r t => Q r t ∧ G t)) := by
  intro k
  induction k with
  | zero => exact fun _ _ _ _ hR => False.elim hR
  | succ k ih =>
    intro t li lj g hR
    have hR : wbX11_criticalOnes_0 (wpX11_criticalOnes k) k t li lj Q := hR
    show wbX11_criticalOnes_0 (wpX11_criticalOnes k) k t li lj (fun r t => Q r t ∧ G t)
    unfold wbX11_criticalOnes_0 at hR ⊢
    exact ztX6_unpaired hk g hR (fun y1_0 y1_1 h1 g1 => wcJ13_bitCount_95d88 h1 (fun y2_0 h2 => ⟨h2, g1⟩))
theorem zgX11_criticalOnes {G : XT → Prop} {k : Nat} {t : XT}  {Q : Int32 → XT → Prop} (hk : kpP G) (g : G t) (hR : wqX11_criticalOnes k t  Q) : wqX11_criticalOnes k t  (fun r t => Q r t ∧ G t) := (zfX11_criticalOnes hk Q k) t _ _ g hR
theorem ztX11_criticalOnes {G : XT → Prop} {k : Nat} {t : XT}  {Q Q' : Int32 → XT → Prop} (hk : kpP G) (g : G t) (hR : wqX11_criticalOnes k t  Q) (hQ : (∀ r t, Q r t → G t → Q' r t)) : wqX11_criticalOnes k t  Q' := wmX11_criticalOnes (Nat.le_refl k) (fun r t h => hQ r t h.1 h.2) (zgX11_criticalOnes hk g hR)
set_option maxHeartbeats 4000000 in
set_option maxRecDepth 100000 in
theorem zfX7_lookAgain {G : XT → Prop} (hk : kpP G) (Q : XT → Prop) : ∀ k : Nat, (∀ (t : XT) (li : Nat → Int32) (lj : Nat → Int64), G t → wpX7_lookAgain k 0 t li lj Q → wpX7_lookAgain k 0 t li lj (fun t => Q t ∧ G t)) ∧ (∀ (t : XT) (li : Nat → Int32) (lj : Nat → Int64), G t → wpX7_lookAgain k 1 t li lj Q → wpX7_lookAgain k 1 t li lj (fun t => Q t ∧ G t)) ∧ (∀ (t : XT) (li : Nat → Int32) (lj : Nat → Int64), G t → wpX7_lookAgain k 2 t li lj Q → wpX7_lookAgain k 2 t li lj (fun t => Q t ∧ G t)) := by
  intro k
  induction k with
  | zero => exact ⟨fun _ _ _ _ hR => False.elim hR, fun _ _ _ _ hR => False.elim hR, fun _ _ _ _ hR => False.elim hR⟩
  | succ k ih =>
    refine ⟨?_, ?_, ?_⟩
    · intro t li lj g hR
      have hR : wbX7_lookAgain_0 (wpX7_lookAgain k) k t li lj Q := hR
      show wbX7_lookAgain_0 (wpX7_lookAgain k) k t li lj (fun t => Q t ∧ G t)
      unfold wbX7_lookAgain_0 at hR ⊢
      exact ih.2.1 _ _ _ g hR
    · intro t li lj g hR
      have hR : wbX7_lookAgain_1 (wpX7_lookAgain k) k t li lj Q := hR
      show wbX7_lookAgain_1 (wpX7_lookAgain k) k t li lj (fun t => Q t ∧ G t)
      unfold wbX7_lookAgain_1 at hR ⊢
      exact ⟨fun c1 => ⟨(hR.1 c1), g⟩, fun c2 => fun x3 e3 => ⟨fun c4 => ⟨(((hR.2 c2) x3 e3).1 c4), g⟩, fun c5 => wcX11_lowest (((hR.2 c2) x3 e3).2 c5) (fun y6_0 h6 => fun x7 e7 => fun x8 e8 => ⟨((h6 x7 e7) x8 e8).1, fun x9 e9 => fun x10 e10 => wcJ13_bitCount_95d88 ((((h6 x7 e7) x8 e8).2 x9 e9) x10 e10) (fun y11_0 h11 => ⟨fun c12 => wcX11_bit (h11.1 c12) (fun y13_0 h13 => fun x14 e14 => fun x15 e15 => fun x16 e16 => have g16 : G x16 := (by rw [e16]; exact hk.2.1 _ _ _ (by decide) (by decide) (by decide) (by decide) g); ih.2.2 _ _ _ g16 (((h13 x14 e14) x15 e15) x16 e16)), fun c17 => wcX11_bit (h11.2 c17) (fun y18_0 h18 => fun x19 e19 => fun x20 e20 => have g20 : G x20 := (by rw [e20]; exact hk.2.1 _ _ _ (by decide) (by decide) (by decide) (by decide) g); ih.2.2 _ _ _ g20 ((h18 x19 e19) x20 e20))⟩)⟩)⟩⟩
    · intro t li lj g hR
      have hR : wbX7_lookAgain_2 (wpX7_lookAgain k) k t li lj Q := hR
      show wbX7_lookAgain_2 (wpX7_lookAgain k) k t li lj (fun t => Q t ∧ G t)
      unfold wbX7_lookAgain_2 at hR ⊢
      exact fun x1 e1 => ih.2.1 _ _ _ g (hR x1 e1)
theorem zgX7_lookAgain {G : XT → Prop} {k : Nat} {t : XT} {a1 : Int64} {Q : XT → Prop} (hk : kpP G) (g : G t) (hR : wqX7_lookAgain k t a1 Q) : wqX7_lookAgain k t a1 (fun t => Q t ∧ G t) := (zfX7_lookAgain hk Q k).1 t _ _ g hR
theorem ztX7_lookAgain {G : XT → Prop} {k : Nat} {t : XT} {a1 : Int64} {Q Q' : XT → Prop} (hk : kpP G) (g : G t) (hR : wqX7_lookAgain k t a1 Q) (hQ : (∀ t, Q t → G t → Q' t)) : wqX7_lookAgain k t a1 Q' := wmX7_lookAgain (Nat.le_refl k) (fun t h => hQ t h.1 h.2) (zgX7_lookAgain hk g hR)
set_option maxHeartbeats 4000000 in
set_option maxRecDepth 100000 in
theorem zfX7_begin {G : XT → Prop} (hk : kpP G) (Q : XT → Prop) : ∀ k : Nat, (∀ (t : XT) (li : Nat → Int32) (lj : Nat → Int64), G t → wpX7_begin k 0 t li lj Q → wpX7_begin k 0 t li lj (fun t => Q t ∧ G t)) := by
  intro k
  induction k with
  | zero => exact fun _ _ _ _ hR => False.elim hR
  | succ k ih =>
    intro t li lj g hR
    have hR : wbX7_begin_0 (wpX7_begin k) k t li lj Q := hR
    show wbX7_begin_0 (wpX7_begin k) k t li lj (fun t => Q t ∧ G t)
    unfold wbX7_begin_0 at hR ⊢
    exact fun x1 e1 => have g1 : G x1 := (by rw [e1]; exact hk.2.1 _ _ _ (by decide) (by decide) (by decide) (by decide) g); fun x2 e2 => have g2 : G x2 := (by rw [e2]; exact hk.2.1 _ _ _ (by decide) (by decide) (by decide) (by decide) g1); ztX7_lookAgain hk g2 ((hR x1 e1) x2 e2) (fun y3_0 h3 g3 => ⟨h3, g3⟩)
theorem zgX7_begin {G : XT → Prop} {k : Nat} {t : XT} {a1 : Int64} {Q : XT → Prop} (hk : kpP G) (g : G t) (hR : wqX7_begin k t a1 Q) : wqX7_begin k t a1 (fun t => Q t ∧ G t) := (zfX7_begin hk Q k) t _ _ g hR
theorem ztX7_begin {G : XT → Prop} {k : Nat} {t : XT} {a1 : Int64} {Q Q' : XT → Prop} (hk : kpP G) (g : G t) (hR : wqX7_begin k t a1 Q) (hQ : (∀ t, Q t → G t → Q' t)) : wqX7_begin k t a1 Q' := wmX7_begin (Nat.le_refl k) (fun t h => hQ t h.1 h.2) (zgX7_begin hk g hR)
set_option maxHeartbeats 4000000 in
set_option maxRecDepth 100000 in
theorem zfX7_close {G : XT → Prop} (hk : kpP G) (Q : XT → Prop) : ∀ k : Nat, (∀ (t : XT) (li : Nat → Int32) (lj : Nat → Int64), G t → wpX7_close k 0 t li lj Q → wpX7_close k 0 t li lj (fun t => Q t ∧ G t)) := by
  intro k
  induction k with
  | zero => exact fun _ _ _ _ hR => False.elim hR
  | succ k ih =>
    intro t li lj g hR
    have hR : wbX7_close_0 (wpX7_close k) k t li lj Q := hR
    show wbX7_close_0 (wpX7_close k) k t li lj (fun t => Q t ∧ G t)
    unfold wbX7_close_0 at hR ⊢
    exact wcX11_bit hR (fun y1_0 h1 => fun x2 e2 => fun x3 e3 => fun x4 e4 => have g4 : G x4 := (by rw [e4]; exact hk.2.1 _ _ _ (by decide) (by decide) (by decide) (by decide) g); wcX11_bit (((h1 x2 e2) x3 e3) x4 e4) (fun y5_0 h5 => fun x6 e6 => fun x7 e7 => fun x8 e8 => have g8 : G x8 := (by rw [e8]; exact hk.2.1 _ _ _ (by decide) (by decide) (by decide) (by decide) g4); ⟨(((h5 x6 e6) x7 e7) x8 e8).1, fun x9 e9 => fun x10 e10 => ztX7_lookAgain hk g8 (((((h5 x6 e6) x7 e7) x8 e8).2 x9 e9) x10 e10) (fun y11_0 h11 g11 => ⟨h11, g11⟩)⟩))
theorem zgX7_close {G : XT → Prop} {k : Nat} {t : XT} {a1 : Int32} {Q : XT → Prop} (hk : kpP G) (g : G t) (hR : wqX7_close k t a1 Q) : wqX7_close k t a1 (fun t => Q t ∧ G t) := (zfX7_close hk Q k) t _ _ g hR
theorem ztX7_close {G : XT → Prop} {k : Nat} {t : XT} {a1 : Int32} {Q Q' : XT → Prop} (hk : kpP G) (g : G t) (hR : wqX7_close k t a1 Q) (hQ : (∀ t, Q t → G t → Q' t)) : wqX7_close k t a1 Q' := wmX7_close (Nat.le_refl k) (fun t h => hQ t h.1 h.2) (zgX7_close hk g hR)
set_option maxHeartbeats 4000000 in
set_option maxRecDepth 100000 in
theorem zfX7_above {G : XT → Prop} (hk : kpP G) (Q : Int32 → XT → Prop) : ∀ k : Nat, (∀ (t : XT) (li : Nat → Int32) (lj : Nat → Int64), G t → wpX7_above k 0 t li lj Q → wpX7_above k 0 t li lj (fun r t => Q r t ∧ G t)) := by
  intro k
  induction k with
  | zero => exact fun _ _ _ _ hR => False.elim hR
  | succ k ih =>
    intro t li lj g hR
    have hR : wbX7_above_0 (wpX7_above k) k t li lj Q := hR
    show wbX7_above_0 (wpX7_above k) k t li lj (fun r t => Q r t ∧ G t)
    unfold wbX7_above_0 at hR ⊢
    exact ⟨hR.1, fun x1 e1 => fun x2 e2 => wcX11_lowest ((hR.2 x1 e1) x2 e2) (fun y3_0 h3 => ⟨h3, g⟩)⟩
theorem zgX7_above {G : XT → Prop} {k : Nat} {t : XT} {a1 : Int32} {Q : Int32 → XT → Prop} (hk : kpP G) (g : G t) (hR : wqX7_above k t a1 Q) : wqX7_above k t a1 (fun r t => Q r t ∧ G t) := (zfX7_above hk Q k) t _ _ g hR
theorem ztX7_above {G : XT → Prop} {k : Nat} {t : XT} {a1 : Int32} {Q Q' : Int32 → XT → Prop} (hk : kpP G) (g : G t) (hR : wqX7_above k t a1 Q) (hQ : (∀ r t, Q r t → G t → Q' r t)) : wqX7_above k t a1 Q' := wmX7_above (Nat.le_refl k) (fun r t h => hQ r t h.1 h.2) (zgX7_above hk g hR)
set_option maxHeartbeats 4000000 in
set_option maxRecDepth 100000 in
theorem zfX11_areEnds {G : XT → Prop} (hk : kpP G) (Q : Int32 → XT → Prop) : ∀ k : Nat, (∀ (t : XT) (li : Nat → Int32) (lj : Nat → Int64), G t → wpX11_areEnds k 0 t li lj Q → wpX11_areEnds k 0 t li lj (fun r t => Q r t ∧ G t)) ∧ (∀ (t : XT) (li : Nat → Int32) (lj : Nat → Int64), G t → wpX11_areEnds k 1 t li lj Q → wpX11_areEnds k 1 t li lj (fun r t => Q r t ∧ G t)) ∧ (∀ (t : XT) (li : Nat → Int32) (lj : Nat → Int64), G t → wpX11_areEnds k 2 t li lj Q → wpX11_areEnds k 2 t li lj (fun r t => Q r t ∧ G t)) := by
  intro k
  induction k with
  | zero => exact ⟨fun _ _ _ _ hR => False.elim hR, fun _ _ _ _ hR => False.elim hR, fun _ _ _ _ hR => False.elim hR⟩
  | succ k ih =>
    refine ⟨?_, ?_, ?_⟩
    · intro t li lj g hR
      have hR : wbX11_areEnds_0 (wpX11_areEnds k) k t li lj Q := hR
      show wbX11_areEnds_0 (wpX11_areEnds k) k t li lj (fun r t => Q r t ∧ G t)
      unfold wbX11_areEnds_0 at hR ⊢
      exact ztX11_isThere hk g hR (fun y1_0 y1_1 h1 g1 => ⟨fun c2 => ih.2.1 _ _ _ g1 (h1.1 c2), fun c3 => ztX11_isThere hk g1 (h1.2 c3) (fun y4_0 y4_1 h4 g4 => ⟨fun c5 => ⟨(h4.1 c5).1, fun x6 e6 => ⟨((h4.1 c5).2 x6 e6).1, fun x7 e7 => fun x8 e8 => ⟨fun c9 => ztX6_isCritical hk g4 (((((h4.1 c5).2 x6 e6).2 x7 e7) x8 e8).1 c9) (fun y10_0 y10_1 h10 g10 => ⟨fun c11 => ih.2.2 _ _ _ g10 (h10.1 c11), fun c12 => ztX6_isCritical hk g10 (h10.2 c12) (fun y13_0 y13_1 h13 g13 => ⟨fun c14 => ih.2.2 _ _ _ g13 (h13.1 c14), fun c15 => ⟨(h13.2 c15), g13⟩⟩)⟩), fun c16 => ⟨(((((h4.1 c5).2 x6 e6).2 x7 e7) x8 e8).2 c16), g4⟩⟩⟩⟩, fun c17 => ih.2.1 _ _ _ g4 (h4.2 c17)⟩)⟩)
    · intro t li lj g hR
      have hR : wbX11_areEnds_1 (wpX11_areEnds k) k t li lj Q := hR
      show wbX11_areEnds_1 (wpX11_areEnds k) k t li lj (fun r t => Q r t ∧ G t)
      unfold wbX11_areEnds_1 at hR ⊢
      exact ⟨hR, g⟩
    · intro t li lj g hR
      have hR : wbX11_areEnds_2 (wpX11_areEnds k) k t li lj Q := hR
      show wbX11_areEnds_2 (wpX11_areEnds k) k t li lj (fun r t => Q r t ∧ G t)
      unfold wbX11_areEnds_2 at hR ⊢
      exact ⟨hR, g⟩
theorem zgX11_areEnds {G : XT → Prop} {k : Nat} {t : XT} {a1 : Int32} {a2 : Int32} {Q : Int32 → XT → Prop} (hk : kpP G) (g : G t) (hR : wqX11_areEnds k t a1 a2 Q) : wqX11_areEnds k t a1 a2 (fun r t => Q r t ∧ G t) := (zfX11_areEnds hk Q k).1 t _ _ g hR
theorem ztX11_areEnds {G : XT → Prop} {k : Nat} {t : XT} {a1 : Int32} {a2 : Int32} {Q Q' : Int32 → XT → Prop} (hk : kpP G) (g : G t) (hR : wqX11_areEnds k t a1 a2 Q) (hQ : (∀ r t, Q r t → G t → Q' r t)) : wqX11_areEnds k t a1 a2 Q' := wmX11_areEnds (Nat.le_refl k) (fun r t h => hQ r t h.1 h.2) (zgX11_areEnds hk g hR)
