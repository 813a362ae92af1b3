/-! ===== the reference: what does not act leaves PAIRS, what is GONE, the past and what is kept ===== -/
def kpQ (G : XT → Prop) : Prop := (∀ u i v, i ≠ 4 → G u → G (sI u i v)) ∧ (∀ u i v, G u → G (sJ u i v)) ∧ (∀ u i f, i ≠ 4 → i ≠ 5 → i ≠ 8 → i ≠ 14 → i ≠ 15 → G u → G (sA u i f)) ∧ (∀ u i f, G u → G (sB u i f))
set_option maxHeartbeats 4000000 in
set_option maxRecDepth 100000 in
theorem qfX12_puts {G : XT → Prop} (hk : kpQ G) (Q : XT → Prop) : ∀ k : Nat, (∀ (t : XT) (li : Nat → Int32) (lj : Nat → Int64), G t → wpX12_puts k 0 t li lj Q → wpX12_puts k 0 t li lj (fun t => Q t ∧ G t)) ∧ (∀ (t : XT) (li : Nat → Int32) (lj : Nat → Int64), G t → wpX12_puts k 1 t li lj Q → wpX12_puts k 1 t li lj (fun t => Q t ∧ G t)) := by
  intro k
  induction k with
  | zero => exact ⟨fun _ _ _ _ hR => False.elim hR, fun _ _ _ _ hR => False.elim hR⟩
  | succ k ih =>
    refine ⟨?_, ?_⟩
    · intro t li lj g hR
      have hR : wbX12_puts_0 (wpX12_puts k) k t li lj Q := hR
      show wbX12_puts_0 (wpX12_puts k) k t li lj (fun t => Q t ∧ G t)
      unfold wbX12_puts_0 at hR ⊢
      exact ih.2 _ _ _ g hR
    · intro t li lj g hR
      have hR : wbX12_puts_1 (wpX12_puts k) k t li lj Q := hR
      show wbX12_puts_1 (wpX12_puts k) k t li lj (fun t => Q t ∧ G t)
      unfold wbX12_puts_1 at hR ⊢
      exact ⟨fun c1 => ⟨(hR.1 c1), g⟩, fun c2 => fun x3 e3 => fun x4 e4 => ⟨(((hR.2 c2) x3 e3) x4 e4).1, fun x5 e5 => have g5 : G x5 := (by rw [e5]; exact hk.2.2.1 _ _ _ (by decide) (by decide) (by decide) (by decide) (by decide) g); fun x6 e6 => fun x7 e7 => have g7 : G x7 := (by rw [e7]; exact hk.1 _ _ _ (by decide) g5); fun x8 e8 => ih.2 _ _ _ g7 (((((((hR.2 c2) x3 e3) x4 e4).2 x5 e5) x6 e6) x7 e7) x8 e8)⟩⟩
theorem qgX12_puts {G : XT → Prop} {k : Nat} {t : XT} {a1 : Int32} {Q : XT → Prop} (hk : kpQ G) (g : G t) (hR : wqX12_puts k t a1 Q) : wqX12_puts k t a1 (fun t => Q t ∧ G t) := (qfX12_puts hk Q k).1 t _ _ g hR
theorem qtX12_puts {G : XT → Prop} {k : Nat} {t : XT} {a1 : Int32} {Q Q' : XT → Prop} (hk : kpQ G) (g : G t) (hR : wqX12_puts k t a1 Q) (hQ : (∀ t, Q t → G t → Q' t)) : wqX12_puts k t a1 Q' := wmX12_puts (Nat.le_refl k) (fun t h => hQ t h.1 h.2) (qgX12_puts hk g hR)
set_option maxHeartbeats 4000000 in
set_option maxRecDepth 100000 in
theorem qfX12_feed {G : XT → Prop} (hk : kpQ G) (Q : Int32 → XT → Prop) : ∀ k : Nat, (∀ (t : XT) (li : Nat → Int32) (lj : Nat → Int64), G t → wpX12_feed k 0 t li lj Q → wpX12_feed k 0 t li lj (fun r t => Q r t ∧ G t)) := by
  intro k
  induction k with
  | zero => exact fun _ _ _ _ hR => False.elim hR
  | succ k ih =>
    intro t li lj g hR
    have hR : wbX12_feed_0 (wpX12_feed k) k t li lj Q := hR
    show wbX12_feed_0 (wpX12_feed k) k t li lj (fun r t => Q r t ∧ G t)
    unfold wbX12_feed_0 at hR ⊢
    exact fun x1 e1 => ⟨fun c2 => qtX12_puts hk g ((hR x1 e1).1 c2) (fun y3_0 h3 g3 => qtX12_puts hk g3 h3 (fun y4_0 h4 g4 => qtX12_puts hk g4 h4 (fun y5_0 h5 g5 => qtX12_puts hk g5 h5 (fun y6_0 h6 g6 => qtX12_puts hk g6 h6 (fun y7_0 h7 g7 => ⟨h7, g7⟩))))), fun c8 => ⟨((hR x1 e1).2 c8), g⟩⟩
theorem qgX12_feed {G : XT → Prop} {k : Nat} {t : XT} {a1 : Int32} {a2 : Int32} {a3 : Int32} {a4 : Int32} {a5 : Int32} {Q : Int32 → XT → Prop} (hk : kpQ G) (g : G t) (hR : wqX12_feed k t a1 a2 a3 a4 a5 Q) : wqX12_feed k t a1 a2 a3 a4 a5 (fun r t => Q r t ∧ G t) := (qfX12_feed hk Q k) t _ _ g hR
theorem qtX12_feed {G : XT → Prop} {k : Nat} {t : XT} {a1 : Int32} {a2 : Int32} {a3 : Int32} {a4 : Int32} {a5 : Int32} {Q Q' : Int32 → XT → Prop} (hk : kpQ G) (g : G t) (hR : wqX12_feed k t a1 a2 a3 a4 a5 Q) (hQ : (∀ r t, Q r t → G t → Q' r t)) : wqX12_feed k t a1 a2 a3 a4 a5 Q' := wmX12_feed (Nat.le_refl k) (fun r t h => hQ r t h.1 h.2) (qgX12_feed hk g hR)
set_option maxHeartbeats 4000000 in
set_option maxRecDepth 100000 in
theorem qfX12_end {G : XT → Prop} (hk : kpQ G) (Q : Int32 → XT → Prop) : ∀ k : Nat, (∀ (t : XT) (li : Nat → Int32) (lj : Nat → Int64), G t → wpX12_end k 0 t li lj Q → wpX12_end k 0 t li lj (fun r t => Q r t ∧ G t)) ∧ (∀ (t : XT) (li : Nat → Int32) (lj : Nat → Int64), G t → wpX12_end k 1 t li lj Q → wpX12_end k 1 t li lj (fun r t => Q r t ∧ G t)) := by
  intro k
  induction k with
  | zero => exact ⟨fun _ _ _ _ hR => False.elim hR, fun _ _ _ _ hR => False.elim hR⟩
  | succ k ih =>
    refine ⟨?_, ?_⟩
    · intro t li lj g hR
      have hR : wbX12_end_0 (wpX12_end k) k t li lj Q := hR
      show wbX12_end_0 (wpX12_end k) k t li lj (fun r t => Q r t ∧ G t)
      unfold wbX12_end_0 at hR ⊢
      exact ⟨fun c1 => ih.2 _ _ _ g (hR.1 c1), fun c2 => ⟨fun c3 => fun x4 e4 => have g4 : G x4 := (by rw [e4]; exact hk.1 _ _ _ (by decide) g); ⟨(((hR.2 c2).1 c3) x4 e4), g4⟩, fun c5 => ih.2 _ _ _ g ((hR.2 c2).2 c5)⟩⟩
    · intro t li lj g hR
      have hR : wbX12_end_1 (wpX12_end k) k t li lj Q := hR
      show wbX12_end_1 (wpX12_end k) k t li lj (fun r t => Q r t ∧ G t)
      unfold wbX12_end_1 at hR ⊢
      exact ⟨hR, g⟩
theorem qgX12_end {G : XT → Prop} {k : Nat} {t : XT} {a1 : Int32} {Q : Int32 → XT → Prop} (hk : kpQ G) (g : G t) (hR : wqX12_end k t a1 Q) : wqX12_end k t a1 (fun r t => Q r t ∧ G t) := (qfX12_end hk Q k).1 t _ _ g hR
theorem qtX12_end {G : XT → Prop} {k : Nat} {t : XT} {a1 : Int32} {Q Q' : Int32 → XT → Prop} (hk : kpQ G) (g : G t) (hR : wqX12_end k t a1 Q) (hQ : (∀ r t, Q r t → G t → Q' r t)) : wqX12_end k t a1 Q' := wmX12_end (Nat.le_refl k) (fun r t h => hQ r t h.1 h.2) (qgX12_end hk g hR)
set_option maxHeartbeats 4000000 in
set_option maxRecDepth 100000 in
theorem qfX12_isRight {G : XT → Prop} (hk : kpQ G) (Q : Int32 → XT → Prop) : ∀ k : Nat, (∀ (t : XT) (li : Nat → Int32) (lj : Nat → Int64), G t → wpX12_isRight k 0 t li lj Q → wpX12_isRight k 0 t li lj (fun r t => Q r t ∧ G t)) := by
  intro k
  induction k with
  | zero => exact fun _ _ _ _ hR => False.elim hR
  | succ k ih =>
    intro t li lj g hR
    have hR : wbX12_isRight_0 (wpX12_isRight k) k t li lj Q := hR
    show wbX12_isRight_0 (wpX12_isRight k) k t li lj (fun r t => Q r t ∧ G t)
    unfold wbX12_isRight_0 at hR ⊢
    exact ⟨fun c1 => ⟨(hR.1 c1), g⟩, fun c2 => ⟨(hR.2 c2), g⟩⟩
theorem qgX12_isRight {G : XT → Prop} {k : Nat} {t : XT}  {Q : Int32 → XT → Prop} (hk : kpQ G) (g : G t) (hR : wqX12_isRight k t  Q) : wqX12_isRight k t  (fun r t => Q r t ∧ G t) := (qfX12_isRight hk Q k) t _ _ g hR
theorem qtX12_isRight {G : XT → Prop} {k : Nat} {t : XT}  {Q Q' : Int32 → XT → Prop} (hk : kpQ G) (g : G t) (hR : wqX12_isRight k t  Q) (hQ : (∀ r t, Q r t → G t → Q' r t)) : wqX12_isRight k t  Q' := wmX12_isRight (Nat.le_refl k) (fun r t h => hQ r t h.1 h.2) (qgX12_isRight hk g hR)
set_option maxHeartbeats 4000000 in
set_option maxRecDepth 100000 in
theorem qfX12_byteNow {G : XT → Prop} (hk : kpQ G) (Q : Int32 → XT → Prop) : ∀ k : Nat, (∀ (t : XT) (li : Nat → Int32) (lj : Nat → Int64), G t → wpX12_byteNow k 0 t li lj Q → wpX12_byteNow k 0 t li lj (fun r t => Q r t ∧ G t)) := by
  intro k
  induction k with
  | zero => exact fun _ _ _ _ hR => False.elim hR
  | succ k ih =>
    intro t li lj g hR
    have hR : wbX12_byteNow_0 (wpX12_byteNow k) k t li lj Q := hR
    show wbX12_byteNow_0 (wpX12_byteNow k) k t li lj (fun r t => Q r t ∧ G t)
    unfold wbX12_byteNow_0 at hR ⊢
    exact ⟨fun c1 => ⟨(hR.1 c1), g⟩, fun c2 => ⟨(hR.2 c2).1, fun x3 e3 => fun x4 e4 => ⟨(((hR.2 c2).2 x3 e3) x4 e4), g⟩⟩⟩
theorem qgX12_byteNow {G : XT → Prop} {k : Nat} {t : XT}  {Q : Int32 → XT → Prop} (hk : kpQ G) (g : G t) (hR : wqX12_byteNow k t  Q) : wqX12_byteNow k t  (fun r t => Q r t ∧ G t) := (qfX12_byteNow hk Q k) t _ _ g hR
theorem qtX12_byteNow {G : XT → Prop} {k : Nat} {t : XT}  {Q Q' : Int32 → XT → Prop} (hk : kpQ G) (g : G t) (hR : wqX12_byteNow k t  Q) (hQ : (∀ r t, Q r t → G t → Q' r t)) : wqX12_byteNow k t  Q' := wmX12_byteNow (Nat.le_refl k) (fun r t h => hQ r t h.1 h.2) (qgX12_byteNow hk g hR)
set_option maxHeartbeats 4000000 in
set_option maxRecDepth 100000 in
theorem qfX12_fails {G : XT → Prop} (hk : kpQ G) (Q : XT → Prop) : ∀ k : Nat, (∀ (t : XT) (li : Nat → Int32) (lj : Nat → Int64), G t → wpX12_fails k 0 t li lj Q → wpX12_fails k 0 t li lj (fun t => Q t ∧ G t)) := by
  intro k
  induction k with
  | zero => exact fun _ _ _ _ hR => False.elim hR
  | succ k ih =>
    intro t li lj g hR
    have hR : wbX12_fails_0 (wpX12_fails k) k t li lj Q := hR
    show wbX12_fails_0 (wpX12_fails k) k t li lj (fun t => Q t ∧ G t)
    unfold wbX12_fails_0 at hR ⊢
    exact ⟨fun c1 => ⟨(hR.1 c1), g⟩, fun c2 => fun x3 e3 => fun x4 e4 => fun x5 e5 => have g5 : G x5 := (by rw [e5]; exact hk.1 _ _ _ (by decide) g); ⟨((((hR.2 c2) x3 e3) x4 e4) x5 e5), g5⟩⟩
theorem qgX12_fails {G : XT → Prop} {k : Nat} {t : XT} {a1 : Int32} {a2 : Int32} {Q : XT → Prop} (hk : kpQ G) (g : G t) (hR : wqX12_fails k t a1 a2 Q) : wqX12_fails k t a1 a2 (fun t => Q t ∧ G t) := (qfX12_fails hk Q k) t _ _ g hR
theorem qtX12_fails {G : XT → Prop} {k : Nat} {t : XT} {a1 : Int32} {a2 : Int32} {Q Q' : XT → Prop} (hk : kpQ G) (g : G t) (hR : wqX12_fails k t a1 a2 Q) (hQ : (∀ t, Q t → G t → Q' t)) : wqX12_fails k t a1 a2 Q' := wmX12_fails (Nat.le_refl k) (fun t h => hQ t h.1 h.2) (qgX12_fails hk g hR)
set_option maxHeartbeats 4000000 in
set_option maxRecDepth 100000 in
theorem qfX12_blanks {G : XT → Prop} (hk : kpQ G) (Q : XT → Prop) : ∀ k : Nat, (∀ (t : XT) (li : Nat → Int32) (lj : Nat → Int64), G t → wpX12_blanks k 0 t li lj Q → wpX12_blanks k 0 t li lj (fun t => Q t ∧ G t)) := by
  intro k
  induction k with
  | zero => exact fun _ _ _ _ hR => False.elim hR
  | succ k ih =>
    intro t li lj g hR
    have hR : wbX12_blanks_0 (wpX12_blanks k) k t li lj Q := hR
    show wbX12_blanks_0 (wpX12_blanks k) k t li lj (fun t => Q t ∧ G t)
    unfold wbX12_blanks_0 at hR ⊢
    exact qtX12_byteNow hk g hR (fun y1_0 y1_1 h1 g1 => ⟨fun c2 => ⟨(h1.1 c2), g1⟩, fun c3 => fun x4 e4 => fun x5 e5 => have g5 : G x5 := (by rw [e5]; exact hk.1 _ _ _ (by decide) g1); ih _ _ _ g5 (((h1.2 c3) x4 e4) x5 e5)⟩)
theorem qgX12_blanks {G : XT → Prop} {k : Nat} {t : XT}  {Q : XT → Prop} (hk : kpQ G) (g : G t) (hR : wqX12_blanks k t  Q) : wqX12_blanks k t  (fun t => Q t ∧ G t) := (qfX12_blanks hk Q k) t _ _ g hR
theorem qtX12_blanks {G : XT → Prop} {k : Nat} {t : XT}  {Q Q' : XT → Prop} (hk : kpQ G) (g : G t) (hR : wqX12_blanks k t  Q) (hQ : (∀ t, Q t → G t → Q' t)) : wqX12_blanks k t  Q' := wmX12_blanks (Nat.le_refl k) (fun t h => hQ t h.1 h.2) (qgX12_blanks hk g hR)
set_option maxHeartbeats 4000000 in
set_option maxRecDepth 100000 in
theorem qfX12_isLetter {G : XT → Prop} (hk : kpQ G) (Q : Int32 → XT → Prop) : ∀ k : Nat, (∀ (t : XT) (li : Nat → Int32) (lj : Nat → Int64), G t → wpX12_isLetter k 0 t li lj Q → wpX12_isLetter k 0 t li lj (fun r t => Q r t ∧ G t)) := by
  intro k
  induction k with
  | zero => exact fun _ _ _ _ hR => False.elim hR
  | succ k ih =>
    intro t li lj g hR
    have hR : wbX12_isLetter_0 (wpX12_isLetter k) k t li lj Q := hR
    show wbX12_isLetter_0 (wpX12_isLetter k) k t li lj (fun r t => Q r t ∧ G t)
    unfold wbX12_isLetter_0 at hR ⊢
    exact qtX12_byteNow hk g hR (fun y1_0 y1_1 h1 g1 => wcX12_in h1 (fun y2_0 h2 => ⟨h2.1, ⟨h2.2, g1⟩⟩))
theorem qgX12_isLetter {G : XT → Prop} {k : Nat} {t : XT}  {Q : Int32 → XT → Prop} (hk : kpQ G) (g : G t) (hR : wqX12_isLetter k t  Q) : wqX12_isLetter k t  (fun r t => Q r t ∧ G t) := (qfX12_isLetter hk Q k) t _ _ g hR
theorem qtX12_isLetter {G : XT → Prop} {k : Nat} {t : XT}  {Q Q' : Int32 → XT → Prop} (hk : kpQ G) (g : G t) (hR : wqX12_isLetter k t  Q) (hQ : (∀ r t, Q r t → G t → Q' r t)) : wqX12_isLetter k t  Q' := wmX12_isLetter (Nat.le_refl k) (fun r t h => hQ r t h.1 h.2) (qgX12_isLetter hk g hR)
set_option maxHeartbeats 4000000 in
set_option maxRecDepth 100000 in
theorem qfX12_takesSets {G : XT → Prop} (hk : kpQ G) (Q : XT → Prop) : ∀ k : Nat, (∀ (t : XT) (li : Nat → Int32) (lj : Nat → Int64), G t → wpX12_takesSets k 0 t li lj Q → wpX12_takesSets k 0 t li lj (fun t => Q t ∧ G t)) ∧ (∀ (t : XT) (li : Nat → Int32) (lj : Nat → Int64), G t → wpX12_takesSets k 1 t li lj Q → wpX12_takesSets k 1 t li lj (fun t => Q t ∧ G t)) ∧ (∀ (t : XT) (li : Nat → Int32) (lj : Nat → Int64), G t → wpX12_takesSets k 2 t li lj Q → wpX12_takesSets k 2 t li lj (fun t => Q t ∧ G t)) := by
  intro k
  induction k with
  | zero => exact ⟨fun _ _ _ _ hR => False.elim hR, fun _ _ _ _ hR => False.elim hR, fun _ _ _ _ hR => False.elim hR⟩
  | succ k ih =>
    refine ⟨?_, ?_, ?_⟩
    · intro t li lj g hR
      have hR : wbX12_takesSets_0 (wpX12_takesSets k) k t li lj Q := hR
      show wbX12_takesSets_0 (wpX12_takesSets k) k t li lj (fun t => Q t ∧ G t)
      unfold wbX12_takesSets_0 at hR ⊢
      exact ih.2.1 _ _ _ g hR
    · intro t li lj g hR
      have hR : wbX12_takesSets_1 (wpX12_takesSets k) k t li lj Q := hR
      show wbX12_takesSets_1 (wpX12_takesSets k) k t li lj (fun t => Q t ∧ G t)
      unfold wbX12_takesSets_1 at hR ⊢
      exact ⟨fun c1 => ⟨(hR.1 c1), g⟩, fun c2 => fun x3 e3 => fun x4 e4 => ⟨fun c5 => ih.2.2 _ _ _ g ((((hR.2 c2) x3 e3) x4 e4).1 c5), fun c6 => ⟨((((hR.2 c2) x3 e3) x4 e4).2 c6).1, fun x7 e7 => have g7 : G x7 := (by rw [e7]; exact hk.2.2.1 _ _ _ (by decide) (by decide) (by decide) (by decide) (by decide) g); ih.2.2 _ _ _ g7 (((((hR.2 c2) x3 e3) x4 e4).2 c6).2 x7 e7)⟩⟩⟩
    · intro t li lj g hR
      have hR : wbX12_takesSets_2 (wpX12_takesSets k) k t li lj Q := hR
      show wbX12_takesSets_2 (wpX12_takesSets k) k t li lj (fun t => Q t ∧ G t)
      unfold wbX12_takesSets_2 at hR ⊢
      exact fun x1 e1 => ih.2.1 _ _ _ g (hR x1 e1)
theorem qgX12_takesSets {G : XT → Prop} {k : Nat} {t : XT} {a1 : Int32} {Q : XT → Prop} (hk : kpQ G) (g : G t) (hR : wqX12_takesSets k t a1 Q) : wqX12_takesSets k t a1 (fun t => Q t ∧ G t) := (qfX12_takesSets hk Q k).1 t _ _ g hR
theorem qtX12_takesSets {G : XT → Prop} {k : Nat} {t : XT} {a1 : Int32} {Q Q' : XT → Prop} (hk : kpQ G) (g : G t) (hR : wqX12_takesSets k t a1 Q) (hQ : (∀ t, Q t → G t → Q' t)) : wqX12_takesSets k t a1 Q' := wmX12_takesSets (Nat.le_refl k) (fun t h => hQ t h.1 h.2) (qgX12_takesSets hk g hR)
set_option maxHeartbeats 4000000 in
set_option maxRecDepth 100000 in
theorem qfX12_toldMany {G : XT → Prop} (hk : kpQ G) (Q : Int32 → XT → Prop) : ∀ k : Nat, (∀ (t : XT) (li : Nat → Int32) (lj : Nat → Int64), G t → wpX12_toldMany k 0 t li lj Q → wpX12_toldMany k 0 t li lj (fun r t => Q r t ∧ G t)) ∧ (∀ (t : XT) (li : Nat → Int32) (lj : Nat → Int64), G t → wpX12_toldMany k 1 t li lj Q → wpX12_toldMany k 1 t li lj (fun r t => Q r t ∧ G t)) := by
  intro k
  induction k with
  | zero => exact ⟨fun _ _ _ _ hR => False.elim hR, fun _ _ _ _ hR => False.elim hR⟩
  | succ k ih =>
    refine ⟨?_, ?_⟩
    · intro t li lj g hR
      have hR : wbX12_toldMany_0 (wpX12_toldMany k) k t li lj Q := hR
      show wbX12_toldMany_0 (wpX12_toldMany k) k t li lj (fun r t => Q r t ∧ G t)
      unfold wbX12_toldMany_0 at hR ⊢
      exact ih.2 _ _ _ g hR
    · intro t li lj g hR
      have hR : wbX12_toldMany_1 (wpX12_toldMany k) k t li lj Q := hR
      show wbX12_toldMany_1 (wpX12_toldMany k) k t li lj (fun r t => Q r t ∧ G t)
      unfold wbX12_toldMany_1 at hR ⊢
      exact ⟨fun c1 => ⟨(hR.1 c1), g⟩, fun c2 => ⟨(hR.2 c2).1, fun x3 e3 => wcX12_truth ((hR.2 c2).2 x3 e3) (fun y4_0 h4 => fun x5 e5 => fun x6 e6 => ih.2 _ _ _ g ((h4 x5 e5) x6 e6))⟩⟩
theorem qgX12_toldMany {G : XT → Prop} {k : Nat} {t : XT}  {Q : Int32 → XT → Prop} (hk : kpQ G) (g : G t) (hR : wqX12_toldMany k t  Q) : wqX12_toldMany k t  (fun r t => Q r t ∧ G t) := (qfX12_toldMany hk Q k).1 t _ _ g hR
theorem qtX12_toldMany {G : XT → Prop} {k : Nat} {t : XT}  {Q Q' : Int32 → XT → Prop} (hk : kpQ G) (g : G t) (hR : wqX12_toldMany k t  Q) (hQ : (∀ r t, Q r t → G t → Q' r t)) : wqX12_toldMany k t  Q' := wmX12_toldMany (Nat.le_refl k) (fun r t h => hQ r t h.1 h.2) (qgX12_toldMany hk g hR)
set_option maxHeartbeats 4000000 in
set_option maxRecDepth 100000 in
theorem qfX12_readsFacet {G : XT → Prop} (hk : kpQ G) (Q : XT → Prop) : ∀ k : Nat, (∀ (t : XT) (li : Nat → Int32) (lj : Nat → Int64), G t → wpX12_readsFacet k 0 t li lj Q → wpX12_readsFacet k 0 t li lj (fun t => Q t ∧ G t)) ∧ (∀ (t : XT) (li : Nat → Int32) (lj : Nat → Int64), G t → wpX12_readsFacet k 1 t li lj Q → wpX12_readsFacet k 1 t li lj (fun t => Q t ∧ G t)) ∧ (∀ (t : XT) (li : Nat → Int32) (lj : Nat → Int64), G t → wpX12_readsFacet k 2 t li lj Q → wpX12_readsFacet k 2 t li lj (fun t => Q t ∧ G t)) ∧ (∀ (t : XT) (li : Nat → Int32) (lj : Nat → Int64), G t → wpX12_readsFacet k 3 t li lj Q → wpX12_readsFacet k 3 t li lj (fun t => Q t ∧ G t)) ∧ (∀ (t : XT) (li : Nat → Int32) (lj : Nat → Int64), G t → wpX12_readsFacet k 4 t li lj Q → wpX12_readsFacet k 4 t li lj (fun t => Q t ∧ G t)) ∧ (∀ (t : XT) (li : Nat → Int32) (lj : Nat → Int64), G t → wpX12_readsFacet k 5 t li lj Q → wpX12_readsFacet k 5 t li lj (fun t => Q t ∧ G t)) ∧ (∀ (t : XT) (li : Nat → Int32) (lj : Nat → Int64), G t → wpX12_readsFacet k 6 t li lj Q → wpX12_readsFacet k 6 t li lj (fun t => Q t ∧ G t)) := by
  intro k
  induction k with
  | zero => exact ⟨fun _ _ _ _ hR => False.elim hR, fun _ _ _ _ hR => False.elim hR, fun _ _ _ _ hR => False.elim hR, fun _ _ _ _ hR => False.elim hR, fun _ _ _ _ hR => False.elim hR, fun _ _ _ _ hR => False.elim hR, fun _ _ _ _ hR => False.elim hR⟩
  | succ k ih =>
    refine ⟨?_, ?_, ?_, ?_, ?_, ?_, ?_⟩
    · intro t li lj g hR
      have hR : wbX12_readsFacet_0 (wpX12_readsFacet k) k t li lj Q := hR
      show wbX12_readsFacet_0 (wpX12_readsFacet k) k t li lj (fun t => Q t ∧ G t)
      unfold wbX12_readsFacet_0 at hR ⊢
      exact qtX12_blanks hk g hR (fun y1_0 h1 g1 => qtX12_isLetter hk g1 h1 (fun y2_0 y2_1 h2 g2 => ⟨fun c3 => ih.2.1 _ _ _ g2 (h2.1 c3), fun c4 => qtX12_fails hk g2 (h2.2 c4) (fun y5_0 h5 g5 => ih.2.1 _ _ _ g5 h5)⟩))
    · intro t li lj g hR
      have hR : wbX12_readsFacet_1 (wpX12_readsFacet k) k t li lj Q := hR
      show wbX12_readsFacet_1 (wpX12_readsFacet k) k t li lj (fun t => Q t ∧ G t)
      unfold wbX12_readsFacet_1 at hR ⊢
      exact ⟨fun c1 => ih.2.2.1 _ _ _ g (hR.1 c1), fun c2 => qtX12_fails hk g (hR.2 c2) (fun y3_0 h3 g3 => ih.2.2.1 _ _ _ g3 h3)⟩
    · intro t li lj g hR
      have hR : wbX12_readsFacet_2 (wpX12_readsFacet k) k t li lj Q := hR
      show wbX12_readsFacet_2 (wpX12_readsFacet k) k t li lj (fun t => Q t ∧ G t)
      unfold wbX12_readsFacet_2 at hR ⊢
      exact qtX12_isRight hk g hR (fun y1_0 y1_1 h1 g1 => ⟨fun c2 => ih.2.2.2.2.2.1 _ _ _ g1 (h1.1 c2), fun c3 => qtX12_isLetter hk g1 (h1.2 c3) (fun y4_0 y4_1 h4 g4 => ⟨fun c5 => ih.2.2.2.2.2.1 _ _ _ g4 (h4.1 c5), fun c6 => qtX12_byteNow hk g4 (h4.2 c6) (fun y7_0 y7_1 h7 g7 => fun x8 e8 => fun x9 e9 => fun x10 e10 => ⟨fun c11 => ih.2.2.2.1 _ _ _ g7 ((((h7 x8 e8) x9 e9) x10 e10).1 c11), fun c12 => qtX12_fails hk g7 ((((h7 x8 e8) x9 e9) x10 e10).2 c12) (fun y13_0 h13 g13 => ih.2.2.2.1 _ _ _ g13 h13)⟩)⟩)⟩)
    · intro t li lj g hR
      have hR : wbX12_readsFacet_3 (wpX12_readsFacet k) k t li lj Q := hR
      show wbX12_readsFacet_3 (wpX12_readsFacet k) k t li lj (fun t => Q t ∧ G t)
      unfold wbX12_readsFacet_3 at hR ⊢
      exact wcJ6_bitCount_0f7a4 hR (fun y1_0 h1 => ⟨fun c2 => ih.2.2.2.2.1 _ _ _ g (h1.1 c2), fun c3 => qtX12_fails hk g (h1.2 c3) (fun y4_0 h4 g4 => ih.2.2.2.2.1 _ _ _ g4 h4)⟩)
    · intro t li lj g hR
      have hR : wbX12_readsFacet_4 (wpX12_readsFacet k) k t li lj Q := hR
      show wbX12_readsFacet_4 (wpX12_readsFacet k) k t li lj (fun t => Q t ∧ G t)
      unfold wbX12_readsFacet_4 at hR ⊢
      exact fun x1 e1 => fun x2 e2 => fun x3 e3 => have g3 : G x3 := (by rw [e3]; exact hk.1 _ _ _ (by decide) g); ih.2.2.1 _ _ _ g3 (((hR x1 e1) x2 e2) x3 e3)
    · intro t li lj g hR
      have hR : wbX12_readsFacet_5 (wpX12_readsFacet k) k t li lj Q := hR
      show wbX12_readsFacet_5 (wpX12_readsFacet k) k t li lj (fun t => Q t ∧ G t)
      unfold wbX12_readsFacet_5 at hR ⊢
      exact qtX12_isRight hk g hR (fun y1_0 y1_1 h1 g1 => ⟨fun c2 => ih.2.2.2.2.2.2 _ _ _ g1 (h1.1 c2), fun c3 => qtX12_takesSets hk g1 (h1.2 c3) (fun y4_0 h4 g4 => qtX12_toldMany hk g4 h4 (fun y5_0 y5_1 h5 g5 => ⟨fun c6 => ih.2.2.2.2.2.2 _ _ _ g5 (h5.1 c6), fun c7 => qtX12_fails hk g5 (h5.2 c7) (fun y8_0 h8 g8 => ih.2.2.2.2.2.2 _ _ _ g8 h8)⟩))⟩)
    · intro t li lj g hR
      have hR : wbX12_readsFacet_6 (wpX12_readsFacet k) k t li lj Q := hR
      show wbX12_readsFacet_6 (wpX12_readsFacet k) k t li lj (fun t => Q t ∧ G t)
      unfold wbX12_readsFacet_6 at hR ⊢
      exact qtX12_blanks hk g hR (fun y1_0 h1 g1 => ⟨h1, g1⟩)
theorem qgX12_readsFacet {G : XT → Prop} {k : Nat} {t : XT} {a1 : Int32} {Q : XT → Prop} (hk : kpQ G) (g : G t) (hR : wqX12_readsFacet k t a1 Q) : wqX12_readsFacet k t a1 (fun t => Q t ∧ G t) := (qfX12_readsFacet hk Q k).1 t _ _ g hR
theorem qtX12_readsFacet {G : XT → Prop} {k : Nat} {t : XT} {a1 : Int32} {Q Q' : XT → Prop} (hk : kpQ G) (g : G t) (hR : wqX12_readsFacet k t a1 Q) (hQ : (∀ t, Q t → G t → Q' t)) : wqX12_readsFacet k t a1 Q' := wmX12_readsFacet (Nat.le_refl k) (fun t h => hQ t h.1 h.2) (qgX12_readsFacet hk g hR)
set_option maxHeartbeats 4000000 in
set_option maxRecDepth 100000 in
theorem qfX12_isSimplex {G : XT → Prop} (hk : kpQ G) (Q : Int32 → XT → Prop) : ∀ k : Nat, (∀ (t : XT) (li : Nat → Int32) (lj : Nat → Int64), G t → wpX12_isSimplex k 0 t li lj Q → wpX12_isSimplex k 0 t li lj (fun r t => Q r t ∧ G t)) := by
  intro k
  induction k with
  | zero => exact fun _ _ _ _ hR => False.elim hR
  | succ k ih =>
    intro t li lj g hR
    have hR : wbX12_isSimplex_0 (wpX12_isSimplex k) k t li lj Q := hR
    show wbX12_isSimplex_0 (wpX12_isSimplex k) k t li lj (fun r t => Q r t ∧ G t)
    unfold wbX12_isSimplex_0 at hR ⊢
    exact fun x1 e1 => wcX12_in (hR x1 e1) (fun y2_0 h2 => ⟨h2.1, ⟨h2.2, g⟩⟩)
theorem qgX12_isSimplex {G : XT → Prop} {k : Nat} {t : XT} {a1 : Int32} {Q : Int32 → XT → Prop} (hk : kpQ G) (g : G t) (hR : wqX12_isSimplex k t a1 Q) : wqX12_isSimplex k t a1 (fun r t => Q r t ∧ G t) := (qfX12_isSimplex hk Q k) t _ _ g hR
theorem qtX12_isSimplex {G : XT → Prop} {k : Nat} {t : XT} {a1 : Int32} {Q Q' : Int32 → XT → Prop} (hk : kpQ G) (g : G t) (hR : wqX12_isSimplex k t a1 Q) (hQ : (∀ r t, Q r t → G t → Q' r t)) : wqX12_isSimplex k t a1 Q' := wmX12_isSimplex (Nat.le_refl k) (fun r t h => hQ r t h.1 h.2) (qgX12_isSimplex hk g hR)
set_option maxHeartbeats 4000000 in
set_option maxRecDepth 100000 in
theorem qfX12_dimOf {G : XT → Prop} (hk : kpQ G) (Q : Int32 → XT → Prop) : ∀ k : Nat, (∀ (t : XT) (li : Nat → Int32) (lj : Nat → Int64), G t → wpX12_dimOf k 0 t li lj Q → wpX12_dimOf k 0 t li lj (fun r t => Q r t ∧ G t)) := by
  intro k
  induction k with
  | zero => exact fun _ _ _ _ hR => False.elim hR
  | succ k ih =>
    intro t li lj g hR
    have hR : wbX12_dimOf_0 (wpX12_dimOf k) k t li lj Q := hR
    show wbX12_dimOf_0 (wpX12_dimOf k) k t li lj (fun r t => Q r t ∧ G t)
    unfold wbX12_dimOf_0 at hR ⊢
    exact ⟨hR.1, fun x1 e1 => wcJ6_bitCount_0f7a4 (hR.2 x1 e1) (fun y2_0 h2 => fun x3 e3 => ⟨(h2 x3 e3), g⟩)⟩
theorem qgX12_dimOf {G : XT → Prop} {k : Nat} {t : XT} {a1 : Int32} {Q : Int32 → XT → Prop} (hk : kpQ G) (g : G t) (hR : wqX12_dimOf k t a1 Q) : wqX12_dimOf k t a1 (fun r t => Q r t ∧ G t) := (qfX12_dimOf hk Q k) t _ _ g hR
theorem qtX12_dimOf {G : XT → Prop} {k : Nat} {t : XT} {a1 : Int32} {Q Q' : Int32 → XT → Prop} (hk : kpQ G) (g : G t) (hR : wqX12_dimOf k t a1 Q) (hQ : (∀ r t, Q r t → G t → Q' r t)) : wqX12_dimOf k t a1 Q' := wmX12_dimOf (Nat.le_refl k) (fun r t h => hQ r t h.1 h.2) (qgX12_dimOf hk g hR)
set_option maxHeartbeats 4000000 in
set_option maxRecDepth 100000 in
theorem qfX12_isLower {G : XT → Prop} (hk : kpQ G) (Q : Int32 → XT → Prop) : ∀ k : Nat, (∀ (t : XT) (li : Nat → Int32) (lj : Nat → Int64), G t → wpX12_isLower k 0 t li lj Q → wpX12_isLower k 0 t li lj (fun r t => Q r t ∧ G t)) ∧ (∀ (t : XT) (li : Nat → Int32) (lj : Nat → Int64), G t → wpX12_isLower k 1 t li lj Q → wpX12_isLower k 1 t li lj (fun r t => Q r t ∧ G t)) := by
  intro k
  induction k with
  | zero => exact ⟨fun _ _ _ _ hR => False.elim hR, fun _ _ _ _ hR => False.elim hR⟩
  | succ k ih =>
    refine ⟨?_, ?_⟩
    · intro t li lj g hR
      have hR : wbX12_isLower_0 (wpX12_isLower k) k t li lj Q := hR
      show wbX12_isLower_0 (wpX12_isLower k) k t li lj (fun r t => Q r t ∧ G t)
      unfold wbX12_isLower_0 at hR ⊢
      exact ⟨hR.1, fun x1 e1 => ⟨fun c2 => ih.2 _ _ _ g ((hR.2 x1 e1).1 c2), fun c3 => ⟨((hR.2 x1 e1).2 c3).1, fun x4 e4 => ⟨fun c5 => ih.2 _ _ _ g ((((hR.2 x1 e1).2 c3).2 x4 e4).1 c5), fun c6 => ⟨((((hR.2 x1 e1).2 c3).2 x4 e4).2 c6), g⟩⟩⟩⟩⟩
    · intro t li lj g hR
      have hR : wbX12_isLower_1 (wpX12_isLower k) k t li lj Q := hR
      show wbX12_isLower_1 (wpX12_isLower k) k t li lj (fun r t => Q r t ∧ G t)
      unfold wbX12_isLower_1 at hR ⊢
      exact ⟨hR, g⟩
theorem qgX12_isLower {G : XT → Prop} {k : Nat} {t : XT} {a1 : Int32} {Q : Int32 → XT → Prop} (hk : kpQ G) (g : G t) (hR : wqX12_isLower k t a1 Q) : wqX12_isLower k t a1 (fun r t => Q r t ∧ G t) := (qfX12_isLower hk Q k).1 t _ _ g hR
theorem qtX12_isLower {G : XT → Prop} {k : Nat} {t : XT} {a1 : Int32} {Q Q' : Int32 → XT → Prop} (hk : kpQ G) (g : G t) (hR : wqX12_isLower k t a1 Q) (hQ : (∀ r t, Q r t → G t → Q' r t)) : wqX12_isLower k t a1 Q' := wmX12_isLower (Nat.le_refl k) (fun r t h => hQ r t h.1 h.2) (qgX12_isLower hk g hR)
set_option maxHeartbeats 4000000 in
set_option maxRecDepth 100000 in
theorem qfX12_isFace {G : XT → Prop} (hk : kpQ G) (Q : Int32 → XT → Prop) : ∀ k : Nat, (∀ (t : XT) (li : Nat → Int32) (lj : Nat → Int64), G t → wpX12_isFace k 0 t li lj Q → wpX12_isFace k 0 t li lj (fun r t => Q r t ∧ G t)) ∧ (∀ (t : XT) (li : Nat → Int32) (lj : Nat → Int64), G t → wpX12_isFace k 1 t li lj Q → wpX12_isFace k 1 t li lj (fun r t => Q r t ∧ G t)) := by
  intro k
  induction k with
  | zero => exact ⟨fun _ _ _ _ hR => False.elim hR, fun _ _ _ _ hR => False.elim hR⟩
  | succ k ih =>
    refine ⟨?_, ?_⟩
    · intro t li lj g hR
      have hR : wbX12_isFace_0 (wpX12_isFace k) k t li lj Q := hR
      show wbX12_isFace_0 (wpX12_isFace k) k t li lj (fun r t => Q r t ∧ G t)
      unfold wbX12_isFace_0 at hR ⊢
      exact qtX12_dimOf hk g hR (fun y1_0 y1_1 h1 g1 => qtX12_dimOf hk g1 h1 (fun y2_0 y2_1 h2 g2 => fun x3 e3 => ⟨fun c4 => ih.2 _ _ _ g2 ((h2 x3 e3).1 c4), fun c5 => ⟨((h2 x3 e3).2 c5).1, fun x6 e6 => ⟨(((h2 x3 e3).2 c5).2 x6 e6).1, fun x7 e7 => fun x8 e8 => fun x9 e9 => ⟨fun c10 => ih.2 _ _ _ g2 (((((((h2 x3 e3).2 c5).2 x6 e6).2 x7 e7) x8 e8) x9 e9).1 c10), fun c11 => ⟨(((((((h2 x3 e3).2 c5).2 x6 e6).2 x7 e7) x8 e8) x9 e9).2 c11), g2⟩⟩⟩⟩⟩))
    · intro t li lj g hR
      have hR : wbX12_isFace_1 (wpX12_isFace k) k t li lj Q := hR
      show wbX12_isFace_1 (wpX12_isFace k) k t li lj (fun r t => Q r t ∧ G t)
      unfold wbX12_isFace_1 at hR ⊢
      exact ⟨hR, g⟩
theorem qgX12_isFace {G : XT → Prop} {k : Nat} {t : XT} {a1 : Int32} {a2 : Int32} {Q : Int32 → XT → Prop} (hk : kpQ G) (g : G t) (hR : wqX12_isFace k t a1 a2 Q) : wqX12_isFace k t a1 a2 (fun r t => Q r t ∧ G t) := (qfX12_isFace hk Q k).1 t _ _ g hR
theorem qtX12_isFace {G : XT → Prop} {k : Nat} {t : XT} {a1 : Int32} {a2 : Int32} {Q Q' : Int32 → XT → Prop} (hk : kpQ G) (g : G t) (hR : wqX12_isFace k t a1 a2 Q) (hQ : (∀ r t, Q r t → G t → Q' r t)) : wqX12_isFace k t a1 a2 Q' := wmX12_isFace (Nat.le_refl k) (fun r t h => hQ r t h.1 h.2) (qgX12_isFace hk g hR)
set_option maxHeartbeats 4000000 in
set_option maxRecDepth 100000 in
theorem qfX12_isFaceThere {G : XT → Prop} (hk : kpQ G) (Q : Int32 → XT → Prop) : ∀ k : Nat, (∀ (t : XT) (li : Nat → Int32) (lj : Nat → Int64), G t → wpX12_isFaceThere k 0 t li lj Q → wpX12_isFaceThere k 0 t li lj (fun r t => Q r t ∧ G t)) ∧ (∀ (t : XT) (li : Nat → Int32) (lj : Nat → Int64), G t → wpX12_isFaceThere k 1 t li lj Q → wpX12_isFaceThere k 1 t li lj (fun r t => Q r t ∧ G t)) := by
  intro k
  induction k with
  | zero => exact ⟨fun _ _ _ _ hR => False.elim hR, fun _ _ _ _ hR => False.elim hR⟩
  | succ k ih =>
    refine ⟨?_, ?_⟩
    · intro t li lj g hR
      have hR : wbX12_isFaceThere_0 (wpX12_isFaceThere k) k t li lj Q := hR
      show wbX12_isFaceThere_0 (wpX12_isFaceThere k) k t li lj (fun r t => Q r t ∧ G t)
      unfold wbX12_isFaceThere_0 at hR ⊢
      exact ⟨hR.1, fun x1 e1 => ⟨fun c2 => ih.2 _ _ _ g ((hR.2 x1 e1).1 c2), fun c3 => ⟨((hR.2 x1 e1).2 c3).1, fun x4 e4 => ⟨fun c5 => ih.2 _ _ _ g ((((hR.2 x1 e1).2 c3).2 x4 e4).1 c5), fun c6 => qtX12_isFace hk g ((((hR.2 x1 e1).2 c3).2 x4 e4).2 c6) (fun y7_0 y7_1 h7 g7 => ⟨fun c8 => ih.2 _ _ _ g7 (h7.1 c8), fun c9 => ⟨(h7.2 c9), g7⟩⟩)⟩⟩⟩⟩
    · intro t li lj g hR
      have hR : wbX12_isFaceThere_1 (wpX12_isFaceThere k) k t li lj Q := hR
      show wbX12_isFaceThere_1 (wpX12_isFaceThere k) k t li lj (fun r t => Q r t ∧ G t)
      unfold wbX12_isFaceThere_1 at hR ⊢
      exact ⟨hR, g⟩
theorem qgX12_isFaceThere {G : XT → Prop} {k : Nat} {t : XT} {a1 : Int32} {a2 : Int32} {Q : Int32 → XT → Prop} (hk : kpQ G) (g : G t) (hR : wqX12_isFaceThere k t a1 a2 Q) : wqX12_isFaceThere k t a1 a2 (fun r t => Q r t ∧ G t) := (qfX12_isFaceThere hk Q k).1 t _ _ g hR
theorem qtX12_isFaceThere {G : XT → Prop} {k : Nat} {t : XT} {a1 : Int32} {a2 : Int32} {Q Q' : Int32 → XT → Prop} (hk : kpQ G) (g : G t) (hR : wqX12_isFaceThere k t a1 a2 Q) (hQ : (∀ r t, Q r t → G t → Q' r t)) : wqX12_isFaceThere k t a1 a2 Q' := wmX12_isFaceThere (Nat.le_refl k) (fun r t h => hQ r t h.1 h.2) (qgX12_isFaceThere hk g hR)
set_option maxHeartbeats 4000000 in
set_option maxRecDepth 100000 in
theorem qfX12_laysHeights {G : XT → Prop} (hk : kpQ G) (Q : XT → Prop) : ∀ k : Nat, (∀ (t : XT) (li : Nat → Int32) (lj : Nat → Int64), G t → wpX12_laysHeights k 0 t li lj Q → wpX12_laysHeights k 0 t li lj (fun t => Q t ∧ G t)) ∧ (∀ (t : XT) (li : Nat → Int32) (lj : Nat → Int64), G t → wpX12_laysHeights k 1 t li lj Q → wpX12_laysHeights k 1 t li lj (fun t => Q t ∧ G t)) ∧ (∀ (t : XT) (li : Nat → Int32) (lj : Nat → Int64), G t → wpX12_laysHeights k 2 t li lj Q → wpX12_laysHeights k 2 t li lj (fun t => Q t ∧ G t)) ∧ (∀ (t : XT) (li : Nat → Int32) (lj : Nat → Int64), G t → wpX12_laysHeights k 3 t li lj Q → wpX12_laysHeights k 3 t li lj (fun t => Q t ∧ G t)) ∧ (∀ (t : XT) (li : Nat → Int32) (lj : Nat → Int64), G t → wpX12_laysHeights k 4 t li lj Q → wpX12_laysHeights k 4 t li lj (fun t => Q t ∧ G t)) ∧ (∀ (t : XT) (li : Nat → Int32) (lj : Nat → Int64), G t → wpX12_laysHeights k 5 t li lj Q → wpX12_laysHeights k 5 t li lj (fun t => Q t ∧ G t)) ∧ (∀ (t : XT) (li : Nat → Int32) (lj : Nat → Int64), G t → wpX12_laysHeights k 6 t li lj Q → wpX12_laysHeights k 6 t li lj (fun t => Q t ∧ G t)) ∧ (∀ (t : XT) (li : Nat → Int32) (lj : Nat → Int64), G t → wpX12_laysHeights k 7 t li lj Q → wpX12_laysHeights k 7 t li lj (fun t => Q t ∧ G t)) ∧ (∀ (t : XT) (li : Nat → Int32) (lj : Nat → Int64), G t → wpX12_laysHeights k 8 t li lj Q → wpX12_laysHeights k 8 t li lj (fun t => Q t ∧ G t)) ∧ (∀ (t : XT) (li : Nat → Int32) (lj : Nat → Int64), G t → wpX12_laysHeights k 9 t li lj Q → wpX12_laysHeights k 9 t li lj (fun t => Q t ∧ G t)) ∧ (∀ (t : XT) (li : Nat → Int32) (lj : Nat → Int64), G t → wpX12_laysHeights k 10 t li lj Q → wpX12_laysHeights k 10 t li lj (fun t => Q t ∧ G t)) := by
  intro k
  induction k with
  | zero => exact ⟨fun _ _ _ _ hR => False.elim hR, fun _ _ _ _ hR => False.elim hR, fun _ _ _ _ hR => False.elim hR, fun _ _ _ _ hR => False.elim hR, fun _ _ _ _ hR => False.elim hR, fun _ _ _ _ hR => False.elim hR, fun _ _ _ _ hR => False.elim hR, fun _ _ _ _ hR => False.elim hR, fun _ _ _ _ hR => False.elim hR, fun _ _ _ _ hR => False.elim hR, fun _ _ _ _ hR => False.elim hR⟩
  | succ k ih =>
    refine ⟨?_, ?_, ?_, ?_, ?_, ?_, ?_, ?_, ?_, ?_, ?_⟩
    · intro t li lj g hR
      have hR : wbX12_laysHeights_0 (wpX12_laysHeights k) k t li lj Q := hR
      show wbX12_laysHeights_0 (wpX12_laysHeights k) k t li lj (fun t => Q t ∧ G t)
      unfold wbX12_laysHeights_0 at hR ⊢
      exact ih.2.1 _ _ _ g hR
    · intro t li lj g hR
      have hR : wbX12_laysHeights_1 (wpX12_laysHeights k) k t li lj Q := hR
      show wbX12_laysHeights_1 (wpX12_laysHeights k) k t li lj (fun t => Q t ∧ G t)
      unfold wbX12_laysHeights_1 at hR ⊢
      exact ⟨fun c1 => ih.2.2.1 _ _ _ g (hR.1 c1), fun c2 => ⟨(hR.2 c2).1, fun x3 e3 => have g3 : G x3 := (by rw [e3]; exact hk.2.2.1 _ _ _ (by decide) (by decide) (by decide) (by decide) (by decide) g); fun x4 e4 => ih.2.1 _ _ _ g3 (((hR.2 c2).2 x3 e3) x4 e4)⟩⟩
    · intro t li lj g hR
      have hR : wbX12_laysHeights_2 (wpX12_laysHeights k) k t li lj Q := hR
      show wbX12_laysHeights_2 (wpX12_laysHeights k) k t li lj (fun t => Q t ∧ G t)
      unfold wbX12_laysHeights_2 at hR ⊢
      exact ⟨fun c1 => ⟨(hR.1 c1), g⟩, fun c2 => ih.2.2.2.1 _ _ _ g (hR.2 c2)⟩
    · intro t li lj g hR
      have hR : wbX12_laysHeights_3 (wpX12_laysHeights k) k t li lj Q := hR
      show wbX12_laysHeights_3 (wpX12_laysHeights k) k t li lj (fun t => Q t ∧ G t)
      unfold wbX12_laysHeights_3 at hR ⊢
      exact ⟨fun c1 => ih.2.2.1 _ _ _ g (hR.1 c1), fun c2 => ih.2.2.2.2.1 _ _ _ g (hR.2 c2)⟩
    · intro t li lj g hR
      have hR : wbX12_laysHeights_4 (wpX12_laysHeights k) k t li lj Q := hR
      show wbX12_laysHeights_4 (wpX12_laysHeights k) k t li lj (fun t => Q t ∧ G t)
      unfold wbX12_laysHeights_4 at hR ⊢
      exact ⟨fun c1 => fun x2 e2 => ih.2.2.2.1 _ _ _ g ((hR.1 c1) x2 e2), fun c3 => qtX12_isFaceThere hk g (hR.2 c3) (fun y4_0 y4_1 h4 g4 => ⟨fun c5 => ih.2.2.2.2.2.1 _ _ _ g4 (h4.1 c5), fun c6 => ⟨(h4.2 c6).1, fun x7 e7 => ⟨fun c8 => ih.2.2.2.2.2.1 _ _ _ g4 (((h4.2 c6).2 x7 e7).1 c8), fun c9 => ih.2.2.2.2.2.2.1 _ _ _ g4 (((h4.2 c6).2 x7 e7).2 c9)⟩⟩⟩)⟩
    · intro t li lj g hR
      have hR : wbX12_laysHeights_5 (wpX12_laysHeights k) k t li lj Q := hR
      show wbX12_laysHeights_5 (wpX12_laysHeights k) k t li lj (fun t => Q t ∧ G t)
      unfold wbX12_laysHeights_5 at hR ⊢
      exact ih.2.2.2.2.2.2.1 _ _ _ g hR
    · intro t li lj g hR
      have hR : wbX12_laysHeights_6 (wpX12_laysHeights k) k t li lj Q := hR
      show wbX12_laysHeights_6 (wpX12_laysHeights k) k t li lj (fun t => Q t ∧ G t)
      unfold wbX12_laysHeights_6 at hR ⊢
      exact qtX12_isFaceThere hk g hR (fun y1_0 y1_1 h1 g1 => ⟨fun c2 => ih.2.2.2.2.2.2.2.1 _ _ _ g1 (h1.1 c2), fun c3 => ⟨(h1.2 c3).1, fun x4 e4 => ⟨fun c5 => ih.2.2.2.2.2.2.2.1 _ _ _ g1 (((h1.2 c3).2 x4 e4).1 c5), fun c6 => ih.2.2.2.2.2.2.2.2.1 _ _ _ g1 (((h1.2 c3).2 x4 e4).2 c6)⟩⟩⟩)
    · intro t li lj g hR
      have hR : wbX12_laysHeights_7 (wpX12_laysHeights k) k t li lj Q := hR
      show wbX12_laysHeights_7 (wpX12_laysHeights k) k t li lj (fun t => Q t ∧ G t)
      unfold wbX12_laysHeights_7 at hR ⊢
      exact ih.2.2.2.2.2.2.2.2.1 _ _ _ g hR
    · intro t li lj g hR
      have hR : wbX12_laysHeights_8 (wpX12_laysHeights k) k t li lj Q := hR
      show wbX12_laysHeights_8 (wpX12_laysHeights k) k t li lj (fun t => Q t ∧ G t)
      unfold wbX12_laysHeights_8 at hR ⊢
      exact ⟨fun c1 => ih.2.2.2.2.2.2.2.2.2.1 _ _ _ g (hR.1 c1), fun c2 => ⟨fun c3 => ih.2.2.2.2.2.2.2.2.2.2 _ _ _ g ((hR.2 c2).1 c3), fun c4 => ih.2.2.2.2.2.2.2.2.2.1 _ _ _ g ((hR.2 c2).2 c4)⟩⟩
    · intro t li lj g hR
      have hR : wbX12_laysHeights_9 (wpX12_laysHeights k) k t li lj Q := hR
      show wbX12_laysHeights_9 (wpX12_laysHeights k) k t li lj (fun t => Q t ∧ G t)
      unfold wbX12_laysHeights_9 at hR ⊢
      exact ⟨hR.1, fun x1 e1 => ⟨(hR.2 x1 e1).1, fun x2 e2 => fun x3 e3 => ⟨fun c4 => ih.2.2.2.2.2.2.2.2.2.2 _ _ _ g ((((hR.2 x1 e1).2 x2 e2) x3 e3).1 c4), fun c5 => ⟨((((hR.2 x1 e1).2 x2 e2) x3 e3).2 c5).1, fun x6 e6 => fun x7 e7 => ⟨((((((hR.2 x1 e1).2 x2 e2) x3 e3).2 c5).2 x6 e6) x7 e7).1, fun x8 e8 => have g8 : G x8 := (by rw [e8]; exact hk.2.2.1 _ _ _ (by decide) (by decide) (by decide) (by decide) (by decide) g); ih.2.2.2.2.2.2.2.2.2.2 _ _ _ g8 (((((((hR.2 x1 e1).2 x2 e2) x3 e3).2 c5).2 x6 e6) x7 e7).2 x8 e8)⟩⟩⟩⟩⟩
    · intro t li lj g hR
      have hR : wbX12_laysHeights_10 (wpX12_laysHeights k) k t li lj Q := hR
      show wbX12_laysHeights_10 (wpX12_laysHeights k) k t li lj (fun t => Q t ∧ G t)
      unfold wbX12_laysHeights_10 at hR ⊢
      exact fun x1 e1 => ih.2.2.2.2.1 _ _ _ g (hR x1 e1)
theorem qgX12_laysHeights {G : XT → Prop} {k : Nat} {t : XT}  {Q : XT → Prop} (hk : kpQ G) (g : G t) (hR : wqX12_laysHeights k t  Q) : wqX12_laysHeights k t  (fun t => Q t ∧ G t) := (qfX12_laysHeights hk Q k).1 t _ _ g hR
theorem qtX12_laysHeights {G : XT → Prop} {k : Nat} {t : XT}  {Q Q' : XT → Prop} (hk : kpQ G) (g : G t) (hR : wqX12_laysHeights k t  Q) (hQ : (∀ t, Q t → G t → Q' t)) : wqX12_laysHeights k t  Q' := wmX12_laysHeights (Nat.le_refl k) (fun t h => hQ t h.1 h.2) (qgX12_laysHeights hk g hR)
set_option maxHeartbeats 4000000 in
set_option maxRecDepth 100000 in
theorem qfX12_facesOver {G : XT → Prop} (hk : kpQ G) (Q : Int32 → XT → Prop) : ∀ k : Nat, (∀ (t : XT) (li : Nat → Int32) (lj : Nat → Int64), G t → wpX12_facesOver k 0 t li lj Q → wpX12_facesOver k 0 t li lj (fun r t => Q r t ∧ G t)) ∧ (∀ (t : XT) (li : Nat → Int32) (lj : Nat → Int64), G t → wpX12_facesOver k 1 t li lj Q → wpX12_facesOver k 1 t li lj (fun r t => Q r t ∧ G t)) := by
  intro k
  induction k with
  | zero => exact ⟨fun _ _ _ _ hR => False.elim hR, fun _ _ _ _ hR => False.elim hR⟩
  | succ k ih =>
    refine ⟨?_, ?_⟩
    · intro t li lj g hR
      have hR : wbX12_facesOver_0 (wpX12_facesOver k) k t li lj Q := hR
      show wbX12_facesOver_0 (wpX12_facesOver k) k t li lj (fun r t => Q r t ∧ G t)
      unfold wbX12_facesOver_0 at hR ⊢
      exact ih.2 _ _ _ g hR
    · intro t li lj g hR
      have hR : wbX12_facesOver_1 (wpX12_facesOver k) k t li lj Q := hR
      show wbX12_facesOver_1 (wpX12_facesOver k) k t li lj (fun r t => Q r t ∧ G t)
      unfold wbX12_facesOver_1 at hR ⊢
      exact ⟨fun c1 => ⟨(hR.1 c1), g⟩, fun c2 => qtX12_isFaceThere hk g (hR.2 c2) (fun y3_0 y3_1 h3 g3 => wcX12_truth h3 (fun y4_0 h4 => fun x5 e5 => fun x6 e6 => ih.2 _ _ _ g3 ((h4 x5 e5) x6 e6)))⟩
theorem qgX12_facesOver {G : XT → Prop} {k : Nat} {t : XT} {a1 : Int32} {Q : Int32 → XT → Prop} (hk : kpQ G) (g : G t) (hR : wqX12_facesOver k t a1 Q) : wqX12_facesOver k t a1 (fun r t => Q r t ∧ G t) := (qfX12_facesOver hk Q k).1 t _ _ g hR
theorem qtX12_facesOver {G : XT → Prop} {k : Nat} {t : XT} {a1 : Int32} {Q Q' : Int32 → XT → Prop} (hk : kpQ G) (g : G t) (hR : wqX12_facesOver k t a1 Q) (hQ : (∀ r t, Q r t → G t → Q' r t)) : wqX12_facesOver k t a1 Q' := wmX12_facesOver (Nat.le_refl k) (fun r t h => hQ r t h.1 h.2) (qgX12_facesOver hk g hR)
set_option maxHeartbeats 4000000 in
set_option maxRecDepth 100000 in
theorem qfX12_simplex {G : XT → Prop} (hk : kpQ G) (Q : Int32 → XT → Prop) : ∀ k : Nat, (∀ (t : XT) (li : Nat → Int32) (lj : Nat → Int64), G t → wpX12_simplex k 0 t li lj Q → wpX12_simplex k 0 t li lj (fun r t => Q r t ∧ G t)) ∧ (∀ (t : XT) (li : Nat → Int32) (lj : Nat → Int64), G t → wpX12_simplex k 1 t li lj Q → wpX12_simplex k 1 t li lj (fun r t => Q r t ∧ G t)) := by
  intro k
  induction k with
  | zero => exact ⟨fun _ _ _ _ hR => False.elim hR, fun _ _ _ _ hR => False.elim hR⟩
  | succ k ih =>
    refine ⟨?_, ?_⟩
    · intro t li lj g hR
      have hR : wbX12_simplex_0 (wpX12_simplex k) k t li lj Q := hR
      show wbX12_simplex_0 (wpX12_simplex k) k t li lj (fun r t => Q r t ∧ G t)
      unfold wbX12_simplex_0 at hR ⊢
      exact qtX12_isSimplex hk g hR (fun y1_0 y1_1 h1 g1 => ⟨fun c2 => ⟨fun c3 => ⟨((h1.1 c2).1 c3), g1⟩, fun c4 => ⟨((h1.1 c2).2.1 c4).1, fun x5 e5 => ⟨(((h1.1 c2).2.1 c4).2 x5 e5), g1⟩⟩, fun c6 => qtX12_dimOf hk g1 ((h1.1 c2).2.2.1 c6) (fun y7_0 y7_1 h7 g7 => ⟨h7, g7⟩), fun c8 => ⟨((h1.1 c2).2.2.2.1 c8).1, fun x9 e9 => ⟨fun c10 => ih.2 _ _ _ g1 ((((h1.1 c2).2.2.2.1 c8).2 x9 e9).1 c10), fun c11 => ih.2 _ _ _ g1 ((((h1.1 c2).2.2.2.1 c8).2 x9 e9).2 c11)⟩⟩, fun c12 => ⟨((h1.1 c2).2.2.2.2.1 c12).1, fun x13 e13 => ⟨(((h1.1 c2).2.2.2.2.1 c12).2 x13 e13), g1⟩⟩, fun c14 => ⟨((h1.1 c2).2.2.2.2.2.1 c14).1, fun x15 e15 => ⟨fun c16 => qtX12_isLower hk g1 ((((h1.1 c2).2.2.2.2.2.1 c14).2 x15 e15).1 c16) (fun y17_0 y17_1 h17 g17 => wcX12_truth h17 (fun y18_0 h18 => ⟨h18, g17⟩)), fun c19 => ⟨((((h1.1 c2).2.2.2.2.2.1 c14).2 x15 e15).2 c19), g1⟩⟩⟩, fun c20 => ⟨((h1.1 c2).2.2.2.2.2.2.1 c20).1, fun x21 e21 => ⟨fun c22 => qtX12_laysHeights hk g1 ((((h1.1 c2).2.2.2.2.2.2.1 c20).2 x21 e21).1 c22) (fun y23_0 h23 g23 => ⟨h23.1, fun x24 e24 => ⟨(h23.2 x24 e24), g23⟩⟩), fun c25 => ⟨((((h1.1 c2).2.2.2.2.2.2.1 c20).2 x21 e21).2 c25), g1⟩⟩⟩, fun c26 => qtX12_facesOver hk g1 ((h1.1 c2).2.2.2.2.2.2.2 c26) (fun y27_0 y27_1 h27 g27 => ⟨h27, g27⟩)⟩, fun c28 => ⟨(h1.2 c28), g1⟩⟩)
    · intro t li lj g hR
      have hR : wbX12_simplex_1 (wpX12_simplex k) k t li lj Q := hR
      show wbX12_simplex_1 (wpX12_simplex k) k t li lj (fun r t => Q r t ∧ G t)
      unfold wbX12_simplex_1 at hR ⊢
      exact wcX12_truth hR (fun y1_0 h1 => ⟨h1, g⟩)
theorem qgX12_simplex {G : XT → Prop} {k : Nat} {t : XT} {a1 : Int32} {a2 : Int32} {Q : Int32 → XT → Prop} (hk : kpQ G) (g : G t) (hR : wqX12_simplex k t a1 a2 Q) : wqX12_simplex k t a1 a2 (fun r t => Q r t ∧ G t) := (qfX12_simplex hk Q k).1 t _ _ g hR
theorem qtX12_simplex {G : XT → Prop} {k : Nat} {t : XT} {a1 : Int32} {a2 : Int32} {Q Q' : Int32 → XT → Prop} (hk : kpQ G) (g : G t) (hR : wqX12_simplex k t a1 a2 Q) (hQ : (∀ r t, Q r t → G t → Q' r t)) : wqX12_simplex k t a1 a2 Q' := wmX12_simplex (Nat.le_refl k) (fun r t h => hQ r t h.1 h.2) (qgX12_simplex hk g hR)
set_option maxHeartbeats 4000000 in
set_option maxRecDepth 100000 in
theorem qfX12_number {G : XT → Prop} (hk : kpQ G) (Q : Int32 → XT → Prop) : ∀ k : Nat, (∀ (t : XT) (li : Nat → Int32) (lj : Nat → Int64), G t → wpX12_number k 0 t li lj Q → wpX12_number k 0 t li lj (fun r t => Q r t ∧ G t)) ∧ (∀ (t : XT) (li : Nat → Int32) (lj : Nat → Int64), G t → wpX12_number k 1 t li lj Q → wpX12_number k 1 t li lj (fun r t => Q r t ∧ G t)) := by
  intro k
  induction k with
  | zero => exact ⟨fun _ _ _ _ hR => False.elim hR, fun _ _ _ _ hR => False.elim hR⟩
  | succ k ih =>
    refine ⟨?_, ?_⟩
    · intro t li lj g hR
      have hR : wbX12_number_0 (wpX12_number k) k t li lj Q := hR
      show wbX12_number_0 (wpX12_number k) k t li lj (fun r t => Q r t ∧ G t)
      unfold wbX12_number_0 at hR ⊢
      exact wcX12_in hR (fun y1_0 h1 => ⟨fun c2 => ih.2 _ _ _ g (h1.1 c2), fun c3 => ⟨fun c4 => ih.2 _ _ _ g ((h1.2 c3).1 c4), fun c5 => ⟨((h1.2 c3).2 c5).1, fun x6 e6 => ⟨(((h1.2 c3).2 c5).2 x6 e6), g⟩⟩⟩⟩)
    · intro t li lj g hR
      have hR : wbX12_number_1 (wpX12_number k) k t li lj Q := hR
      show wbX12_number_1 (wpX12_number k) k t li lj (fun r t => Q r t ∧ G t)
      unfold wbX12_number_1 at hR ⊢
      exact ⟨hR, g⟩
theorem qgX12_number {G : XT → Prop} {k : Nat} {t : XT} {a1 : Int32} {Q : Int32 → XT → Prop} (hk : kpQ G) (g : G t) (hR : wqX12_number k t a1 Q) : wqX12_number k t a1 (fun r t => Q r t ∧ G t) := (qfX12_number hk Q k).1 t _ _ g hR
theorem qtX12_number {G : XT → Prop} {k : Nat} {t : XT} {a1 : Int32} {Q Q' : Int32 → XT → Prop} (hk : kpQ G) (g : G t) (hR : wqX12_number k t a1 Q) (hQ : (∀ r t, Q r t → G t → Q' r t)) : wqX12_number k t a1 Q' := wmX12_number (Nat.le_refl k) (fun r t h => hQ r t h.1 h.2) (qgX12_number hk g hR)
set_option maxHeartbeats 4000000 in
set_option maxRecDepth 100000 in
theorem qfX12_signOf {G : XT → Prop} (hk : kpQ G) (Q : Int32 → XT → Prop) : ∀ k : Nat, (∀ (t : XT) (li : Nat → Int32) (lj : Nat → Int64), G t → wpX12_signOf k 0 t li lj Q → wpX12_signOf k 0 t li lj (fun r t => Q r t ∧ G t)) := by
  intro k
  induction k with
  | zero => exact fun _ _ _ _ hR => False.elim hR
  | succ k ih =>
    intro t li lj g hR
    have hR : wbX12_signOf_0 (wpX12_signOf k) k t li lj Q := hR
    show wbX12_signOf_0 (wpX12_signOf k) k t li lj (fun r t => Q r t ∧ G t)
    unfold wbX12_signOf_0 at hR ⊢
    exact ⟨hR.1, fun x1 e1 => ⟨(hR.2 x1 e1).1, fun x2 e2 => fun x3 e3 => fun x4 e4 => ⟨((((hR.2 x1 e1).2 x2 e2) x3 e3) x4 e4).1, fun x5 e5 => fun x6 e6 => fun x7 e7 => wcJ6_bitCount_0f7a4 (((((((hR.2 x1 e1).2 x2 e2) x3 e3) x4 e4).2 x5 e5) x6 e6) x7 e7) (fun y8_0 h8 => ⟨h8.1, fun x9 e9 => ⟨fun c10 => ⟨((h8.2 x9 e9).1 c10), g⟩, fun c11 => ⟨((h8.2 x9 e9).2 c11), g⟩⟩⟩)⟩⟩⟩
theorem qgX12_signOf {G : XT → Prop} {k : Nat} {t : XT} {a1 : Int32} {a2 : Int32} {Q : Int32 → XT → Prop} (hk : kpQ G) (g : G t) (hR : wqX12_signOf k t a1 a2 Q) : wqX12_signOf k t a1 a2 (fun r t => Q r t ∧ G t) := (qfX12_signOf hk Q k) t _ _ g hR
theorem qtX12_signOf {G : XT → Prop} {k : Nat} {t : XT} {a1 : Int32} {a2 : Int32} {Q Q' : Int32 → XT → Prop} (hk : kpQ G) (g : G t) (hR : wqX12_signOf k t a1 a2 Q) (hQ : (∀ r t, Q r t → G t → Q' r t)) : wqX12_signOf k t a1 a2 Q' := wmX12_signOf (Nat.le_refl k) (fun r t h => hQ r t h.1 h.2) (qgX12_signOf hk g hR)
set_option maxHeartbeats 4000000 in
set_option maxRecDepth 100000 in
theorem qfX12_sign {G : XT → Prop} (hk : kpQ G) (Q : Int32 → XT → Prop) : ∀ k : Nat, (∀ (t : XT) (li : Nat → Int32) (lj : Nat → Int64), G t → wpX12_sign k 0 t li lj Q → wpX12_sign k 0 t li lj (fun r t => Q r t ∧ G t)) ∧ (∀ (t : XT) (li : Nat → Int32) (lj : Nat → Int64), G t → wpX12_sign k 1 t li lj Q → wpX12_sign k 1 t li lj (fun r t => Q r t ∧ G t)) := by
  intro k
  induction k with
  | zero => exact ⟨fun _ _ _ _ hR => False.elim hR, fun _ _ _ _ hR => False.elim hR⟩
  | succ k ih =>
    refine ⟨?_, ?_⟩
    · intro t li lj g hR
      have hR : wbX12_sign_0 (wpX12_sign k) k t li lj Q := hR
      show wbX12_sign_0 (wpX12_sign k) k t li lj (fun r t => Q r t ∧ G t)
      unfold wbX12_sign_0 at hR ⊢
      exact qtX12_isSimplex hk g hR (fun y1_0 y1_1 h1 g1 => ⟨fun c2 => ih.2 _ _ _ g1 (h1.1 c2), fun c3 => qtX12_isSimplex hk g1 (h1.2 c3) (fun y4_0 y4_1 h4 g4 => ⟨fun c5 => qtX12_isFace hk g4 (h4.1 c5) (fun y6_0 y6_1 h6 g6 => ⟨fun c7 => ⟨(h6.1 c7), g6⟩, fun c8 => qtX12_signOf hk g6 (h6.2 c8) (fun y9_0 y9_1 h9 g9 => ⟨h9, g9⟩)⟩), fun c10 => ih.2 _ _ _ g4 (h4.2 c10)⟩)⟩)
    · intro t li lj g hR
      have hR : wbX12_sign_1 (wpX12_sign k) k t li lj Q := hR
      show wbX12_sign_1 (wpX12_sign k) k t li lj (fun r t => Q r t ∧ G t)
      unfold wbX12_sign_1 at hR ⊢
      exact ⟨hR, g⟩
theorem qgX12_sign {G : XT → Prop} {k : Nat} {t : XT} {a1 : Int32} {a2 : Int32} {Q : Int32 → XT → Prop} (hk : kpQ G) (g : G t) (hR : wqX12_sign k t a1 a2 Q) : wqX12_sign k t a1 a2 (fun r t => Q r t ∧ G t) := (qfX12_sign hk Q k).1 t _ _ g hR
theorem qtX12_sign {G : XT → Prop} {k : Nat} {t : XT} {a1 : Int32} {a2 : Int32} {Q Q' : Int32 → XT → Prop} (hk : kpQ G) (g : G t) (hR : wqX12_sign k t a1 a2 Q) (hQ : (∀ r t, Q r t → G t → Q' r t)) : wqX12_sign k t a1 a2 Q' := wmX12_sign (Nat.le_refl k) (fun r t h => hQ r t h.1 h.2) (qgX12_sign hk g hR)
set_option maxHeartbeats 4000000 in
set_option maxRecDepth 100000 in
theorem qfX12_isThere {G : XT → Prop} (hk : kpQ G) (Q : Int32 → XT → Prop) : ∀ k : Nat, (∀ (t : XT) (li : Nat → Int32) (lj : Nat → Int64), G t → wpX12_isThere k 0 t li lj Q → wpX12_isThere k 0 t li lj (fun r t => Q r t ∧ G t)) ∧ (∀ (t : XT) (li : Nat → Int32) (lj : Nat → Int64), G t → wpX12_isThere k 1 t li lj Q → wpX12_isThere k 1 t li lj (fun r t => Q r t ∧ G t)) := by
  intro k
  induction k with
  | zero => exact ⟨fun _ _ _ _ hR => False.elim hR, fun _ _ _ _ hR => False.elim hR⟩
  | succ k ih =>
    refine ⟨?_, ?_⟩
    · intro t li lj g hR
      have hR : wbX12_isThere_0 (wpX12_isThere k) k t li lj Q := hR
      show wbX12_isThere_0 (wpX12_isThere k) k t li lj (fun r t => Q r t ∧ G t)
      unfold wbX12_isThere_0 at hR ⊢
      exact qtX12_isSimplex hk g hR (fun y1_0 y1_1 h1 g1 => ⟨fun c2 => ih.2 _ _ _ g1 (h1.1 c2), fun c3 => ⟨(h1.2 c3).1, fun x4 e4 => ⟨fun c5 => ih.2 _ _ _ g1 (((h1.2 c3).2 x4 e4).1 c5), fun c6 => ⟨(((h1.2 c3).2 x4 e4).2 c6), g1⟩⟩⟩⟩)
    · intro t li lj g hR
      have hR : wbX12_isThere_1 (wpX12_isThere k) k t li lj Q := hR
      show wbX12_isThere_1 (wpX12_isThere k) k t li lj (fun r t => Q r t ∧ G t)
      unfold wbX12_isThere_1 at hR ⊢
      exact ⟨hR, g⟩
theorem qgX12_isThere {G : XT → Prop} {k : Nat} {t : XT} {a1 : Int32} {Q : Int32 → XT → Prop} (hk : kpQ G) (g : G t) (hR : wqX12_isThere k t a1 Q) : wqX12_isThere k t a1 (fun r t => Q r t ∧ G t) := (qfX12_isThere hk Q k).1 t _ _ g hR
theorem qtX12_isThere {G : XT → Prop} {k : Nat} {t : XT} {a1 : Int32} {Q Q' : Int32 → XT → Prop} (hk : kpQ G) (g : G t) (hR : wqX12_isThere k t a1 Q) (hQ : (∀ r t, Q r t → G t → Q' r t)) : wqX12_isThere k t a1 Q' := wmX12_isThere (Nat.le_refl k) (fun r t h => hQ r t h.1 h.2) (qgX12_isThere hk g hR)
set_option maxHeartbeats 4000000 in
set_option maxRecDepth 100000 in
theorem qfX12_isFree {G : XT → Prop} (hk : kpQ G) (Q : Int32 → XT → Prop) : ∀ k : Nat, (∀ (t : XT) (li : Nat → Int32) (lj : Nat → Int64), G t → wpX12_isFree k 0 t li lj Q → wpX12_isFree k 0 t li lj (fun r t => Q r t ∧ G t)) ∧ (∀ (t : XT) (li : Nat → Int32) (lj : Nat → Int64), G t → wpX12_isFree k 1 t li lj Q → wpX12_isFree k 1 t li lj (fun r t => Q r t ∧ G t)) := by
  intro k
  induction k with
  | zero => exact ⟨fun _ _ _ _ hR => False.elim hR, fun _ _ _ _ hR => False.elim hR⟩
  | succ k ih =>
    refine ⟨?_, ?_⟩
    · intro t li lj g hR
      have hR : wbX12_isFree_0 (wpX12_isFree k) k t li lj Q := hR
      show wbX12_isFree_0 (wpX12_isFree k) k t li lj (fun r t => Q r t ∧ G t)
      unfold wbX12_isFree_0 at hR ⊢
      exact ⟨hR.1, fun x1 e1 => ⟨fun c2 => ih.2 _ _ _ g ((hR.2 x1 e1).1 c2), fun c3 => ⟨((hR.2 x1 e1).2 c3).1, fun x4 e4 => ⟨fun c5 => ih.2 _ _ _ g ((((hR.2 x1 e1).2 c3).2 x4 e4).1 c5), fun c6 => ⟨((((hR.2 x1 e1).2 c3).2 x4 e4).2 c6), g⟩⟩⟩⟩⟩
    · intro t li lj g hR
      have hR : wbX12_isFree_1 (wpX12_isFree k) k t li lj Q := hR
      show wbX12_isFree_1 (wpX12_isFree k) k t li lj (fun r t => Q r t ∧ G t)
      unfold wbX12_isFree_1 at hR ⊢
      exact ⟨hR, g⟩
theorem qgX12_isFree {G : XT → Prop} {k : Nat} {t : XT} {a1 : Int32} {a2 : Int32} {Q : Int32 → XT → Prop} (hk : kpQ G) (g : G t) (hR : wqX12_isFree k t a1 a2 Q) : wqX12_isFree k t a1 a2 (fun r t => Q r t ∧ G t) := (qfX12_isFree hk Q k).1 t _ _ g hR
theorem qtX12_isFree {G : XT → Prop} {k : Nat} {t : XT} {a1 : Int32} {a2 : Int32} {Q Q' : Int32 → XT → Prop} (hk : kpQ G) (g : G t) (hR : wqX12_isFree k t a1 a2 Q) (hQ : (∀ r t, Q r t → G t → Q' r t)) : wqX12_isFree k t a1 a2 Q' := wmX12_isFree (Nat.le_refl k) (fun r t h => hQ r t h.1 h.2) (qgX12_isFree hk g hR)
set_option maxHeartbeats 4000000 in
set_option maxRecDepth 100000 in
theorem qfX12_leadsOn {G : XT → Prop} (hk : kpQ G) (Q : Int32 → XT → Prop) : ∀ k : Nat, (∀ (t : XT) (li : Nat → Int32) (lj : Nat → Int64), G t → wpX12_leadsOn k 0 t li lj Q → wpX12_leadsOn k 0 t li lj (fun r t => Q r t ∧ G t)) ∧ (∀ (t : XT) (li : Nat → Int32) (lj : Nat → Int64), G t → wpX12_leadsOn k 1 t li lj Q → wpX12_leadsOn k 1 t li lj (fun r t => Q r t ∧ G t)) ∧ (∀ (t : XT) (li : Nat → Int32) (lj : Nat → Int64), G t → wpX12_leadsOn k 2 t li lj Q → wpX12_leadsOn k 2 t li lj (fun r t => Q r t ∧ G t)) := by
  intro k
  induction k with
  | zero => exact ⟨fun _ _ _ _ hR => False.elim hR, fun _ _ _ _ hR => False.elim hR, fun _ _ _ _ hR => False.elim hR⟩
  | succ k ih =>
    refine ⟨?_, ?_, ?_⟩
    · intro t li lj g hR
      have hR : wbX12_leadsOn_0 (wpX12_leadsOn k) k t li lj Q := hR
      show wbX12_leadsOn_0 (wpX12_leadsOn k) k t li lj (fun r t => Q r t ∧ G t)
      unfold wbX12_leadsOn_0 at hR ⊢
      exact ih.2.1 _ _ _ g hR
    · intro t li lj g hR
      have hR : wbX12_leadsOn_1 (wpX12_leadsOn k) k t li lj Q := hR
      show wbX12_leadsOn_1 (wpX12_leadsOn k) k t li lj (fun r t => Q r t ∧ G t)
      unfold wbX12_leadsOn_1 at hR ⊢
      exact ⟨fun c1 => ⟨(hR.1 c1), g⟩, fun c2 => ⟨fun c3 => ih.2.2 _ _ _ g ((hR.2 c2).1 c3), fun c4 => ⟨((hR.2 c2).2 c4).1, fun x5 e5 => ⟨fun c6 => ih.2.2 _ _ _ g ((((hR.2 c2).2 c4).2 x5 e5).1 c6), fun c7 => ⟨((((hR.2 c2).2 c4).2 x5 e5).2 c7).1, fun x8 e8 => qtX12_isFace hk g (((((hR.2 c2).2 c4).2 x5 e5).2 c7).2 x8 e8) (fun y9_0 y9_1 h9 g9 => ⟨fun c10 => ih.2.2 _ _ _ g9 (h9.1 c10), fun c11 => ⟨(h9.2 c11), g9⟩⟩)⟩⟩⟩⟩⟩
    · intro t li lj g hR
      have hR : wbX12_leadsOn_2 (wpX12_leadsOn k) k t li lj Q := hR
      show wbX12_leadsOn_2 (wpX12_leadsOn k) k t li lj (fun r t => Q r t ∧ G t)
      unfold wbX12_leadsOn_2 at hR ⊢
      exact fun x1 e1 => ih.2.1 _ _ _ g (hR x1 e1)
theorem qgX12_leadsOn {G : XT → Prop} {k : Nat} {t : XT} {a1 : Int32} {Q : Int32 → XT → Prop} (hk : kpQ G) (g : G t) (hR : wqX12_leadsOn k t a1 Q) : wqX12_leadsOn k t a1 (fun r t => Q r t ∧ G t) := (qfX12_leadsOn hk Q k).1 t _ _ g hR
theorem qtX12_leadsOn {G : XT → Prop} {k : Nat} {t : XT} {a1 : Int32} {Q Q' : Int32 → XT → Prop} (hk : kpQ G) (g : G t) (hR : wqX12_leadsOn k t a1 Q) (hQ : (∀ r t, Q r t → G t → Q' r t)) : wqX12_leadsOn k t a1 Q' := wmX12_leadsOn (Nat.le_refl k) (fun r t h => hQ r t h.1 h.2) (qgX12_leadsOn hk g hR)
set_option maxHeartbeats 4000000 in
set_option maxRecDepth 100000 in
theorem qfX12_isAcyclic {G : XT → Prop} (hk : kpQ G) (Q : Int32 → XT → Prop) : ∀ k : Nat, (∀ (t : XT) (li : Nat → Int32) (lj : Nat → Int64), G t → wpX12_isAcyclic k 0 t li lj Q → wpX12_isAcyclic k 0 t li lj (fun r t => Q r t ∧ G t)) ∧ (∀ (t : XT) (li : Nat → Int32) (lj : Nat → Int64), G t → wpX12_isAcyclic k 1 t li lj Q → wpX12_isAcyclic k 1 t li lj (fun r t => Q r t ∧ G t)) ∧ (∀ (t : XT) (li : Nat → Int32) (lj : Nat → Int64), G t → wpX12_isAcyclic k 2 t li lj Q → wpX12_isAcyclic k 2 t li lj (fun r t => Q r t ∧ G t)) ∧ (∀ (t : XT) (li : Nat → Int32) (lj : Nat → Int64), G t → wpX12_isAcyclic k 3 t li lj Q → wpX12_isAcyclic k 3 t li lj (fun r t => Q r t ∧ G t)) ∧ (∀ (t : XT) (li : Nat → Int32) (lj : Nat → Int64), G t → wpX12_isAcyclic k 4 t li lj Q → wpX12_isAcyclic k 4 t li lj (fun r t => Q r t ∧ G t)) ∧ (∀ (t : XT) (li : Nat → Int32) (lj : Nat → Int64), G t → wpX12_isAcyclic k 5 t li lj Q → wpX12_isAcyclic k 5 t li lj (fun r t => Q r t ∧ G t)) := by
  intro k
  induction k with
  | zero => exact ⟨fun _ _ _ _ hR => False.elim hR, fun _ _ _ _ hR => False.elim hR, fun _ _ _ _ hR => False.elim hR, fun _ _ _ _ hR => False.elim hR, fun _ _ _ _ hR => False.elim hR, fun _ _ _ _ hR => False.elim hR⟩
  | succ k ih =>
    refine ⟨?_, ?_, ?_, ?_, ?_, ?_⟩
    · intro t li lj g hR
      have hR : wbX12_isAcyclic_0 (wpX12_isAcyclic k) k t li lj Q := hR
      show wbX12_isAcyclic_0 (wpX12_isAcyclic k) k t li lj (fun r t => Q r t ∧ G t)
      unfold wbX12_isAcyclic_0 at hR ⊢
      exact ih.2.1 _ _ _ g hR
    · intro t li lj g hR
      have hR : wbX12_isAcyclic_1 (wpX12_isAcyclic k) k t li lj Q := hR
      show wbX12_isAcyclic_1 (wpX12_isAcyclic k) k t li lj (fun r t => Q r t ∧ G t)
      unfold wbX12_isAcyclic_1 at hR ⊢
      exact ⟨fun c1 => ih.2.2.1 _ _ _ g (hR.1 c1), fun c2 => qtX12_isLower hk g (hR.2 c2) (fun y3_0 y3_1 h3 g3 => wcX12_truth h3 (fun y4_0 h4 => ⟨h4.1, fun x5 e5 => have g5 : G x5 := (by rw [e5]; exact hk.2.2.1 _ _ _ (by decide) (by decide) (by decide) (by decide) (by decide) g3); fun x6 e6 => ih.2.1 _ _ _ g5 ((h4.2 x5 e5) x6 e6)⟩))⟩
    · intro t li lj g hR
      have hR : wbX12_isAcyclic_2 (wpX12_isAcyclic k) k t li lj Q := hR
      show wbX12_isAcyclic_2 (wpX12_isAcyclic k) k t li lj (fun r t => Q r t ∧ G t)
      unfold wbX12_isAcyclic_2 at hR ⊢
      exact ⟨fun c1 => ih.2.2.2.2.2 _ _ _ g (hR.1 c1), fun c2 => ih.2.2.2.1 _ _ _ g (hR.2 c2)⟩
    · intro t li lj g hR
      have hR : wbX12_isAcyclic_3 (wpX12_isAcyclic k) k t li lj Q := hR
      show wbX12_isAcyclic_3 (wpX12_isAcyclic k) k t li lj (fun r t => Q r t ∧ G t)
      unfold wbX12_isAcyclic_3 at hR ⊢
      exact ⟨fun c1 => ih.2.2.1 _ _ _ g (hR.1 c1), fun c2 => ⟨(hR.2 c2).1, fun x3 e3 => ⟨fun c4 => ih.2.2.2.2.1 _ _ _ g (((hR.2 c2).2 x3 e3).1 c4), fun c5 => qtX12_leadsOn hk g (((hR.2 c2).2 x3 e3).2 c5) (fun y6_0 y6_1 h6 g6 => ⟨fun c7 => ih.2.2.2.2.1 _ _ _ g6 (h6.1 c7), fun c8 => ⟨(h6.2 c8).1, fun x9 e9 => have g9 : G x9 := (by rw [e9]; exact hk.2.2.1 _ _ _ (by decide) (by decide) (by decide) (by decide) (by decide) g6); ih.2.2.2.2.1 _ _ _ g9 ((h6.2 c8).2 x9 e9)⟩⟩)⟩⟩⟩
    · intro t li lj g hR
      have hR : wbX12_isAcyclic_4 (wpX12_isAcyclic k) k t li lj Q := hR
      show wbX12_isAcyclic_4 (wpX12_isAcyclic k) k t li lj (fun r t => Q r t ∧ G t)
      unfold wbX12_isAcyclic_4 at hR ⊢
      exact fun x1 e1 => ih.2.2.2.1 _ _ _ g (hR x1 e1)
    · intro t li lj g hR
      have hR : wbX12_isAcyclic_5 (wpX12_isAcyclic k) k t li lj Q := hR
      show wbX12_isAcyclic_5 (wpX12_isAcyclic k) k t li lj (fun r t => Q r t ∧ G t)
      unfold wbX12_isAcyclic_5 at hR ⊢
      exact ⟨fun c1 => ⟨(hR.1 c1), g⟩, fun c2 => ⟨(hR.2 c2).1, fun x3 e3 => ⟨fun c4 => fun x5 e5 => ih.2.2.2.2.2 _ _ _ g ((((hR.2 c2).2 x3 e3).1 c4) x5 e5), fun c6 => ⟨(((hR.2 c2).2 x3 e3).2 c6), g⟩⟩⟩⟩
theorem qgX12_isAcyclic {G : XT → Prop} {k : Nat} {t : XT}  {Q : Int32 → XT → Prop} (hk : kpQ G) (g : G t) (hR : wqX12_isAcyclic k t  Q) : wqX12_isAcyclic k t  (fun r t => Q r t ∧ G t) := (qfX12_isAcyclic hk Q k).1 t _ _ g hR
theorem qtX12_isAcyclic {G : XT → Prop} {k : Nat} {t : XT}  {Q Q' : Int32 → XT → Prop} (hk : kpQ G) (g : G t) (hR : wqX12_isAcyclic k t  Q) (hQ : (∀ r t, Q r t → G t → Q' r t)) : wqX12_isAcyclic k t  Q' := wmX12_isAcyclic (Nat.le_refl k) (fun r t h => hQ r t h.1 h.2) (qgX12_isAcyclic hk g hR)
set_option maxHeartbeats 4000000 in
set_option maxRecDepth 100000 in
theorem qfX12_isCritical {G : XT → Prop} (hk : kpQ G) (Q : Int32 → XT → Prop) : ∀ k : Nat, (∀ (t : XT) (li : Nat → Int32) (lj : Nat → Int64), G t → wpX12_isCritical k 0 t li lj Q → wpX12_isCritical k 0 t li lj (fun r t => Q r t ∧ G t)) ∧ (∀ (t : XT) (li : Nat → Int32) (lj : Nat → Int64), G t → wpX12_isCritical k 1 t li lj Q → wpX12_isCritical k 1 t li lj (fun r t => Q r t ∧ G t)) := by
  intro k
  induction k with
  | zero => exact ⟨fun _ _ _ _ hR => False.elim hR, fun _ _ _ _ hR => False.elim hR⟩
  | succ k ih =>
    refine ⟨?_, ?_⟩
    · intro t li lj g hR
      have hR : wbX12_isCritical_0 (wpX12_isCritical k) k t li lj Q := hR
      show wbX12_isCritical_0 (wpX12_isCritical k) k t li lj (fun r t => Q r t ∧ G t)
      unfold wbX12_isCritical_0 at hR ⊢
      exact qtX12_isThere hk g hR (fun y1_0 y1_1 h1 g1 => ⟨fun c2 => ih.2 _ _ _ g1 (h1.1 c2), fun c3 => ⟨(h1.2 c3).1, fun x4 e4 => ⟨fun c5 => ih.2 _ _ _ g1 (((h1.2 c3).2 x4 e4).1 c5), fun c6 => ⟨(((h1.2 c3).2 x4 e4).2 c6), g1⟩⟩⟩⟩)
    · intro t li lj g hR
      have hR : wbX12_isCritical_1 (wpX12_isCritical k) k t li lj Q := hR
      show wbX12_isCritical_1 (wpX12_isCritical k) k t li lj (fun r t => Q r t ∧ G t)
      unfold wbX12_isCritical_1 at hR ⊢
      exact ⟨hR, g⟩
theorem qgX12_isCritical {G : XT → Prop} {k : Nat} {t : XT} {a1 : Int32} {Q : Int32 → XT → Prop} (hk : kpQ G) (g : G t) (hR : wqX12_isCritical k t a1 Q) : wqX12_isCritical k t a1 (fun r t => Q r t ∧ G t) := (qfX12_isCritical hk Q k).1 t _ _ g hR
theorem qtX12_isCritical {G : XT → Prop} {k : Nat} {t : XT} {a1 : Int32} {Q Q' : Int32 → XT → Prop} (hk : kpQ G) (g : G t) (hR : wqX12_isCritical k t a1 Q) (hQ : (∀ r t, Q r t → G t → Q' r t)) : wqX12_isCritical k t a1 Q' := wmX12_isCritical (Nat.le_refl k) (fun r t h => hQ r t h.1 h.2) (qgX12_isCritical hk g hR)
set_option maxHeartbeats 4000000 in
set_option maxRecDepth 100000 in
theorem qfX12_criticalMany {G : XT → Prop} (hk : kpQ G) (Q : Int32 → XT → Prop) : ∀ k : Nat, (∀ (t : XT) (li : Nat → Int32) (lj : Nat → Int64), G t → wpX12_criticalMany k 0 t li lj Q → wpX12_criticalMany k 0 t li lj (fun r t => Q r t ∧ G t)) ∧ (∀ (t : XT) (li : Nat → Int32) (lj : Nat → Int64), G t → wpX12_criticalMany k 1 t li lj Q → wpX12_criticalMany k 1 t li lj (fun r t => Q r t ∧ G t)) := by
  intro k
  induction k with
  | zero => exact ⟨fun _ _ _ _ hR => False.elim hR, fun _ _ _ _ hR => False.elim hR⟩
  | succ k ih =>
    refine ⟨?_, ?_⟩
    · intro t li lj g hR
      have hR : wbX12_criticalMany_0 (wpX12_criticalMany k) k t li lj Q := hR
      show wbX12_criticalMany_0 (wpX12_criticalMany k) k t li lj (fun r t => Q r t ∧ G t)
      unfold wbX12_criticalMany_0 at hR ⊢
      exact ih.2 _ _ _ g hR
    · intro t li lj g hR
      have hR : wbX12_criticalMany_1 (wpX12_criticalMany k) k t li lj Q := hR
      show wbX12_criticalMany_1 (wpX12_criticalMany k) k t li lj (fun r t => Q r t ∧ G t)
      unfold wbX12_criticalMany_1 at hR ⊢
      exact ⟨fun c1 => ⟨(hR.1 c1), g⟩, fun c2 => qtX12_isCritical hk g (hR.2 c2) (fun y3_0 y3_1 h3 g3 => wcX12_truth h3 (fun y4_0 h4 => fun x5 e5 => fun x6 e6 => ih.2 _ _ _ g3 ((h4 x5 e5) x6 e6)))⟩
theorem qgX12_criticalMany {G : XT → Prop} {k : Nat} {t : XT}  {Q : Int32 → XT → Prop} (hk : kpQ G) (g : G t) (hR : wqX12_criticalMany k t  Q) : wqX12_criticalMany k t  (fun r t => Q r t ∧ G t) := (qfX12_criticalMany hk Q k).1 t _ _ g hR
theorem qtX12_criticalMany {G : XT → Prop} {k : Nat} {t : XT}  {Q Q' : Int32 → XT → Prop} (hk : kpQ G) (g : G t) (hR : wqX12_criticalMany k t  Q) (hQ : (∀ r t, Q r t → G t → Q' r t)) : wqX12_criticalMany k t  Q' := wmX12_criticalMany (Nat.le_refl k) (fun r t h => hQ r t h.1 h.2) (qgX12_criticalMany hk g hR)
