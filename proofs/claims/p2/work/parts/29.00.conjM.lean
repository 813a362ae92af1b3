/-! ===== the reference: what two runs come to, one comes to ===== -/
set_option maxHeartbeats 4000000 in
set_option maxRecDepth 100000 in
theorem wkX12_putsj (Q R : XT → Prop) : ∀ k : Nat, (∀ (t : XT) (li : Nat → Int32) (lj : Nat → Int64), wpX12_puts k 0 t li lj Q → wpX12_puts k 0 t li lj R → wpX12_puts k 0 t li lj (fun t => Q t ∧ R t)) ∧ (∀ (t : XT) (li : Nat → Int32) (lj : Nat → Int64), wpX12_puts k 1 t li lj Q → wpX12_puts k 1 t li lj R → wpX12_puts k 1 t li lj (fun t => Q t ∧ R t)) := by
  intro k
  induction k with
  | zero => exact ⟨fun _ _ _ hR _ => False.elim hR, fun _ _ _ hR _ => False.elim hR⟩
  | succ k ih =>
    refine ⟨?_, ?_⟩
    · intro t li lj hQ hR
      have hQ : wbX12_puts_0 (wpX12_puts k) k t li lj Q := hQ
      have hR : wbX12_puts_0 (wpX12_puts k) k t li lj R := hR
      show wbX12_puts_0 (wpX12_puts k) k t li lj (fun t => Q t ∧ R t)
      unfold wbX12_puts_0 at hQ hR ⊢
      exact ih.2 _ _ _ hQ hR
    · intro t li lj hQ hR
      have hQ : wbX12_puts_1 (wpX12_puts k) k t li lj Q := hQ
      have hR : wbX12_puts_1 (wpX12_puts k) k t li lj R := hR
      show wbX12_puts_1 (wpX12_puts k) k t li lj (fun t => Q t ∧ R t)
      unfold wbX12_puts_1 at hQ hR ⊢
      exact ⟨fun c1 => ⟨(hQ.1 c1), (hR.1 c1)⟩, fun c2 => fun x3 e3 => fun x4 e4 => ⟨(((hQ.2 c2) x3 e3) x4 e4).1, fun x5 e5 => fun x6 e6 => fun x7 e7 => fun x8 e8 => ih.2 _ _ _ (((((((hQ.2 c2) x3 e3) x4 e4).2 x5 e5) x6 e6) x7 e7) x8 e8) (((((((hR.2 c2) x3 e3) x4 e4).2 x5 e5) x6 e6) x7 e7) x8 e8)⟩⟩
theorem wjX12_puts {k : Nat} {t : XT} {a1 : Int32} {Q R : XT → Prop} (hQ : wqX12_puts k t a1 Q) (hR : wqX12_puts k t a1 R) : wqX12_puts k t a1 (fun t => Q t ∧ R t) := (wkX12_putsj Q R k).1 t _ _ hQ hR
theorem wiX12_puts {k : Nat} {t : XT} {a1 : Int32} {Q R S : XT → Prop} (hQ : wqX12_puts k t a1 Q) (hR : wqX12_puts k t a1 R) (f : ∀ t, Q t → R t → S t) : wqX12_puts k t a1 S := wmX12_puts (Nat.le_refl k) (fun t h => f t h.1 h.2) (wjX12_puts hQ hR)
set_option maxHeartbeats 4000000 in
set_option maxRecDepth 100000 in
theorem wkX12_feedj (Q R : Int32 → XT → Prop) : ∀ k : Nat, (∀ (t : XT) (li : Nat → Int32) (lj : Nat → Int64), wpX12_feed k 0 t li lj Q → wpX12_feed k 0 t li lj R → wpX12_feed k 0 t li lj (fun r t => Q r t ∧ R r t)) := by
  intro k
  induction k with
  | zero => exact fun _ _ _ hR _ => False.elim hR
  | succ k ih =>
    intro t li lj hQ hR
    have hQ : wbX12_feed_0 (wpX12_feed k) k t li lj Q := hQ
    have hR : wbX12_feed_0 (wpX12_feed k) k t li lj R := hR
    show wbX12_feed_0 (wpX12_feed k) k t li lj (fun r t => Q r t ∧ R r t)
    unfold wbX12_feed_0 at hQ hR ⊢
    exact fun x1 e1 => ⟨fun c2 => wiX12_puts ((hQ x1 e1).1 c2) ((hR x1 e1).1 c2) (fun y3_0 h3 i3 => wiX12_puts h3 i3 (fun y4_0 h4 i4 => wiX12_puts h4 i4 (fun y5_0 h5 i5 => wiX12_puts h5 i5 (fun y6_0 h6 i6 => wiX12_puts h6 i6 (fun y7_0 h7 i7 => ⟨h7, i7⟩))))), fun c8 => ⟨((hQ x1 e1).2 c8), ((hR x1 e1).2 c8)⟩⟩
theorem wjX12_feed {k : Nat} {t : XT} {a1 : Int32} {a2 : Int32} {a3 : Int32} {a4 : Int32} {a5 : Int32} {Q R : Int32 → XT → Prop} (hQ : wqX12_feed k t a1 a2 a3 a4 a5 Q) (hR : wqX12_feed k t a1 a2 a3 a4 a5 R) : wqX12_feed k t a1 a2 a3 a4 a5 (fun r t => Q r t ∧ R r t) := (wkX12_feedj Q R k) t _ _ hQ hR
theorem wiX12_feed {k : Nat} {t : XT} {a1 : Int32} {a2 : Int32} {a3 : Int32} {a4 : Int32} {a5 : Int32} {Q R S : Int32 → XT → Prop} (hQ : wqX12_feed k t a1 a2 a3 a4 a5 Q) (hR : wqX12_feed k t a1 a2 a3 a4 a5 R) (f : ∀ r t, Q r t → R r t → S r t) : wqX12_feed k t a1 a2 a3 a4 a5 S := wmX12_feed (Nat.le_refl k) (fun r t h => f r t h.1 h.2) (wjX12_feed hQ hR)
set_option maxHeartbeats 4000000 in
set_option maxRecDepth 100000 in
theorem wkX12_endj (Q R : Int32 → XT → Prop) : ∀ k : Nat, (∀ (t : XT) (li : Nat → Int32) (lj : Nat → Int64), wpX12_end k 0 t li lj Q → wpX12_end k 0 t li lj R → wpX12_end k 0 t li lj (fun r t => Q r t ∧ R r t)) ∧ (∀ (t : XT) (li : Nat → Int32) (lj : Nat → Int64), wpX12_end k 1 t li lj Q → wpX12_end k 1 t li lj R → wpX12_end k 1 t li lj (fun r t => Q r t ∧ R r t)) := by
  intro k
  induction k with
  | zero => exact ⟨fun _ _ _ hR _ => False.elim hR, fun _ _ _ hR _ => False.elim hR⟩
  | succ k ih =>
    refine ⟨?_, ?_⟩
    · intro t li lj hQ hR
      have hQ : wbX12_end_0 (wpX12_end k) k t li lj Q := hQ
      have hR : wbX12_end_0 (wpX12_end k) k t li lj R := hR
      show wbX12_end_0 (wpX12_end k) k t li lj (fun r t => Q r t ∧ R r t)
      unfold wbX12_end_0 at hQ hR ⊢
      exact ⟨fun c1 => ih.2 _ _ _ (hQ.1 c1) (hR.1 c1), fun c2 => ⟨fun c3 => fun x4 e4 => ⟨(((hQ.2 c2).1 c3) x4 e4), (((hR.2 c2).1 c3) x4 e4)⟩, fun c5 => ih.2 _ _ _ ((hQ.2 c2).2 c5) ((hR.2 c2).2 c5)⟩⟩
    · intro t li lj hQ hR
      have hQ : wbX12_end_1 (wpX12_end k) k t li lj Q := hQ
      have hR : wbX12_end_1 (wpX12_end k) k t li lj R := hR
      show wbX12_end_1 (wpX12_end k) k t li lj (fun r t => Q r t ∧ R r t)
      unfold wbX12_end_1 at hQ hR ⊢
      exact ⟨hQ, hR⟩
theorem wjX12_end {k : Nat} {t : XT} {a1 : Int32} {Q R : Int32 → XT → Prop} (hQ : wqX12_end k t a1 Q) (hR : wqX12_end k t a1 R) : wqX12_end k t a1 (fun r t => Q r t ∧ R r t) := (wkX12_endj Q R k).1 t _ _ hQ hR
theorem wiX12_end {k : Nat} {t : XT} {a1 : Int32} {Q R S : Int32 → XT → Prop} (hQ : wqX12_end k t a1 Q) (hR : wqX12_end k t a1 R) (f : ∀ r t, Q r t → R r t → S r t) : wqX12_end k t a1 S := wmX12_end (Nat.le_refl k) (fun r t h => f r t h.1 h.2) (wjX12_end hQ hR)
set_option maxHeartbeats 4000000 in
set_option maxRecDepth 100000 in
theorem wkX12_isRightj (Q R : Int32 → XT → Prop) : ∀ k : Nat, (∀ (t : XT) (li : Nat → Int32) (lj : Nat → Int64), wpX12_isRight k 0 t li lj Q → wpX12_isRight k 0 t li lj R → wpX12_isRight k 0 t li lj (fun r t => Q r t ∧ R r t)) := by
  intro k
  induction k with
  | zero => exact fun _ _ _ hR _ => False.elim hR
  | succ k ih =>
    intro t li lj hQ hR
    have hQ : wbX12_isRight_0 (wpX12_isRight k) k t li lj Q := hQ
    have hR : wbX12_isRight_0 (wpX12_isRight k) k t li lj R := hR
    show wbX12_isRight_0 (wpX12_isRight k) k t li lj (fun r t => Q r t ∧ R r t)
    unfold wbX12_isRight_0 at hQ hR ⊢
    exact ⟨fun c1 => ⟨(hQ.1 c1), (hR.1 c1)⟩, fun c2 => ⟨(hQ.2 c2), (hR.2 c2)⟩⟩
theorem wjX12_isRight {k : Nat} {t : XT}  {Q R : Int32 → XT → Prop} (hQ : wqX12_isRight k t  Q) (hR : wqX12_isRight k t  R) : wqX12_isRight k t  (fun r t => Q r t ∧ R r t) := (wkX12_isRightj Q R k) t _ _ hQ hR
theorem wiX12_isRight {k : Nat} {t : XT}  {Q R S : Int32 → XT → Prop} (hQ : wqX12_isRight k t  Q) (hR : wqX12_isRight k t  R) (f : ∀ r t, Q r t → R r t → S r t) : wqX12_isRight k t  S := wmX12_isRight (Nat.le_refl k) (fun r t h => f r t h.1 h.2) (wjX12_isRight hQ hR)
set_option maxHeartbeats 4000000 in
set_option maxRecDepth 100000 in
theorem wkX12_byteNowj (Q R : Int32 → XT → Prop) : ∀ k : Nat, (∀ (t : XT) (li : Nat → Int32) (lj : Nat → Int64), wpX12_byteNow k 0 t li lj Q → wpX12_byteNow k 0 t li lj R → wpX12_byteNow k 0 t li lj (fun r t => Q r t ∧ R r t)) := by
  intro k
  induction k with
  | zero => exact fun _ _ _ hR _ => False.elim hR
  | succ k ih =>
    intro t li lj hQ hR
    have hQ : wbX12_byteNow_0 (wpX12_byteNow k) k t li lj Q := hQ
    have hR : wbX12_byteNow_0 (wpX12_byteNow k) k t li lj R := hR
    show wbX12_byteNow_0 (wpX12_byteNow k) k t li lj (fun r t => Q r t ∧ R r t)
    unfold wbX12_byteNow_0 at hQ hR ⊢
    exact ⟨fun c1 => ⟨(hQ.1 c1), (hR.1 c1)⟩, fun c2 => ⟨(hQ.2 c2).1, fun x3 e3 => fun x4 e4 => ⟨(((hQ.2 c2).2 x3 e3) x4 e4), (((hR.2 c2).2 x3 e3) x4 e4)⟩⟩⟩
theorem wjX12_byteNow {k : Nat} {t : XT}  {Q R : Int32 → XT → Prop} (hQ : wqX12_byteNow k t  Q) (hR : wqX12_byteNow k t  R) : wqX12_byteNow k t  (fun r t => Q r t ∧ R r t) := (wkX12_byteNowj Q R k) t _ _ hQ hR
theorem wiX12_byteNow {k : Nat} {t : XT}  {Q R S : Int32 → XT → Prop} (hQ : wqX12_byteNow k t  Q) (hR : wqX12_byteNow k t  R) (f : ∀ r t, Q r t → R r t → S r t) : wqX12_byteNow k t  S := wmX12_byteNow (Nat.le_refl k) (fun r t h => f r t h.1 h.2) (wjX12_byteNow hQ hR)
set_option maxHeartbeats 4000000 in
set_option maxRecDepth 100000 in
theorem wkX12_failsj (Q R : XT → Prop) : ∀ k : Nat, (∀ (t : XT) (li : Nat → Int32) (lj : Nat → Int64), wpX12_fails k 0 t li lj Q → wpX12_fails k 0 t li lj R → wpX12_fails k 0 t li lj (fun t => Q t ∧ R t)) := by
  intro k
  induction k with
  | zero => exact fun _ _ _ hR _ => False.elim hR
  | succ k ih =>
    intro t li lj hQ hR
    have hQ : wbX12_fails_0 (wpX12_fails k) k t li lj Q := hQ
    have hR : wbX12_fails_0 (wpX12_fails k) k t li lj R := hR
    show wbX12_fails_0 (wpX12_fails k) k t li lj (fun t => Q t ∧ R t)
    unfold wbX12_fails_0 at hQ hR ⊢
    exact ⟨fun c1 => ⟨(hQ.1 c1), (hR.1 c1)⟩, fun c2 => fun x3 e3 => fun x4 e4 => fun x5 e5 => ⟨((((hQ.2 c2) x3 e3) x4 e4) x5 e5), ((((hR.2 c2) x3 e3) x4 e4) x5 e5)⟩⟩
theorem wjX12_fails {k : Nat} {t : XT} {a1 : Int32} {a2 : Int32} {Q R : XT → Prop} (hQ : wqX12_fails k t a1 a2 Q) (hR : wqX12_fails k t a1 a2 R) : wqX12_fails k t a1 a2 (fun t => Q t ∧ R t) := (wkX12_failsj Q R k) t _ _ hQ hR
theorem wiX12_fails {k : Nat} {t : XT} {a1 : Int32} {a2 : Int32} {Q R S : XT → Prop} (hQ : wqX12_fails k t a1 a2 Q) (hR : wqX12_fails k t a1 a2 R) (f : ∀ t, Q t → R t → S t) : wqX12_fails k t a1 a2 S := wmX12_fails (Nat.le_refl k) (fun t h => f t h.1 h.2) (wjX12_fails hQ hR)
set_option maxHeartbeats 4000000 in
set_option maxRecDepth 100000 in
theorem wkX12_blanksj (Q R : XT → Prop) : ∀ k : Nat, (∀ (t : XT) (li : Nat → Int32) (lj : Nat → Int64), wpX12_blanks k 0 t li lj Q → wpX12_blanks k 0 t li lj R → wpX12_blanks k 0 t li lj (fun t => Q t ∧ R t)) := by
  intro k
  induction k with
  | zero => exact fun _ _ _ hR _ => False.elim hR
  | succ k ih =>
    intro t li lj hQ hR
    have hQ : wbX12_blanks_0 (wpX12_blanks k) k t li lj Q := hQ
    have hR : wbX12_blanks_0 (wpX12_blanks k) k t li lj R := hR
    show wbX12_blanks_0 (wpX12_blanks k) k t li lj (fun t => Q t ∧ R t)
    unfold wbX12_blanks_0 at hQ hR ⊢
    exact wiX12_byteNow hQ hR (fun y1_0 y1_1 h1 i1 => ⟨fun c2 => ⟨(h1.1 c2), (i1.1 c2)⟩, fun c3 => fun x4 e4 => fun x5 e5 => ih _ _ _ (((h1.2 c3) x4 e4) x5 e5) (((i1.2 c3) x4 e4) x5 e5)⟩)
theorem wjX12_blanks {k : Nat} {t : XT}  {Q R : XT → Prop} (hQ : wqX12_blanks k t  Q) (hR : wqX12_blanks k t  R) : wqX12_blanks k t  (fun t => Q t ∧ R t) := (wkX12_blanksj Q R k) t _ _ hQ hR
theorem wiX12_blanks {k : Nat} {t : XT}  {Q R S : XT → Prop} (hQ : wqX12_blanks k t  Q) (hR : wqX12_blanks k t  R) (f : ∀ t, Q t → R t → S t) : wqX12_blanks k t  S := wmX12_blanks (Nat.le_refl k) (fun t h => f t h.1 h.2) (wjX12_blanks hQ hR)
set_option maxHeartbeats 4000000 in
set_option maxRecDepth 100000 in
theorem wkX12_inj (Q R : Int32 → Prop) : ∀ k : Nat, (∀ (li : Nat → Int32) (lj : Nat → Int64), wpX12_in k 0 li lj Q → wpX12_in k 0 li lj R → wpX12_in k 0 li lj (fun r => Q r ∧ R r)) ∧ (∀ (li : Nat → Int32) (lj : Nat → Int64), wpX12_in k 1 li lj Q → wpX12_in k 1 li lj R → wpX12_in k 1 li lj (fun r => Q r ∧ R r)) := by
  intro k
  induction k with
  | zero => exact ⟨fun _ _ hR _ => False.elim hR, fun _ _ hR _ => False.elim hR⟩
  | succ k ih =>
    refine ⟨?_, ?_⟩
    · intro li lj hQ hR
      have hQ : wbX12_in_0 (wpX12_in k) k li lj Q := hQ
      have hR : wbX12_in_0 (wpX12_in k) k li lj R := hR
      show wbX12_in_0 (wpX12_in k) k li lj (fun r => Q r ∧ R r)
      unfold wbX12_in_0 at hQ hR ⊢
      exact ⟨fun c1 => ih.2 _ _ (hQ.1 c1) (hR.1 c1), fun c2 => ⟨fun c3 => ih.2 _ _ ((hQ.2 c2).1 c3) ((hR.2 c2).1 c3), fun c4 => ⟨((hQ.2 c2).2 c4), ((hR.2 c2).2 c4)⟩⟩⟩
    · intro li lj hQ hR
      have hQ : wbX12_in_1 (wpX12_in k) k li lj Q := hQ
      have hR : wbX12_in_1 (wpX12_in k) k li lj R := hR
      show wbX12_in_1 (wpX12_in k) k li lj (fun r => Q r ∧ R r)
      unfold wbX12_in_1 at hQ hR ⊢
      exact ⟨hQ, hR⟩
theorem wjX12_in {k : Nat} {a0 : Int32} {a1 : Int32} {a2 : Int32} {Q R : Int32 → Prop} (hQ : wqX12_in k a0 a1 a2 Q) (hR : wqX12_in k a0 a1 a2 R) : wqX12_in k a0 a1 a2 (fun r => Q r ∧ R r) := (wkX12_inj Q R k).1 _ _ hQ hR
theorem wiX12_in {k : Nat} {a0 : Int32} {a1 : Int32} {a2 : Int32} {Q R S : Int32 → Prop} (hQ : wqX12_in k a0 a1 a2 Q) (hR : wqX12_in k a0 a1 a2 R) (f : ∀ r, Q r → R r → S r) : wqX12_in k a0 a1 a2 S := wmX12_in (Nat.le_refl k) (fun r h => f r h.1 h.2) (wjX12_in hQ hR)
set_option maxHeartbeats 4000000 in
set_option maxRecDepth 100000 in
theorem wkX12_isLetterj (Q R : Int32 → XT → Prop) : ∀ k : Nat, (∀ (t : XT) (li : Nat → Int32) (lj : Nat → Int64), wpX12_isLetter k 0 t li lj Q → wpX12_isLetter k 0 t li lj R → wpX12_isLetter k 0 t li lj (fun r t => Q r t ∧ R r t)) := by
  intro k
  induction k with
  | zero => exact fun _ _ _ hR _ => False.elim hR
  | succ k ih =>
    intro t li lj hQ hR
    have hQ : wbX12_isLetter_0 (wpX12_isLetter k) k t li lj Q := hQ
    have hR : wbX12_isLetter_0 (wpX12_isLetter k) k t li lj R := hR
    show wbX12_isLetter_0 (wpX12_isLetter k) k t li lj (fun r t => Q r t ∧ R r t)
    unfold wbX12_isLetter_0 at hQ hR ⊢
    exact wiX12_byteNow hQ hR (fun y1_0 y1_1 h1 i1 => wiX12_in h1 i1 (fun y2_0 h2 i2 => ⟨h2.1, ⟨h2.2, i2.2⟩⟩))
theorem wjX12_isLetter {k : Nat} {t : XT}  {Q R : Int32 → XT → Prop} (hQ : wqX12_isLetter k t  Q) (hR : wqX12_isLetter k t  R) : wqX12_isLetter k t  (fun r t => Q r t ∧ R r t) := (wkX12_isLetterj Q R k) t _ _ hQ hR
theorem wiX12_isLetter {k : Nat} {t : XT}  {Q R S : Int32 → XT → Prop} (hQ : wqX12_isLetter k t  Q) (hR : wqX12_isLetter k t  R) (f : ∀ r t, Q r t → R r t → S r t) : wqX12_isLetter k t  S := wmX12_isLetter (Nat.le_refl k) (fun r t h => f r t h.1 h.2) (wjX12_isLetter hQ hR)
set_option maxHeartbeats 4000000 in
set_option maxRecDepth 100000 in
theorem wkX12_takesSetsj (Q R : XT → Prop) : ∀ k : Nat, (∀ (t : XT) (li : Nat → Int32) (lj : Nat → Int64), wpX12_takesSets k 0 t li lj Q → wpX12_takesSets k 0 t li lj R → wpX12_takesSets k 0 t li lj (fun t => Q t ∧ R t)) ∧ (∀ (t : XT) (li : Nat → Int32) (lj : Nat → Int64), wpX12_takesSets k 1 t li lj Q → wpX12_takesSets k 1 t li lj R → wpX12_takesSets k 1 t li lj (fun t => Q t ∧ R t)) ∧ (∀ (t : XT) (li : Nat → Int32) (lj : Nat → Int64), wpX12_takesSets k 2 t li lj Q → wpX12_takesSets k 2 t li lj R → wpX12_takesSets k 2 t li lj (fun t => Q t ∧ R t)) := by
  intro k
  induction k with
  | zero => exact ⟨fun _ _ _ hR _ => False.elim hR, fun _ _ _ hR _ => False.elim hR, fun _ _ _ hR _ => False.elim hR⟩
  | succ k ih =>
    refine ⟨?_, ?_, ?_⟩
    · intro t li lj hQ hR
      have hQ : wbX12_takesSets_0 (wpX12_takesSets k) k t li lj Q := hQ
      have hR : wbX12_takesSets_0 (wpX12_takesSets k) k t li lj R := hR
      show wbX12_takesSets_0 (wpX12_takesSets k) k t li lj (fun t => Q t ∧ R t)
      unfold wbX12_takesSets_0 at hQ hR ⊢
      exact ih.2.1 _ _ _ hQ hR
    · intro t li lj hQ hR
      have hQ : wbX12_takesSets_1 (wpX12_takesSets k) k t li lj Q := hQ
      have hR : wbX12_takesSets_1 (wpX12_takesSets k) k t li lj R := hR
      show wbX12_takesSets_1 (wpX12_takesSets k) k t li lj (fun t => Q t ∧ R t)
      unfold wbX12_takesSets_1 at hQ hR ⊢
      exact ⟨fun c1 => ⟨(hQ.1 c1), (hR.1 c1)⟩, fun c2 => fun x3 e3 => fun x4 e4 => ⟨fun c5 => ih.2.2 _ _ _ ((((hQ.2 c2) x3 e3) x4 e4).1 c5) ((((hR.2 c2) x3 e3) x4 e4).1 c5), fun c6 => ⟨((((hQ.2 c2) x3 e3) x4 e4).2 c6).1, fun x7 e7 => ih.2.2 _ _ _ (((((hQ.2 c2) x3 e3) x4 e4).2 c6).2 x7 e7) (((((hR.2 c2) x3 e3) x4 e4).2 c6).2 x7 e7)⟩⟩⟩
    · intro t li lj hQ hR
      have hQ : wbX12_takesSets_2 (wpX12_takesSets k) k t li lj Q := hQ
      have hR : wbX12_takesSets_2 (wpX12_takesSets k) k t li lj R := hR
      show wbX12_takesSets_2 (wpX12_takesSets k) k t li lj (fun t => Q t ∧ R t)
      unfold wbX12_takesSets_2 at hQ hR ⊢
      exact fun x1 e1 => ih.2.1 _ _ _ (hQ x1 e1) (hR x1 e1)
theorem wjX12_takesSets {k : Nat} {t : XT} {a1 : Int32} {Q R : XT → Prop} (hQ : wqX12_takesSets k t a1 Q) (hR : wqX12_takesSets k t a1 R) : wqX12_takesSets k t a1 (fun t => Q t ∧ R t) := (wkX12_takesSetsj Q R k).1 t _ _ hQ hR
theorem wiX12_takesSets {k : Nat} {t : XT} {a1 : Int32} {Q R S : XT → Prop} (hQ : wqX12_takesSets k t a1 Q) (hR : wqX12_takesSets k t a1 R) (f : ∀ t, Q t → R t → S t) : wqX12_takesSets k t a1 S := wmX12_takesSets (Nat.le_refl k) (fun t h => f t h.1 h.2) (wjX12_takesSets hQ hR)
set_option maxHeartbeats 4000000 in
set_option maxRecDepth 100000 in
theorem wkX12_truthj (Q R : Int32 → Prop) : ∀ k : Nat, (∀ (li : Nat → Int32) (lj : Nat → Int64), wpX12_truth k 0 li lj Q → wpX12_truth k 0 li lj R → wpX12_truth k 0 li lj (fun r => Q r ∧ R r)) := by
  intro k
  induction k with
  | zero => exact fun _ _ hR _ => False.elim hR
  | succ k ih =>
    intro li lj hQ hR
    have hQ : wbX12_truth_0 (wpX12_truth k) k li lj Q := hQ
    have hR : wbX12_truth_0 (wpX12_truth k) k li lj R := hR
    show wbX12_truth_0 (wpX12_truth k) k li lj (fun r => Q r ∧ R r)
    unfold wbX12_truth_0 at hQ hR ⊢
    exact ⟨fun c1 => ⟨(hQ.1 c1), (hR.1 c1)⟩, fun c2 => ⟨(hQ.2 c2), (hR.2 c2)⟩⟩
theorem wjX12_truth {k : Nat} {a0 : Int32} {Q R : Int32 → Prop} (hQ : wqX12_truth k a0 Q) (hR : wqX12_truth k a0 R) : wqX12_truth k a0 (fun r => Q r ∧ R r) := (wkX12_truthj Q R k) _ _ hQ hR
theorem wiX12_truth {k : Nat} {a0 : Int32} {Q R S : Int32 → Prop} (hQ : wqX12_truth k a0 Q) (hR : wqX12_truth k a0 R) (f : ∀ r, Q r → R r → S r) : wqX12_truth k a0 S := wmX12_truth (Nat.le_refl k) (fun r h => f r h.1 h.2) (wjX12_truth hQ hR)
set_option maxHeartbeats 4000000 in
set_option maxRecDepth 100000 in
theorem wkX12_toldManyj (Q R : Int32 → XT → Prop) : ∀ k : Nat, (∀ (t : XT) (li : Nat → Int32) (lj : Nat → Int64), wpX12_toldMany k 0 t li lj Q → wpX12_toldMany k 0 t li lj R → wpX12_toldMany k 0 t li lj (fun r t => Q r t ∧ R r t)) ∧ (∀ (t : XT) (li : Nat → Int32) (lj : Nat → Int64), wpX12_toldMany k 1 t li lj Q → wpX12_toldMany k 1 t li lj R → wpX12_toldMany k 1 t li lj (fun r t => Q r t ∧ R r t)) := by
  intro k
  induction k with
  | zero => exact ⟨fun _ _ _ hR _ => False.elim hR, fun _ _ _ hR _ => False.elim hR⟩
  | succ k ih =>
    refine ⟨?_, ?_⟩
    · intro t li lj hQ hR
      have hQ : wbX12_toldMany_0 (wpX12_toldMany k) k t li lj Q := hQ
      have hR : wbX12_toldMany_0 (wpX12_toldMany k) k t li lj R := hR
      show wbX12_toldMany_0 (wpX12_toldMany k) k t li lj (fun r t => Q r t ∧ R r t)
      unfold wbX12_toldMany_0 at hQ hR ⊢
      exact ih.2 _ _ _ hQ hR
    · intro t li lj hQ hR
      have hQ : wbX12_toldMany_1 (wpX12_toldMany k) k t li lj Q := hQ
      have hR : wbX12_toldMany_1 (wpX12_toldMany k) k t li lj R := hR
      show wbX12_toldMany_1 (wpX12_toldMany k) k t li lj (fun r t => Q r t ∧ R r t)
      unfold wbX12_toldMany_1 at hQ hR ⊢
      exact ⟨fun c1 => ⟨(hQ.1 c1), (hR.1 c1)⟩, fun c2 => ⟨(hQ.2 c2).1, fun x3 e3 => wiX12_truth ((hQ.2 c2).2 x3 e3) ((hR.2 c2).2 x3 e3) (fun y4_0 h4 i4 => fun x5 e5 => fun x6 e6 => ih.2 _ _ _ ((h4 x5 e5) x6 e6) ((i4 x5 e5) x6 e6))⟩⟩
theorem wjX12_toldMany {k : Nat} {t : XT}  {Q R : Int32 → XT → Prop} (hQ : wqX12_toldMany k t  Q) (hR : wqX12_toldMany k t  R) : wqX12_toldMany k t  (fun r t => Q r t ∧ R r t) := (wkX12_toldManyj Q R k).1 t _ _ hQ hR
theorem wiX12_toldMany {k : Nat} {t : XT}  {Q R S : Int32 → XT → Prop} (hQ : wqX12_toldMany k t  Q) (hR : wqX12_toldMany k t  R) (f : ∀ r t, Q r t → R r t → S r t) : wqX12_toldMany k t  S := wmX12_toldMany (Nat.le_refl k) (fun r t h => f r t h.1 h.2) (wjX12_toldMany hQ hR)
set_option maxHeartbeats 4000000 in
set_option maxRecDepth 100000 in
theorem wkX12_readsFacetj (Q R : XT → Prop) : ∀ k : Nat, (∀ (t : XT) (li : Nat → Int32) (lj : Nat → Int64), wpX12_readsFacet k 0 t li lj Q → wpX12_readsFacet k 0 t li lj R → wpX12_readsFacet k 0 t li lj (fun t => Q t ∧ R t)) ∧ (∀ (t : XT) (li : Nat → Int32) (lj : Nat → Int64), wpX12_readsFacet k 1 t li lj Q → wpX12_readsFacet k 1 t li lj R → wpX12_readsFacet k 1 t li lj (fun t => Q t ∧ R t)) ∧ (∀ (t : XT) (li : Nat → Int32) (lj : Nat → Int64), wpX12_readsFacet k 2 t li lj Q → wpX12_readsFacet k 2 t li lj R → wpX12_readsFacet k 2 t li lj (fun t => Q t ∧ R t)) ∧ (∀ (t : XT) (li : Nat → Int32) (lj : Nat → Int64), wpX12_readsFacet k 3 t li lj Q → wpX12_readsFacet k 3 t li lj R → wpX12_readsFacet k 3 t li lj (fun t => Q t ∧ R t)) ∧ (∀ (t : XT) (li : Nat → Int32) (lj : Nat → Int64), wpX12_readsFacet k 4 t li lj Q → wpX12_readsFacet k 4 t li lj R → wpX12_readsFacet k 4 t li lj (fun t => Q t ∧ R t)) ∧ (∀ (t : XT) (li : Nat → Int32) (lj : Nat → Int64), wpX12_readsFacet k 5 t li lj Q → wpX12_readsFacet k 5 t li lj R → wpX12_readsFacet k 5 t li lj (fun t => Q t ∧ R t)) ∧ (∀ (t : XT) (li : Nat → Int32) (lj : Nat → Int64), wpX12_readsFacet k 6 t li lj Q → wpX12_readsFacet k 6 t li lj R → wpX12_readsFacet k 6 t li lj (fun t => Q t ∧ R t)) := by
  intro k
  induction k with
  | zero => exact ⟨fun _ _ _ hR _ => False.elim hR, fun _ _ _ hR _ => False.elim hR, fun _ _ _ hR _ => False.elim hR, fun _ _ _ hR _ => False.elim hR, fun _ _ _ hR _ => False.elim hR, fun _ _ _ hR _ => False.elim hR, fun _ _ _ hR _ => False.elim hR⟩
  | succ k ih =>
    refine ⟨?_, ?_, ?_, ?_, ?_, ?_, ?_⟩
    · intro t li lj hQ hR
      have hQ : wbX12_readsFacet_0 (wpX12_readsFacet k) k t li lj Q := hQ
      have hR : wbX12_readsFacet_0 (wpX12_readsFacet k) k t li lj R := hR
      show wbX12_readsFacet_0 (wpX12_readsFacet k) k t li lj (fun t => Q t ∧ R t)
      unfold wbX12_readsFacet_0 at hQ hR ⊢
      exact wiX12_blanks hQ hR (fun y1_0 h1 i1 => wiX12_isLetter h1 i1 (fun y2_0 y2_1 h2 i2 => ⟨fun c3 => ih.2.1 _ _ _ (h2.1 c3) (i2.1 c3), fun c4 => wiX12_fails (h2.2 c4) (i2.2 c4) (fun y5_0 h5 i5 => ih.2.1 _ _ _ h5 i5)⟩))
    · intro t li lj hQ hR
      have hQ : wbX12_readsFacet_1 (wpX12_readsFacet k) k t li lj Q := hQ
      have hR : wbX12_readsFacet_1 (wpX12_readsFacet k) k t li lj R := hR
      show wbX12_readsFacet_1 (wpX12_readsFacet k) k t li lj (fun t => Q t ∧ R t)
      unfold wbX12_readsFacet_1 at hQ hR ⊢
      exact ⟨fun c1 => ih.2.2.1 _ _ _ (hQ.1 c1) (hR.1 c1), fun c2 => wiX12_fails (hQ.2 c2) (hR.2 c2) (fun y3_0 h3 i3 => ih.2.2.1 _ _ _ h3 i3)⟩
    · intro t li lj hQ hR
      have hQ : wbX12_readsFacet_2 (wpX12_readsFacet k) k t li lj Q := hQ
      have hR : wbX12_readsFacet_2 (wpX12_readsFacet k) k t li lj R := hR
      show wbX12_readsFacet_2 (wpX12_readsFacet k) k t li lj (fun t => Q t ∧ R t)
      unfold wbX12_readsFacet_2 at hQ hR ⊢
      exact wiX12_isRight hQ hR (fun y1_0 y1_1 h1 i1 => ⟨fun c2 => ih.2.2.2.2.2.1 _ _ _ (h1.1 c2) (i1.1 c2), fun c3 => wiX12_isLetter (h1.2 c3) (i1.2 c3) (fun y4_0 y4_1 h4 i4 => ⟨fun c5 => ih.2.2.2.2.2.1 _ _ _ (h4.1 c5) (i4.1 c5), fun c6 => wiX12_byteNow (h4.2 c6) (i4.2 c6) (fun y7_0 y7_1 h7 i7 => fun x8 e8 => fun x9 e9 => fun x10 e10 => ⟨fun c11 => ih.2.2.2.1 _ _ _ ((((h7 x8 e8) x9 e9) x10 e10).1 c11) ((((i7 x8 e8) x9 e9) x10 e10).1 c11), fun c12 => wiX12_fails ((((h7 x8 e8) x9 e9) x10 e10).2 c12) ((((i7 x8 e8) x9 e9) x10 e10).2 c12) (fun y13_0 h13 i13 => ih.2.2.2.1 _ _ _ h13 i13)⟩)⟩)⟩)
    · intro t li lj hQ hR
      have hQ : wbX12_readsFacet_3 (wpX12_readsFacet k) k t li lj Q := hQ
      have hR : wbX12_readsFacet_3 (wpX12_readsFacet k) k t li lj R := hR
      show wbX12_readsFacet_3 (wpX12_readsFacet k) k t li lj (fun t => Q t ∧ R t)
      unfold wbX12_readsFacet_3 at hQ hR ⊢
      exact wiJ6_bitCount_0f7a4 hQ hR (fun y1_0 h1 i1 => ⟨fun c2 => ih.2.2.2.2.1 _ _ _ (h1.1 c2) (i1.1 c2), fun c3 => wiX12_fails (h1.2 c3) (i1.2 c3) (fun y4_0 h4 i4 => ih.2.2.2.2.1 _ _ _ h4 i4)⟩)
    · intro t li lj hQ hR
      have hQ : wbX12_readsFacet_4 (wpX12_readsFacet k) k t li lj Q := hQ
      have hR : wbX12_readsFacet_4 (wpX12_readsFacet k) k t li lj R := hR
      show wbX12_readsFacet_4 (wpX12_readsFacet k) k t li lj (fun t => Q t ∧ R t)
      unfold wbX12_readsFacet_4 at hQ hR ⊢
      exact fun x1 e1 => fun x2 e2 => fun x3 e3 => ih.2.2.1 _ _ _ (((hQ x1 e1) x2 e2) x3 e3) (((hR x1 e1) x2 e2) x3 e3)
    · intro t li lj hQ hR
      have hQ : wbX12_readsFacet_5 (wpX12_readsFacet k) k t li lj Q := hQ
      have hR : wbX12_readsFacet_5 (wpX12_readsFacet k) k t li lj R := hR
      show wbX12_readsFacet_5 (wpX12_readsFacet k) k t li lj (fun t => Q t ∧ R t)
      unfold wbX12_readsFacet_5 at hQ hR ⊢
      exact wiX12_isRight hQ hR (fun y1_0 y1_1 h1 i1 => ⟨fun c2 => ih.2.2.2.2.2.2 _ _ _ (h1.1 c2) (i1.1 c2), fun c3 => wiX12_takesSets (h1.2 c3) (i1.2 c3) (fun y4_0 h4 i4 => wiX12_toldMany h4 i4 (fun y5_0 y5_1 h5 i5 => ⟨fun c6 => ih.2.2.2.2.2.2 _ _ _ (h5.1 c6) (i5.1 c6), fun c7 => wiX12_fails (h5.2 c7) (i5.2 c7) (fun y8_0 h8 i8 => ih.2.2.2.2.2.2 _ _ _ h8 i8)⟩))⟩)
    · intro t li lj hQ hR
      have hQ : wbX12_readsFacet_6 (wpX12_readsFacet k) k t li lj Q := hQ
      have hR : wbX12_readsFacet_6 (wpX12_readsFacet k) k t li lj R := hR
      show wbX12_readsFacet_6 (wpX12_readsFacet k) k t li lj (fun t => Q t ∧ R t)
      unfold wbX12_readsFacet_6 at hQ hR ⊢
      exact wiX12_blanks hQ hR (fun y1_0 h1 i1 => ⟨h1, i1⟩)
theorem wjX12_readsFacet {k : Nat} {t : XT} {a1 : Int32} {Q R : XT → Prop} (hQ : wqX12_readsFacet k t a1 Q) (hR : wqX12_readsFacet k t a1 R) : wqX12_readsFacet k t a1 (fun t => Q t ∧ R t) := (wkX12_readsFacetj Q R k).1 t _ _ hQ hR
theorem wiX12_readsFacet {k : Nat} {t : XT} {a1 : Int32} {Q R S : XT → Prop} (hQ : wqX12_readsFacet k t a1 Q) (hR : wqX12_readsFacet k t a1 R) (f : ∀ t, Q t → R t → S t) : wqX12_readsFacet k t a1 S := wmX12_readsFacet (Nat.le_refl k) (fun t h => f t h.1 h.2) (wjX12_readsFacet hQ hR)
set_option maxHeartbeats 4000000 in
set_option maxRecDepth 100000 in
theorem wkX12_numbersj (Q R : XT → Prop) : ∀ k : Nat, (∀ (t : XT) (li : Nat → Int32) (lj : Nat → Int64), wpX12_numbers k 0 t li lj Q → wpX12_numbers k 0 t li lj R → wpX12_numbers k 0 t li lj (fun t => Q t ∧ R t)) ∧ (∀ (t : XT) (li : Nat → Int32) (lj : Nat → Int64), wpX12_numbers k 1 t li lj Q → wpX12_numbers k 1 t li lj R → wpX12_numbers k 1 t li lj (fun t => Q t ∧ R t)) ∧ (∀ (t : XT) (li : Nat → Int32) (lj : Nat → Int64), wpX12_numbers k 2 t li lj Q → wpX12_numbers k 2 t li lj R → wpX12_numbers k 2 t li lj (fun t => Q t ∧ R t)) ∧ (∀ (t : XT) (li : Nat → Int32) (lj : Nat → Int64), wpX12_numbers k 3 t li lj Q → wpX12_numbers k 3 t li lj R → wpX12_numbers k 3 t li lj (fun t => Q t ∧ R t)) ∧ (∀ (t : XT) (li : Nat → Int32) (lj : Nat → Int64), wpX12_numbers k 4 t li lj Q → wpX12_numbers k 4 t li lj R → wpX12_numbers k 4 t li lj (fun t => Q t ∧ R t)) ∧ (∀ (t : XT) (li : Nat → Int32) (lj : Nat → Int64), wpX12_numbers k 5 t li lj Q → wpX12_numbers k 5 t li lj R → wpX12_numbers k 5 t li lj (fun t => Q t ∧ R t)) ∧ (∀ (t : XT) (li : Nat → Int32) (lj : Nat → Int64), wpX12_numbers k 6 t li lj Q → wpX12_numbers k 6 t li lj R → wpX12_numbers k 6 t li lj (fun t => Q t ∧ R t)) := by
  intro k
  induction k with
  | zero => exact ⟨fun _ _ _ hR _ => False.elim hR, fun _ _ _ hR _ => False.elim hR, fun _ _ _ hR _ => False.elim hR, fun _ _ _ hR _ => False.elim hR, fun _ _ _ hR _ => False.elim hR, fun _ _ _ hR _ => False.elim hR, fun _ _ _ hR _ => False.elim hR⟩
  | succ k ih =>
    refine ⟨?_, ?_, ?_, ?_, ?_, ?_, ?_⟩
    · intro t li lj hQ hR
      have hQ : wbX12_numbers_0 (wpX12_numbers k) k t li lj Q := hQ
      have hR : wbX12_numbers_0 (wpX12_numbers k) k t li lj R := hR
      show wbX12_numbers_0 (wpX12_numbers k) k t li lj (fun t => Q t ∧ R t)
      unfold wbX12_numbers_0 at hQ hR ⊢
      exact fun x1 e1 => ih.2.1 _ _ _ (hQ x1 e1) (hR x1 e1)
    · intro t li lj hQ hR
      have hQ : wbX12_numbers_1 (wpX12_numbers k) k t li lj Q := hQ
      have hR : wbX12_numbers_1 (wpX12_numbers k) k t li lj R := hR
      show wbX12_numbers_1 (wpX12_numbers k) k t li lj (fun t => Q t ∧ R t)
      unfold wbX12_numbers_1 at hQ hR ⊢
      exact ⟨fun c1 => ih.2.2.2.2.1 _ _ _ (hQ.1 c1) (hR.1 c1), fun c2 => ih.2.2.1 _ _ _ (hQ.2 c2) (hR.2 c2)⟩
    · intro t li lj hQ hR
      have hQ : wbX12_numbers_2 (wpX12_numbers k) k t li lj Q := hQ
      have hR : wbX12_numbers_2 (wpX12_numbers k) k t li lj R := hR
      show wbX12_numbers_2 (wpX12_numbers k) k t li lj (fun t => Q t ∧ R t)
      unfold wbX12_numbers_2 at hQ hR ⊢
      exact ⟨fun c1 => fun x2 e2 => ih.2.1 _ _ _ ((hQ.1 c1) x2 e2) ((hR.1 c1) x2 e2), fun c3 => ⟨(hQ.2 c3).1, fun x4 e4 => ⟨fun c5 => ih.2.2.2.1 _ _ _ (((hQ.2 c3).2 x4 e4).1 c5) (((hR.2 c3).2 x4 e4).1 c5), fun c6 => wiJ6_bitCount_0f7a4 (((hQ.2 c3).2 x4 e4).2 c6) (((hR.2 c3).2 x4 e4).2 c6) (fun y7_0 h7 i7 => ⟨fun c8 => ih.2.2.2.1 _ _ _ (h7.1 c8) (i7.1 c8), fun c9 => ⟨(h7.2 c9).1, fun x10 e10 => fun x11 e11 => fun x12 e12 => ih.2.2.2.1 _ _ _ ((((h7.2 c9).2 x10 e10) x11 e11) x12 e12) ((((i7.2 c9).2 x10 e10) x11 e11) x12 e12)⟩⟩)⟩⟩⟩
    · intro t li lj hQ hR
      have hQ : wbX12_numbers_3 (wpX12_numbers k) k t li lj Q := hQ
      have hR : wbX12_numbers_3 (wpX12_numbers k) k t li lj R := hR
      show wbX12_numbers_3 (wpX12_numbers k) k t li lj (fun t => Q t ∧ R t)
      unfold wbX12_numbers_3 at hQ hR ⊢
      exact fun x1 e1 => ih.2.2.1 _ _ _ (hQ x1 e1) (hR x1 e1)
    · intro t li lj hQ hR
      have hQ : wbX12_numbers_4 (wpX12_numbers k) k t li lj Q := hQ
      have hR : wbX12_numbers_4 (wpX12_numbers k) k t li lj R := hR
      show wbX12_numbers_4 (wpX12_numbers k) k t li lj (fun t => Q t ∧ R t)
      unfold wbX12_numbers_4 at hQ hR ⊢
      exact ⟨fun c1 => ih.2.2.2.2.2.1 _ _ _ (hQ.1 c1) (hR.1 c1), fun c2 => ⟨(hQ.2 c2).1, fun x3 e3 => fun x4 e4 => ih.2.2.2.2.1 _ _ _ (((hQ.2 c2).2 x3 e3) x4 e4) (((hR.2 c2).2 x3 e3) x4 e4)⟩⟩
    · intro t li lj hQ hR
      have hQ : wbX12_numbers_5 (wpX12_numbers k) k t li lj Q := hQ
      have hR : wbX12_numbers_5 (wpX12_numbers k) k t li lj R := hR
      show wbX12_numbers_5 (wpX12_numbers k) k t li lj (fun t => Q t ∧ R t)
      unfold wbX12_numbers_5 at hQ hR ⊢
      exact ⟨fun c1 => ih.2.2.2.2.2.2 _ _ _ (hQ.1 c1) (hR.1 c1), fun c2 => ⟨(hQ.2 c2).1, fun x3 e3 => ⟨((hQ.2 c2).2 x3 e3).1, fun x4 e4 => ⟨(((hQ.2 c2).2 x3 e3).2 x4 e4).1, fun x5 e5 => ⟨((((hQ.2 c2).2 x3 e3).2 x4 e4).2 x5 e5).1, fun x6 e6 => fun x7 e7 => ih.2.2.2.2.2.1 _ _ _ ((((((hQ.2 c2).2 x3 e3).2 x4 e4).2 x5 e5).2 x6 e6) x7 e7) ((((((hR.2 c2).2 x3 e3).2 x4 e4).2 x5 e5).2 x6 e6) x7 e7)⟩⟩⟩⟩⟩
    · intro t li lj hQ hR
      have hQ : wbX12_numbers_6 (wpX12_numbers k) k t li lj Q := hQ
      have hR : wbX12_numbers_6 (wpX12_numbers k) k t li lj R := hR
      show wbX12_numbers_6 (wpX12_numbers k) k t li lj (fun t => Q t ∧ R t)
      unfold wbX12_numbers_6 at hQ hR ⊢
      exact ⟨fun c1 => fun x2 e2 => ⟨((hQ.1 c1) x2 e2), ((hR.1 c1) x2 e2)⟩, fun c3 => ⟨(hQ.2 c3).1, fun x4 e4 => fun x5 e5 => ih.2.2.2.2.2.2 _ _ _ (((hQ.2 c3).2 x4 e4) x5 e5) (((hR.2 c3).2 x4 e4) x5 e5)⟩⟩
theorem wjX12_numbers {k : Nat} {t : XT}  {Q R : XT → Prop} (hQ : wqX12_numbers k t  Q) (hR : wqX12_numbers k t  R) : wqX12_numbers k t  (fun t => Q t ∧ R t) := (wkX12_numbersj Q R k).1 t _ _ hQ hR
theorem wiX12_numbers {k : Nat} {t : XT}  {Q R S : XT → Prop} (hQ : wqX12_numbers k t  Q) (hR : wqX12_numbers k t  R) (f : ∀ t, Q t → R t → S t) : wqX12_numbers k t  S := wmX12_numbers (Nat.le_refl k) (fun t h => f t h.1 h.2) (wjX12_numbers hQ hR)
set_option maxHeartbeats 4000000 in
set_option maxRecDepth 100000 in
theorem wkX12_complexj (Q R : Int32 → XT → Prop) : ∀ k : Nat, (∀ (t : XT) (li : Nat → Int32) (lj : Nat → Int64), wpX12_complex k 0 t li lj Q → wpX12_complex k 0 t li lj R → wpX12_complex k 0 t li lj (fun r t => Q r t ∧ R r t)) ∧ (∀ (t : XT) (li : Nat → Int32) (lj : Nat → Int64), wpX12_complex k 1 t li lj Q → wpX12_complex k 1 t li lj R → wpX12_complex k 1 t li lj (fun r t => Q r t ∧ R r t)) ∧ (∀ (t : XT) (li : Nat → Int32) (lj : Nat → Int64), wpX12_complex k 2 t li lj Q → wpX12_complex k 2 t li lj R → wpX12_complex k 2 t li lj (fun r t => Q r t ∧ R r t)) ∧ (∀ (t : XT) (li : Nat → Int32) (lj : Nat → Int64), wpX12_complex k 3 t li lj Q → wpX12_complex k 3 t li lj R → wpX12_complex k 3 t li lj (fun r t => Q r t ∧ R r t)) ∧ (∀ (t : XT) (li : Nat → Int32) (lj : Nat → Int64), wpX12_complex k 4 t li lj Q → wpX12_complex k 4 t li lj R → wpX12_complex k 4 t li lj (fun r t => Q r t ∧ R r t)) ∧ (∀ (t : XT) (li : Nat → Int32) (lj : Nat → Int64), wpX12_complex k 5 t li lj Q → wpX12_complex k 5 t li lj R → wpX12_complex k 5 t li lj (fun r t => Q r t ∧ R r t)) := by
  intro k
  induction k with
  | zero => exact ⟨fun _ _ _ hR _ => False.elim hR, fun _ _ _ hR _ => False.elim hR, fun _ _ _ hR _ => False.elim hR, fun _ _ _ hR _ => False.elim hR, fun _ _ _ hR _ => False.elim hR, fun _ _ _ hR _ => False.elim hR⟩
  | succ k ih =>
    refine ⟨?_, ?_, ?_, ?_, ?_, ?_⟩
    · intro t li lj hQ hR
      have hQ : wbX12_complex_0 (wpX12_complex k) k t li lj Q := hQ
      have hR : wbX12_complex_0 (wpX12_complex k) k t li lj R := hR
      show wbX12_complex_0 (wpX12_complex k) k t li lj (fun r t => Q r t ∧ R r t)
      unfold wbX12_complex_0 at hQ hR ⊢
      exact fun x1 e1 => fun x2 e2 => ih.2.1 _ _ _ ((hQ x1 e1) x2 e2) ((hR x1 e1) x2 e2)
    · intro t li lj hQ hR
      have hQ : wbX12_complex_1 (wpX12_complex k) k t li lj Q := hQ
      have hR : wbX12_complex_1 (wpX12_complex k) k t li lj R := hR
      show wbX12_complex_1 (wpX12_complex k) k t li lj (fun r t => Q r t ∧ R r t)
      unfold wbX12_complex_1 at hQ hR ⊢
      exact ⟨fun c1 => ih.2.2.1 _ _ _ (hQ.1 c1) (hR.1 c1), fun c2 => ⟨(hQ.2 c2).1, fun x3 e3 => fun x4 e4 => ih.2.1 _ _ _ (((hQ.2 c2).2 x3 e3) x4 e4) (((hR.2 c2).2 x3 e3) x4 e4)⟩⟩
    · intro t li lj hQ hR
      have hQ : wbX12_complex_2 (wpX12_complex k) k t li lj Q := hQ
      have hR : wbX12_complex_2 (wpX12_complex k) k t li lj R := hR
      show wbX12_complex_2 (wpX12_complex k) k t li lj (fun r t => Q r t ∧ R r t)
      unfold wbX12_complex_2 at hQ hR ⊢
      exact ⟨fun c1 => wiX12_isRight (hQ.1 c1) (hR.1 c1) (fun y2_0 y2_1 h2 i2 => ⟨fun c3 => ih.2.2.2.2.2 _ _ _ (h2.1 c3) (i2.1 c3), fun c4 => wiX12_byteNow (h2.2 c4) (i2.2 c4) (fun y5_0 y5_1 h5 i5 => ⟨fun c6 => ih.2.2.2.2.2 _ _ _ (h5.1 c6) (i5.1 c6), fun c7 => wiX12_fails (h5.2 c7) (i5.2 c7) (fun y8_0 h8 i8 => ih.2.2.2.2.2 _ _ _ h8 i8)⟩)⟩), fun c9 => wiX12_readsFacet (hQ.2 c9) (hR.2 c9) (fun y10_0 h10 i10 => fun x11 e11 => wiX12_isRight (h10 x11 e11) (i10 x11 e11) (fun y12_0 y12_1 h12 i12 => ⟨fun c13 => ih.2.2.2.1 _ _ _ (h12.1 c13) (i12.1 c13), fun c14 => wiX12_byteNow (h12.2 c14) (i12.2 c14) (fun y15_0 y15_1 h15 i15 => ⟨fun c16 => ih.2.2.2.1 _ _ _ (h15.1 c16) (i15.1 c16), fun c17 => ih.2.2.2.2.1 _ _ _ (h15.2 c17) (i15.2 c17)⟩)⟩))⟩
    · intro t li lj hQ hR
      have hQ : wbX12_complex_3 (wpX12_complex k) k t li lj Q := hQ
      have hR : wbX12_complex_3 (wpX12_complex k) k t li lj R := hR
      show wbX12_complex_3 (wpX12_complex k) k t li lj (fun r t => Q r t ∧ R r t)
      unfold wbX12_complex_3 at hQ hR ⊢
      exact ih.2.2.2.2.1 _ _ _ hQ hR
    · intro t li lj hQ hR
      have hQ : wbX12_complex_4 (wpX12_complex k) k t li lj Q := hQ
      have hR : wbX12_complex_4 (wpX12_complex k) k t li lj R := hR
      show wbX12_complex_4 (wpX12_complex k) k t li lj (fun r t => Q r t ∧ R r t)
      unfold wbX12_complex_4 at hQ hR ⊢
      exact wiX12_truth hQ hR (fun y1_0 h1 i1 => fun x2 e2 => fun x3 e3 => ih.2.2.1 _ _ _ ((h1 x2 e2) x3 e3) ((i1 x2 e2) x3 e3))
    · intro t li lj hQ hR
      have hQ : wbX12_complex_5 (wpX12_complex k) k t li lj Q := hQ
      have hR : wbX12_complex_5 (wpX12_complex k) k t li lj R := hR
      show wbX12_complex_5 (wpX12_complex k) k t li lj (fun r t => Q r t ∧ R r t)
      unfold wbX12_complex_5 at hQ hR ⊢
      exact fun x1 e1 => wiX12_isRight (hQ x1 e1) (hR x1 e1) (fun y2_0 y2_1 h2 i2 => ⟨fun c3 => wiX12_numbers (h2.1 c3) (i2.1 c3) (fun y4_0 h4 i4 => ⟨h4, i4⟩), fun c5 => fun x6 e6 => ⟨((h2.2 c5) x6 e6), ((i2.2 c5) x6 e6)⟩⟩)
theorem wjX12_complex {k : Nat} {t : XT}  {Q R : Int32 → XT → Prop} (hQ : wqX12_complex k t  Q) (hR : wqX12_complex k t  R) : wqX12_complex k t  (fun r t => Q r t ∧ R r t) := (wkX12_complexj Q R k).1 t _ _ hQ hR
theorem wiX12_complex {k : Nat} {t : XT}  {Q R S : Int32 → XT → Prop} (hQ : wqX12_complex k t  Q) (hR : wqX12_complex k t  R) (f : ∀ r t, Q r t → R r t → S r t) : wqX12_complex k t  S := wmX12_complex (Nat.le_refl k) (fun r t h => f r t h.1 h.2) (wjX12_complex hQ hR)
set_option maxHeartbeats 4000000 in
set_option maxRecDepth 100000 in
theorem wkX12_isSimplexj (Q R : Int32 → XT → Prop) : ∀ k : Nat, (∀ (t : XT) (li : Nat → Int32) (lj : Nat → Int64), wpX12_isSimplex k 0 t li lj Q → wpX12_isSimplex k 0 t li lj R → wpX12_isSimplex k 0 t li lj (fun r t => Q r t ∧ R r t)) := by
  intro k
  induction k with
  | zero => exact fun _ _ _ hR _ => False.elim hR
  | succ k ih =>
    intro t li lj hQ hR
    have hQ : wbX12_isSimplex_0 (wpX12_isSimplex k) k t li lj Q := hQ
    have hR : wbX12_isSimplex_0 (wpX12_isSimplex k) k t li lj R := hR
    show wbX12_isSimplex_0 (wpX12_isSimplex k) k t li lj (fun r t => Q r t ∧ R r t)
    unfold wbX12_isSimplex_0 at hQ hR ⊢
    exact fun x1 e1 => wiX12_in (hQ x1 e1) (hR x1 e1) (fun y2_0 h2 i2 => ⟨h2.1, ⟨h2.2, i2.2⟩⟩)
theorem wjX12_isSimplex {k : Nat} {t : XT} {a1 : Int32} {Q R : Int32 → XT → Prop} (hQ : wqX12_isSimplex k t a1 Q) (hR : wqX12_isSimplex k t a1 R) : wqX12_isSimplex k t a1 (fun r t => Q r t ∧ R r t) := (wkX12_isSimplexj Q R k) t _ _ hQ hR
theorem wiX12_isSimplex {k : Nat} {t : XT} {a1 : Int32} {Q R S : Int32 → XT → Prop} (hQ : wqX12_isSimplex k t a1 Q) (hR : wqX12_isSimplex k t a1 R) (f : ∀ r t, Q r t → R r t → S r t) : wqX12_isSimplex k t a1 S := wmX12_isSimplex (Nat.le_refl k) (fun r t h => f r t h.1 h.2) (wjX12_isSimplex hQ hR)
set_option maxHeartbeats 4000000 in
set_option maxRecDepth 100000 in
theorem wkX12_dimOfj (Q R : Int32 → XT → Prop) : ∀ k : Nat, (∀ (t : XT) (li : Nat → Int32) (lj : Nat → Int64), wpX12_dimOf k 0 t li lj Q → wpX12_dimOf k 0 t li lj R → wpX12_dimOf k 0 t li lj (fun r t => Q r t ∧ R r t)) := by
  intro k
  induction k with
  | zero => exact fun _ _ _ hR _ => False.elim hR
  | succ k ih =>
    intro t li lj hQ hR
    have hQ : wbX12_dimOf_0 (wpX12_dimOf k) k t li lj Q := hQ
    have hR : wbX12_dimOf_0 (wpX12_dimOf k) k t li lj R := hR
    show wbX12_dimOf_0 (wpX12_dimOf k) k t li lj (fun r t => Q r t ∧ R r t)
    unfold wbX12_dimOf_0 at hQ hR ⊢
    exact ⟨hQ.1, fun x1 e1 => wiJ6_bitCount_0f7a4 (hQ.2 x1 e1) (hR.2 x1 e1) (fun y2_0 h2 i2 => fun x3 e3 => ⟨(h2 x3 e3), (i2 x3 e3)⟩)⟩
theorem wjX12_dimOf {k : Nat} {t : XT} {a1 : Int32} {Q R : Int32 → XT → Prop} (hQ : wqX12_dimOf k t a1 Q) (hR : wqX12_dimOf k t a1 R) : wqX12_dimOf k t a1 (fun r t => Q r t ∧ R r t) := (wkX12_dimOfj Q R k) t _ _ hQ hR
theorem wiX12_dimOf {k : Nat} {t : XT} {a1 : Int32} {Q R S : Int32 → XT → Prop} (hQ : wqX12_dimOf k t a1 Q) (hR : wqX12_dimOf k t a1 R) (f : ∀ r t, Q r t → R r t → S r t) : wqX12_dimOf k t a1 S := wmX12_dimOf (Nat.le_refl k) (fun r t h => f r t h.1 h.2) (wjX12_dimOf hQ hR)
set_option maxHeartbeats 4000000 in
set_option maxRecDepth 100000 in
theorem wkX12_isLowerj (Q R : Int32 → XT → Prop) : ∀ k : Nat, (∀ (t : XT) (li : Nat → Int32) (lj : Nat → Int64), wpX12_isLower k 0 t li lj Q → wpX12_isLower k 0 t li lj R → wpX12_isLower k 0 t li lj (fun r t => Q r t ∧ R r t)) ∧ (∀ (t : XT) (li : Nat → Int32) (lj : Nat → Int64), wpX12_isLower k 1 t li lj Q → wpX12_isLower k 1 t li lj R → wpX12_isLower k 1 t li lj (fun r t => Q r t ∧ R r t)) := by
  intro k
  induction k with
  | zero => exact ⟨fun _ _ _ hR _ => False.elim hR, fun _ _ _ hR _ => False.elim hR⟩
  | succ k ih =>
    refine ⟨?_, ?_⟩
    · intro t li lj hQ hR
      have hQ : wbX12_isLower_0 (wpX12_isLower k) k t li lj Q := hQ
      have hR : wbX12_isLower_0 (wpX12_isLower k) k t li lj R := hR
      show wbX12_isLower_0 (wpX12_isLower k) k t li lj (fun r t => Q r t ∧ R r t)
      unfold wbX12_isLower_0 at hQ hR ⊢
      exact ⟨hQ.1, fun x1 e1 => ⟨fun c2 => ih.2 _ _ _ ((hQ.2 x1 e1).1 c2) ((hR.2 x1 e1).1 c2), fun c3 => ⟨((hQ.2 x1 e1).2 c3).1, fun x4 e4 => ⟨fun c5 => ih.2 _ _ _ ((((hQ.2 x1 e1).2 c3).2 x4 e4).1 c5) ((((hR.2 x1 e1).2 c3).2 x4 e4).1 c5), fun c6 => ⟨((((hQ.2 x1 e1).2 c3).2 x4 e4).2 c6), ((((hR.2 x1 e1).2 c3).2 x4 e4).2 c6)⟩⟩⟩⟩⟩
    · intro t li lj hQ hR
      have hQ : wbX12_isLower_1 (wpX12_isLower k) k t li lj Q := hQ
      have hR : wbX12_isLower_1 (wpX12_isLower k) k t li lj R := hR
      show wbX12_isLower_1 (wpX12_isLower k) k t li lj (fun r t => Q r t ∧ R r t)
      unfold wbX12_isLower_1 at hQ hR ⊢
      exact ⟨hQ, hR⟩
theorem wjX12_isLower {k : Nat} {t : XT} {a1 : Int32} {Q R : Int32 → XT → Prop} (hQ : wqX12_isLower k t a1 Q) (hR : wqX12_isLower k t a1 R) : wqX12_isLower k t a1 (fun r t => Q r t ∧ R r t) := (wkX12_isLowerj Q R k).1 t _ _ hQ hR
theorem wiX12_isLower {k : Nat} {t : XT} {a1 : Int32} {Q R S : Int32 → XT → Prop} (hQ : wqX12_isLower k t a1 Q) (hR : wqX12_isLower k t a1 R) (f : ∀ r t, Q r t → R r t → S r t) : wqX12_isLower k t a1 S := wmX12_isLower (Nat.le_refl k) (fun r t h => f r t h.1 h.2) (wjX12_isLower hQ hR)
set_option maxHeartbeats 4000000 in
set_option maxRecDepth 100000 in
theorem wkX12_isFacej (Q R : Int32 → XT → Prop) : ∀ k : Nat, (∀ (t : XT) (li : Nat → Int32) (lj : Nat → Int64), wpX12_isFace k 0 t li lj Q → wpX12_isFace k 0 t li lj R → wpX12_isFace k 0 t li lj (fun r t => Q r t ∧ R r t)) ∧ (∀ (t : XT) (li : Nat → Int32) (lj : Nat → Int64), wpX12_isFace k 1 t li lj Q → wpX12_isFace k 1 t li lj R → wpX12_isFace k 1 t li lj (fun r t => Q r t ∧ R r t)) := by
  intro k
  induction k with
  | zero => exact ⟨fun _ _ _ hR _ => False.elim hR, fun _ _ _ hR _ => False.elim hR⟩
  | succ k ih =>
    refine ⟨?_, ?_⟩
    · intro t li lj hQ hR
      have hQ : wbX12_isFace_0 (wpX12_isFace k) k t li lj Q := hQ
      have hR : wbX12_isFace_0 (wpX12_isFace k) k t li lj R := hR
      show wbX12_isFace_0 (wpX12_isFace k) k t li lj (fun r t => Q r t ∧ R r t)
      unfold wbX12_isFace_0 at hQ hR ⊢
      exact wiX12_dimOf hQ hR (fun y1_0 y1_1 h1 i1 => wiX12_dimOf h1 i1 (fun y2_0 y2_1 h2 i2 => fun x3 e3 => ⟨fun c4 => ih.2 _ _ _ ((h2 x3 e3).1 c4) ((i2 x3 e3).1 c4), fun c5 => ⟨((h2 x3 e3).2 c5).1, fun x6 e6 => ⟨(((h2 x3 e3).2 c5).2 x6 e6).1, fun x7 e7 => fun x8 e8 => fun x9 e9 => ⟨fun c10 => ih.2 _ _ _ (((((((h2 x3 e3).2 c5).2 x6 e6).2 x7 e7) x8 e8) x9 e9).1 c10) (((((((i2 x3 e3).2 c5).2 x6 e6).2 x7 e7) x8 e8) x9 e9).1 c10), fun c11 => ⟨(((((((h2 x3 e3).2 c5).2 x6 e6).2 x7 e7) x8 e8) x9 e9).2 c11), (((((((i2 x3 e3).2 c5).2 x6 e6).2 x7 e7) x8 e8) x9 e9).2 c11)⟩⟩⟩⟩⟩))
    · intro t li lj hQ hR
      have hQ : wbX12_isFace_1 (wpX12_isFace k) k t li lj Q := hQ
      have hR : wbX12_isFace_1 (wpX12_isFace k) k t li lj R := hR
      show wbX12_isFace_1 (wpX12_isFace k) k t li lj (fun r t => Q r t ∧ R r t)
      unfold wbX12_isFace_1 at hQ hR ⊢
      exact ⟨hQ, hR⟩
theorem wjX12_isFace {k : Nat} {t : XT} {a1 : Int32} {a2 : Int32} {Q R : Int32 → XT → Prop} (hQ : wqX12_isFace k t a1 a2 Q) (hR : wqX12_isFace k t a1 a2 R) : wqX12_isFace k t a1 a2 (fun r t => Q r t ∧ R r t) := (wkX12_isFacej Q R k).1 t _ _ hQ hR
theorem wiX12_isFace {k : Nat} {t : XT} {a1 : Int32} {a2 : Int32} {Q R S : Int32 → XT → Prop} (hQ : wqX12_isFace k t a1 a2 Q) (hR : wqX12_isFace k t a1 a2 R) (f : ∀ r t, Q r t → R r t → S r t) : wqX12_isFace k t a1 a2 S := wmX12_isFace (Nat.le_refl k) (fun r t h => f r t h.1 h.2) (wjX12_isFace hQ hR)
set_option maxHeartbeats 4000000 in
set_option maxRecDepth 100000 in
theorem wkX12_isFaceTherej (Q R : Int32 → XT → Prop) : ∀ k : Nat, (∀ (t : XT) (li : Nat → Int32) (lj : Nat → Int64), wpX12_isFaceThere k 0 t li lj Q → wpX12_isFaceThere k 0 t li lj R → wpX12_isFaceThere k 0 t li lj (fun r t => Q r t ∧ R r t)) ∧ (∀ (t : XT) (li : Nat → Int32) (lj : Nat → Int64), wpX12_isFaceThere k 1 t li lj Q → wpX12_isFaceThere k 1 t li lj R → wpX12_isFaceThere k 1 t li lj (fun r t => Q r t ∧ R r t)) := by
  intro k
  induction k with
  | zero => exact ⟨fun _ _ _ hR _ => False.elim hR, fun _ _ _ hR _ => False.elim hR⟩
  | succ k ih =>
    refine ⟨?_, ?_⟩
    · intro t li lj hQ hR
      have hQ : wbX12_isFaceThere_0 (wpX12_isFaceThere k) k t li lj Q := hQ
      have hR : wbX12_isFaceThere_0 (wpX12_isFaceThere k) k t li lj R := hR
      show wbX12_isFaceThere_0 (wpX12_isFaceThere k) k t li lj (fun r t => Q r t ∧ R r t)
      unfold wbX12_isFaceThere_0 at hQ hR ⊢
      exact ⟨hQ.1, fun x1 e1 => ⟨fun c2 => ih.2 _ _ _ ((hQ.2 x1 e1).1 c2) ((hR.2 x1 e1).1 c2), fun c3 => ⟨((hQ.2 x1 e1).2 c3).1, fun x4 e4 => ⟨fun c5 => ih.2 _ _ _ ((((hQ.2 x1 e1).2 c3).2 x4 e4).1 c5) ((((hR.2 x1 e1).2 c3).2 x4 e4).1 c5), fun c6 => wiX12_isFace ((((hQ.2 x1 e1).2 c3).2 x4 e4).2 c6) ((((hR.2 x1 e1).2 c3).2 x4 e4).2 c6) (fun y7_0 y7_1 h7 i7 => ⟨fun c8 => ih.2 _ _ _ (h7.1 c8) (i7.1 c8), fun c9 => ⟨(h7.2 c9), (i7.2 c9)⟩⟩)⟩⟩⟩⟩
    · intro t li lj hQ hR
      have hQ : wbX12_isFaceThere_1 (wpX12_isFaceThere k) k t li lj Q := hQ
      have hR : wbX12_isFaceThere_1 (wpX12_isFaceThere k) k t li lj R := hR
      show wbX12_isFaceThere_1 (wpX12_isFaceThere k) k t li lj (fun r t => Q r t ∧ R r t)
      unfold wbX12_isFaceThere_1 at hQ hR ⊢
      exact ⟨hQ, hR⟩
theorem wjX12_isFaceThere {k : Nat} {t : XT} {a1 : Int32} {a2 : Int32} {Q R : Int32 → XT → Prop} (hQ : wqX12_isFaceThere k t a1 a2 Q) (hR : wqX12_isFaceThere k t a1 a2 R) : wqX12_isFaceThere k t a1 a2 (fun r t => Q r t ∧ R r t) := (wkX12_isFaceTherej Q R k).1 t _ _ hQ hR
theorem wiX12_isFaceThere {k : Nat} {t : XT} {a1 : Int32} {a2 : Int32} {Q R S : Int32 → XT → Prop} (hQ : wqX12_isFaceThere k t a1 a2 Q) (hR : wqX12_isFaceThere k t a1 a2 R) (f : ∀ r t, Q r t → R r t → S r t) : wqX12_isFaceThere k t a1 a2 S := wmX12_isFaceThere (Nat.le_refl k) (fun r t h => f r t h.1 h.2) (wjX12_isFaceThere hQ hR)
set_option maxHeartbeats 4000000 in
set_option maxRecDepth 100000 in
theorem wkX12_laysHeightsj (Q R : XT → Prop) : ∀ k : Nat, (∀ (t : XT) (li : Nat → Int32) (lj : Nat → Int64), wpX12_laysHeights k 0 t li lj Q → wpX12_laysHeights k 0 t li lj R → wpX12_laysHeights k 0 t li lj (fun t => Q t ∧ R t)) ∧ (∀ (t : XT) (li : Nat → Int32) (lj : Nat → Int64), wpX12_laysHeights k 1 t li lj Q → wpX12_laysHeights k 1 t li lj R → wpX12_laysHeights k 1 t li lj (fun t => Q t ∧ R t)) ∧ (∀ (t : XT) (li : Nat → Int32) (lj : Nat → Int64), wpX12_laysHeights k 2 t li lj Q → wpX12_laysHeights k 2 t li lj R → wpX12_laysHeights k 2 t li lj (fun t => Q t ∧ R t)) ∧ (∀ (t : XT) (li : Nat → Int32) (lj : Nat → Int64), wpX12_laysHeights k 3 t li lj Q → wpX12_laysHeights k 3 t li lj R → wpX12_laysHeights k 3 t li lj (fun t => Q t ∧ R t)) ∧ (∀ (t : XT) (li : Nat → Int32) (lj : Nat → Int64), wpX12_laysHeights k 4 t li lj Q → wpX12_laysHeights k 4 t li lj R → wpX12_laysHeights k 4 t li lj (fun t => Q t ∧ R t)) ∧ (∀ (t : XT) (li : Nat → Int32) (lj : Nat → Int64), wpX12_laysHeights k 5 t li lj Q → wpX12_laysHeights k 5 t li lj R → wpX12_laysHeights k 5 t li lj (fun t => Q t ∧ R t)) ∧ (∀ (t : XT) (li : Nat → Int32) (lj : Nat → Int64), wpX12_laysHeights k 6 t li lj Q → wpX12_laysHeights k 6 t li lj R → wpX12_laysHeights k 6 t li lj (fun t => Q t ∧ R t)) ∧ (∀ (t : XT) (li : Nat → Int32) (lj : Nat → Int64), wpX12_laysHeights k 7 t li lj Q → wpX12_laysHeights k 7 t li lj R → wpX12_laysHeights k 7 t li lj (fun t => Q t ∧ R t)) ∧ (∀ (t : XT) (li : Nat → Int32) (lj : Nat → Int64), wpX12_laysHeights k 8 t li lj Q → wpX12_laysHeights k 8 t li lj R → wpX12_laysHeights k 8 t li lj (fun t => Q t ∧ R t)) ∧ (∀ (t : XT) (li : Nat → Int32) (lj : Nat → Int64), wpX12_laysHeights k 9 t li lj Q → wpX12_laysHeights k 9 t li lj R → wpX12_laysHeights k 9 t li lj (fun t => Q t ∧ R t)) ∧ (∀ (t : XT) (li : Nat → Int32) (lj : Nat → Int64), wpX12_laysHeights k 10 t li lj Q → wpX12_laysHeights k 10 t li lj R → wpX12_laysHeights k 10 t li lj (fun t => Q t ∧ R t)) := by
  intro k
  induction k with
  | zero => exact ⟨fun _ _ _ hR _ => False.elim hR, fun _ _ _ hR _ => False.elim hR, fun _ _ _ hR _ => False.elim hR, fun _ _ _ hR _ => False.elim hR, fun _ _ _ hR _ => False.elim hR, fun _ _ _ hR _ => False.elim hR, fun _ _ _ hR _ => False.elim hR, fun _ _ _ hR _ => False.elim hR, fun _ _ _ hR _ => False.elim hR, fun _ _ _ hR _ => False.elim hR, fun _ _ _ hR _ => False.elim hR⟩
  | succ k ih =>
    refine ⟨?_, ?_, ?_, ?_, ?_, ?_, ?_, ?_, ?_, ?_, ?_⟩
    · intro t li lj hQ hR
      have hQ : wbX12_laysHeights_0 (wpX12_laysHeights k) k t li lj Q := hQ
      have hR : wbX12_laysHeights_0 (wpX12_laysHeights k) k t li lj R := hR
      show wbX12_laysHeights_0 (wpX12_laysHeights k) k t li lj (fun t => Q t ∧ R t)
      unfold wbX12_laysHeights_0 at hQ hR ⊢
      exact ih.2.1 _ _ _ hQ hR
    · intro t li lj hQ hR
      have hQ : wbX12_laysHeights_1 (wpX12_laysHeights k) k t li lj Q := hQ
      have hR : wbX12_laysHeights_1 (wpX12_laysHeights k) k t li lj R := hR
      show wbX12_laysHeights_1 (wpX12_laysHeights k) k t li lj (fun t => Q t ∧ R t)
      unfold wbX12_laysHeights_1 at hQ hR ⊢
      exact ⟨fun c1 => ih.2.2.1 _ _ _ (hQ.1 c1) (hR.1 c1), fun c2 => ⟨(hQ.2 c2).1, fun x3 e3 => fun x4 e4 => ih.2.1 _ _ _ (((hQ.2 c2).2 x3 e3) x4 e4) (((hR.2 c2).2 x3 e3) x4 e4)⟩⟩
    · intro t li lj hQ hR
      have hQ : wbX12_laysHeights_2 (wpX12_laysHeights k) k t li lj Q := hQ
      have hR : wbX12_laysHeights_2 (wpX12_laysHeights k) k t li lj R := hR
      show wbX12_laysHeights_2 (wpX12_laysHeights k) k t li lj (fun t => Q t ∧ R t)
      unfold wbX12_laysHeights_2 at hQ hR ⊢
      exact ⟨fun c1 => ⟨(hQ.1 c1), (hR.1 c1)⟩, fun c2 => ih.2.2.2.1 _ _ _ (hQ.2 c2) (hR.2 c2)⟩
    · intro t li lj hQ hR
      have hQ : wbX12_laysHeights_3 (wpX12_laysHeights k) k t li lj Q := hQ
      have hR : wbX12_laysHeights_3 (wpX12_laysHeights k) k t li lj R := hR
      show wbX12_laysHeights_3 (wpX12_laysHeights k) k t li lj (fun t => Q t ∧ R t)
      unfold wbX12_laysHeights_3 at hQ hR ⊢
      exact ⟨fun c1 => ih.2.2.1 _ _ _ (hQ.1 c1) (hR.1 c1), fun c2 => ih.2.2.2.2.1 _ _ _ (hQ.2 c2) (hR.2 c2)⟩
    · intro t li lj hQ hR
      have hQ : wbX12_laysHeights_4 (wpX12_laysHeights k) k t li lj Q := hQ
      have hR : wbX12_laysHeights_4 (wpX12_laysHeights k) k t li lj R := hR
      show wbX12_laysHeights_4 (wpX12_laysHeights k) k t li lj (fun t => Q t ∧ R t)
      unfold wbX12_laysHeights_4 at hQ hR ⊢
      exact ⟨fun c1 => fun x2 e2 => ih.2.2.2.1 _ _ _ ((hQ.1 c1) x2 e2) ((hR.1 c1) x2 e2), fun c3 => wiX12_isFaceThere (hQ.2 c3) (hR.2 c3) (fun y4_0 y4_1 h4 i4 => ⟨fun c5 => ih.2.2.2.2.2.1 _ _ _ (h4.1 c5) (i4.1 c5), fun c6 => ⟨(h4.2 c6).1, fun x7 e7 => ⟨fun c8 => ih.2.2.2.2.2.1 _ _ _ (((h4.2 c6).2 x7 e7).1 c8) (((i4.2 c6).2 x7 e7).1 c8), fun c9 => ih.2.2.2.2.2.2.1 _ _ _ (((h4.2 c6).2 x7 e7).2 c9) (((i4.2 c6).2 x7 e7).2 c9)⟩⟩⟩)⟩
    · intro t li lj hQ hR
      have hQ : wbX12_laysHeights_5 (wpX12_laysHeights k) k t li lj Q := hQ
      have hR : wbX12_laysHeights_5 (wpX12_laysHeights k) k t li lj R := hR
      show wbX12_laysHeights_5 (wpX12_laysHeights k) k t li lj (fun t => Q t ∧ R t)
      unfold wbX12_laysHeights_5 at hQ hR ⊢
      exact ih.2.2.2.2.2.2.1 _ _ _ hQ hR
    · intro t li lj hQ hR
      have hQ : wbX12_laysHeights_6 (wpX12_laysHeights k) k t li lj Q := hQ
      have hR : wbX12_laysHeights_6 (wpX12_laysHeights k) k t li lj R := hR
      show wbX12_laysHeights_6 (wpX12_laysHeights k) k t li lj (fun t => Q t ∧ R t)
      unfold wbX12_laysHeights_6 at hQ hR ⊢
      exact wiX12_isFaceThere hQ hR (fun y1_0 y1_1 h1 i1 => ⟨fun c2 => ih.2.2.2.2.2.2.2.1 _ _ _ (h1.1 c2) (i1.1 c2), fun c3 => ⟨(h1.2 c3).1, fun x4 e4 => ⟨fun c5 => ih.2.2.2.2.2.2.2.1 _ _ _ (((h1.2 c3).2 x4 e4).1 c5) (((i1.2 c3).2 x4 e4).1 c5), fun c6 => ih.2.2.2.2.2.2.2.2.1 _ _ _ (((h1.2 c3).2 x4 e4).2 c6) (((i1.2 c3).2 x4 e4).2 c6)⟩⟩⟩)
    · intro t li lj hQ hR
      have hQ : wbX12_laysHeights_7 (wpX12_laysHeights k) k t li lj Q := hQ
      have hR : wbX12_laysHeights_7 (wpX12_laysHeights k) k t li lj R := hR
      show wbX12_laysHeights_7 (wpX12_laysHeights k) k t li lj (fun t => Q t ∧ R t)
      unfold wbX12_laysHeights_7 at hQ hR ⊢
      exact ih.2.2.2.2.2.2.2.2.1 _ _ _ hQ hR
    · intro t li lj hQ hR
      have hQ : wbX12_laysHeights_8 (wpX12_laysHeights k) k t li lj Q := hQ
      have hR : wbX12_laysHeights_8 (wpX12_laysHeights k) k t li lj R := hR
      show wbX12_laysHeights_8 (wpX12_laysHeights k) k t li lj (fun t => Q t ∧ R t)
      unfold wbX12_laysHeights_8 at hQ hR ⊢
      exact ⟨fun c1 => ih.2.2.2.2.2.2.2.2.2.1 _ _ _ (hQ.1 c1) (hR.1 c1), fun c2 => ⟨fun c3 => ih.2.2.2.2.2.2.2.2.2.2 _ _ _ ((hQ.2 c2).1 c3) ((hR.2 c2).1 c3), fun c4 => ih.2.2.2.2.2.2.2.2.2.1 _ _ _ ((hQ.2 c2).2 c4) ((hR.2 c2).2 c4)⟩⟩
    · intro t li lj hQ hR
      have hQ : wbX12_laysHeights_9 (wpX12_laysHeights k) k t li lj Q := hQ
      have hR : wbX12_laysHeights_9 (wpX12_laysHeights k) k t li lj R := hR
      show wbX12_laysHeights_9 (wpX12_laysHeights k) k t li lj (fun t => Q t ∧ R t)
      unfold wbX12_laysHeights_9 at hQ hR ⊢
      exact ⟨hQ.1, fun x1 e1 => ⟨(hQ.2 x1 e1).1, fun x2 e2 => fun x3 e3 => ⟨fun c4 => ih.2.2.2.2.2.2.2.2.2.2 _ _ _ ((((hQ.2 x1 e1).2 x2 e2) x3 e3).1 c4) ((((hR.2 x1 e1).2 x2 e2) x3 e3).1 c4), fun c5 => ⟨((((hQ.2 x1 e1).2 x2 e2) x3 e3).2 c5).1, fun x6 e6 => fun x7 e7 => ⟨((((((hQ.2 x1 e1).2 x2 e2) x3 e3).2 c5).2 x6 e6) x7 e7).1, fun x8 e8 => ih.2.2.2.2.2.2.2.2.2.2 _ _ _ (((((((hQ.2 x1 e1).2 x2 e2) x3 e3).2 c5).2 x6 e6) x7 e7).2 x8 e8) (((((((hR.2 x1 e1).2 x2 e2) x3 e3).2 c5).2 x6 e6) x7 e7).2 x8 e8)⟩⟩⟩⟩⟩
    · intro t li lj hQ hR
      have hQ : wbX12_laysHeights_10 (wpX12_laysHeights k) k t li lj Q := hQ
      have hR : wbX12_laysHeights_10 (wpX12_laysHeights k) k t li lj R := hR
      show wbX12_laysHeights_10 (wpX12_laysHeights k) k t li lj (fun t => Q t ∧ R t)
      unfold wbX12_laysHeights_10 at hQ hR ⊢
      exact fun x1 e1 => ih.2.2.2.2.1 _ _ _ (hQ x1 e1) (hR x1 e1)
theorem wjX12_laysHeights {k : Nat} {t : XT}  {Q R : XT → Prop} (hQ : wqX12_laysHeights k t  Q) (hR : wqX12_laysHeights k t  R) : wqX12_laysHeights k t  (fun t => Q t ∧ R t) := (wkX12_laysHeightsj Q R k).1 t _ _ hQ hR
theorem wiX12_laysHeights {k : Nat} {t : XT}  {Q R S : XT → Prop} (hQ : wqX12_laysHeights k t  Q) (hR : wqX12_laysHeights k t  R) (f : ∀ t, Q t → R t → S t) : wqX12_laysHeights k t  S := wmX12_laysHeights (Nat.le_refl k) (fun t h => f t h.1 h.2) (wjX12_laysHeights hQ hR)
set_option maxHeartbeats 4000000 in
set_option maxRecDepth 100000 in
theorem wkX12_facesOverj (Q R : Int32 → XT → Prop) : ∀ k : Nat, (∀ (t : XT) (li : Nat → Int32) (lj : Nat → Int64), wpX12_facesOver k 0 t li lj Q → wpX12_facesOver k 0 t li lj R → wpX12_facesOver k 0 t li lj (fun r t => Q r t ∧ R r t)) ∧ (∀ (t : XT) (li : Nat → Int32) (lj : Nat → Int64), wpX12_facesOver k 1 t li lj Q → wpX12_facesOver k 1 t li lj R → wpX12_facesOver k 1 t li lj (fun r t => Q r t ∧ R r t)) := by
  intro k
  induction k with
  | zero => exact ⟨fun _ _ _ hR _ => False.elim hR, fun _ _ _ hR _ => False.elim hR⟩
  | succ k ih =>
    refine ⟨?_, ?_⟩
    · intro t li lj hQ hR
      have hQ : wbX12_facesOver_0 (wpX12_facesOver k) k t li lj Q := hQ
      have hR : wbX12_facesOver_0 (wpX12_facesOver k) k t li lj R := hR
      show wbX12_facesOver_0 (wpX12_facesOver k) k t li lj (fun r t => Q r t ∧ R r t)
      unfold wbX12_facesOver_0 at hQ hR ⊢
      exact ih.2 _ _ _ hQ hR
    · intro t li lj hQ hR
      have hQ : wbX12_facesOver_1 (wpX12_facesOver k) k t li lj Q := hQ
      have hR : wbX12_facesOver_1 (wpX12_facesOver k) k t li lj R := hR
      show wbX12_facesOver_1 (wpX12_facesOver k) k t li lj (fun r t => Q r t ∧ R r t)
      unfold wbX12_facesOver_1 at hQ hR ⊢
      exact ⟨fun c1 => ⟨(hQ.1 c1), (hR.1 c1)⟩, fun c2 => wiX12_isFaceThere (hQ.2 c2) (hR.2 c2) (fun y3_0 y3_1 h3 i3 => wiX12_truth h3 i3 (fun y4_0 h4 i4 => fun x5 e5 => fun x6 e6 => ih.2 _ _ _ ((h4 x5 e5) x6 e6) ((i4 x5 e5) x6 e6)))⟩
theorem wjX12_facesOver {k : Nat} {t : XT} {a1 : Int32} {Q R : Int32 → XT → Prop} (hQ : wqX12_facesOver k t a1 Q) (hR : wqX12_facesOver k t a1 R) : wqX12_facesOver k t a1 (fun r t => Q r t ∧ R r t) := (wkX12_facesOverj Q R k).1 t _ _ hQ hR
theorem wiX12_facesOver {k : Nat} {t : XT} {a1 : Int32} {Q R S : Int32 → XT → Prop} (hQ : wqX12_facesOver k t a1 Q) (hR : wqX12_facesOver k t a1 R) (f : ∀ r t, Q r t → R r t → S r t) : wqX12_facesOver k t a1 S := wmX12_facesOver (Nat.le_refl k) (fun r t h => f r t h.1 h.2) (wjX12_facesOver hQ hR)
set_option maxHeartbeats 4000000 in
set_option maxRecDepth 100000 in
theorem wkX12_simplexj (Q R : Int32 → XT → Prop) : ∀ k : Nat, (∀ (t : XT) (li : Nat → Int32) (lj : Nat → Int64), wpX12_simplex k 0 t li lj Q → wpX12_simplex k 0 t li lj R → wpX12_simplex k 0 t li lj (fun r t => Q r t ∧ R r t)) ∧ (∀ (t : XT) (li : Nat → Int32) (lj : Nat → Int64), wpX12_simplex k 1 t li lj Q → wpX12_simplex k 1 t li lj R → wpX12_simplex k 1 t li lj (fun r t => Q r t ∧ R r t)) := by
  intro k
  induction k with
  | zero => exact ⟨fun _ _ _ hR _ => False.elim hR, fun _ _ _ hR _ => False.elim hR⟩
  | succ k ih =>
    refine ⟨?_, ?_⟩
    · intro t li lj hQ hR
      have hQ : wbX12_simplex_0 (wpX12_simplex k) k t li lj Q := hQ
      have hR : wbX12_simplex_0 (wpX12_simplex k) k t li lj R := hR
      show wbX12_simplex_0 (wpX12_simplex k) k t li lj (fun r t => Q r t ∧ R r t)
      unfold wbX12_simplex_0 at hQ hR ⊢
      exact wiX12_isSimplex hQ hR (fun y1_0 y1_1 h1 i1 => ⟨fun c2 => ⟨fun c3 => ⟨((h1.1 c2).1 c3), ((i1.1 c2).1 c3)⟩, fun c4 => ⟨((h1.1 c2).2.1 c4).1, fun x5 e5 => ⟨(((h1.1 c2).2.1 c4).2 x5 e5), (((i1.1 c2).2.1 c4).2 x5 e5)⟩⟩, fun c6 => wiX12_dimOf ((h1.1 c2).2.2.1 c6) ((i1.1 c2).2.2.1 c6) (fun y7_0 y7_1 h7 i7 => ⟨h7, i7⟩), fun c8 => ⟨((h1.1 c2).2.2.2.1 c8).1, fun x9 e9 => ⟨fun c10 => ih.2 _ _ _ ((((h1.1 c2).2.2.2.1 c8).2 x9 e9).1 c10) ((((i1.1 c2).2.2.2.1 c8).2 x9 e9).1 c10), fun c11 => ih.2 _ _ _ ((((h1.1 c2).2.2.2.1 c8).2 x9 e9).2 c11) ((((i1.1 c2).2.2.2.1 c8).2 x9 e9).2 c11)⟩⟩, fun c12 => ⟨((h1.1 c2).2.2.2.2.1 c12).1, fun x13 e13 => ⟨(((h1.1 c2).2.2.2.2.1 c12).2 x13 e13), (((i1.1 c2).2.2.2.2.1 c12).2 x13 e13)⟩⟩, fun c14 => ⟨((h1.1 c2).2.2.2.2.2.1 c14).1, fun x15 e15 => ⟨fun c16 => wiX12_isLower ((((h1.1 c2).2.2.2.2.2.1 c14).2 x15 e15).1 c16) ((((i1.1 c2).2.2.2.2.2.1 c14).2 x15 e15).1 c16) (fun y17_0 y17_1 h17 i17 => wiX12_truth h17 i17 (fun y18_0 h18 i18 => ⟨h18, i18⟩)), fun c19 => ⟨((((h1.1 c2).2.2.2.2.2.1 c14).2 x15 e15).2 c19), ((((i1.1 c2).2.2.2.2.2.1 c14).2 x15 e15).2 c19)⟩⟩⟩, fun c20 => ⟨((h1.1 c2).2.2.2.2.2.2.1 c20).1, fun x21 e21 => ⟨fun c22 => wiX12_laysHeights ((((h1.1 c2).2.2.2.2.2.2.1 c20).2 x21 e21).1 c22) ((((i1.1 c2).2.2.2.2.2.2.1 c20).2 x21 e21).1 c22) (fun y23_0 h23 i23 => ⟨h23.1, fun x24 e24 => ⟨(h23.2 x24 e24), (i23.2 x24 e24)⟩⟩), fun c25 => ⟨((((h1.1 c2).2.2.2.2.2.2.1 c20).2 x21 e21).2 c25), ((((i1.1 c2).2.2.2.2.2.2.1 c20).2 x21 e21).2 c25)⟩⟩⟩, fun c26 => wiX12_facesOver ((h1.1 c2).2.2.2.2.2.2.2 c26) ((i1.1 c2).2.2.2.2.2.2.2 c26) (fun y27_0 y27_1 h27 i27 => ⟨h27, i27⟩)⟩, fun c28 => ⟨(h1.2 c28), (i1.2 c28)⟩⟩)
    · intro t li lj hQ hR
      have hQ : wbX12_simplex_1 (wpX12_simplex k) k t li lj Q := hQ
      have hR : wbX12_simplex_1 (wpX12_simplex k) k t li lj R := hR
      show wbX12_simplex_1 (wpX12_simplex k) k t li lj (fun r t => Q r t ∧ R r t)
      unfold wbX12_simplex_1 at hQ hR ⊢
      exact wiX12_truth hQ hR (fun y1_0 h1 i1 => ⟨h1, i1⟩)
theorem wjX12_simplex {k : Nat} {t : XT} {a1 : Int32} {a2 : Int32} {Q R : Int32 → XT → Prop} (hQ : wqX12_simplex k t a1 a2 Q) (hR : wqX12_simplex k t a1 a2 R) : wqX12_simplex k t a1 a2 (fun r t => Q r t ∧ R r t) := (wkX12_simplexj Q R k).1 t _ _ hQ hR
theorem wiX12_simplex {k : Nat} {t : XT} {a1 : Int32} {a2 : Int32} {Q R S : Int32 → XT → Prop} (hQ : wqX12_simplex k t a1 a2 Q) (hR : wqX12_simplex k t a1 a2 R) (f : ∀ r t, Q r t → R r t → S r t) : wqX12_simplex k t a1 a2 S := wmX12_simplex (Nat.le_refl k) (fun r t h => f r t h.1 h.2) (wjX12_simplex hQ hR)
set_option maxHeartbeats 4000000 in
set_option maxRecDepth 100000 in
theorem wkX12_numberj (Q R : Int32 → XT → Prop) : ∀ k : Nat, (∀ (t : XT) (li : Nat → Int32) (lj : Nat → Int64), wpX12_number k 0 t li lj Q → wpX12_number k 0 t li lj R → wpX12_number k 0 t li lj (fun r t => Q r t ∧ R r t)) ∧ (∀ (t : XT) (li : Nat → Int32) (lj : Nat → Int64), wpX12_number k 1 t li lj Q → wpX12_number k 1 t li lj R → wpX12_number k 1 t li lj (fun r t => Q r t ∧ R r t)) := by
  intro k
  induction k with
  | zero => exact ⟨fun _ _ _ hR _ => False.elim hR, fun _ _ _ hR _ => False.elim hR⟩
  | succ k ih =>
    refine ⟨?_, ?_⟩
    · intro t li lj hQ hR
      have hQ : wbX12_number_0 (wpX12_number k) k t li lj Q := hQ
      have hR : wbX12_number_0 (wpX12_number k) k t li lj R := hR
      show wbX12_number_0 (wpX12_number k) k t li lj (fun r t => Q r t ∧ R r t)
      unfold wbX12_number_0 at hQ hR ⊢
      exact wiX12_in hQ hR (fun y1_0 h1 i1 => ⟨fun c2 => ih.2 _ _ _ (h1.1 c2) (i1.1 c2), fun c3 => ⟨fun c4 => ih.2 _ _ _ ((h1.2 c3).1 c4) ((i1.2 c3).1 c4), fun c5 => ⟨((h1.2 c3).2 c5).1, fun x6 e6 => ⟨(((h1.2 c3).2 c5).2 x6 e6), (((i1.2 c3).2 c5).2 x6 e6)⟩⟩⟩⟩)
    · intro t li lj hQ hR
      have hQ : wbX12_number_1 (wpX12_number k) k t li lj Q := hQ
      have hR : wbX12_number_1 (wpX12_number k) k t li lj R := hR
      show wbX12_number_1 (wpX12_number k) k t li lj (fun r t => Q r t ∧ R r t)
      unfold wbX12_number_1 at hQ hR ⊢
      exact ⟨hQ, hR⟩
theorem wjX12_number {k : Nat} {t : XT} {a1 : Int32} {Q R : Int32 → XT → Prop} (hQ : wqX12_number k t a1 Q) (hR : wqX12_number k t a1 R) : wqX12_number k t a1 (fun r t => Q r t ∧ R r t) := (wkX12_numberj Q R k).1 t _ _ hQ hR
theorem wiX12_number {k : Nat} {t : XT} {a1 : Int32} {Q R S : Int32 → XT → Prop} (hQ : wqX12_number k t a1 Q) (hR : wqX12_number k t a1 R) (f : ∀ r t, Q r t → R r t → S r t) : wqX12_number k t a1 S := wmX12_number (Nat.le_refl k) (fun r t h => f r t h.1 h.2) (wjX12_number hQ hR)
