/-! ===== the class: what two runs come to, one comes to ===== -/
set_option maxHeartbeats 4000000 in
set_option maxRecDepth 100000 in
theorem wkJ6_bitCount_0f7a4j (Q R : Int32 → Prop) : ∀ k : Nat, (∀ (li : Nat → Int32) (lj : Nat → Int64), wpJ6_bitCount_0f7a4 k 0 li lj Q → wpJ6_bitCount_0f7a4 k 0 li lj R → wpJ6_bitCount_0f7a4 k 0 li lj (fun r => Q r ∧ R r)) := by
  intro k
  induction k with
  | zero => exact fun _ _ hR _ => False.elim hR
  | succ k ih =>
    intro li lj hQ hR
    have hQ : wbJ6_bitCount_0f7a4_0 (wpJ6_bitCount_0f7a4 k) k li lj Q := hQ
    have hR : wbJ6_bitCount_0f7a4_0 (wpJ6_bitCount_0f7a4 k) k li lj R := hR
    show wbJ6_bitCount_0f7a4_0 (wpJ6_bitCount_0f7a4 k) k li lj (fun r => Q r ∧ R r)
    unfold wbJ6_bitCount_0f7a4_0 at hQ hR ⊢
    exact fun x1 e1 => fun x2 e2 => fun x3 e3 => fun x4 e4 => fun x5 e5 => fun x6 e6 => fun x7 e7 => fun x8 e8 => fun x9 e9 => fun x10 e10 => fun x11 e11 => fun x12 e12 => fun x13 e13 => fun x14 e14 => fun x15 e15 => ⟨(((((((((((((((hQ x1 e1) x2 e2) x3 e3) x4 e4) x5 e5) x6 e6) x7 e7) x8 e8) x9 e9) x10 e10) x11 e11) x12 e12) x13 e13) x14 e14) x15 e15), (((((((((((((((hR x1 e1) x2 e2) x3 e3) x4 e4) x5 e5) x6 e6) x7 e7) x8 e8) x9 e9) x10 e10) x11 e11) x12 e12) x13 e13) x14 e14) x15 e15)⟩
theorem wjJ6_bitCount_0f7a4 {k : Nat} {a0 : Int32} {Q R : Int32 → Prop} (hQ : wqJ6_bitCount_0f7a4 k a0 Q) (hR : wqJ6_bitCount_0f7a4 k a0 R) : wqJ6_bitCount_0f7a4 k a0 (fun r => Q r ∧ R r) := (wkJ6_bitCount_0f7a4j Q R k) _ _ hQ hR
theorem wiJ6_bitCount_0f7a4 {k : Nat} {a0 : Int32} {Q R S : Int32 → Prop} (hQ : wqJ6_bitCount_0f7a4 k a0 Q) (hR : wqJ6_bitCount_0f7a4 k a0 R) (f : ∀ r, Q r → R r → S r) : wqJ6_bitCount_0f7a4 k a0 S := wmJ6_bitCount_0f7a4 (Nat.le_refl k) (fun r h => f r h.1 h.2) (wjJ6_bitCount_0f7a4 hQ hR)
set_option maxHeartbeats 4000000 in
set_option maxRecDepth 100000 in
theorem wkX10_appendj (Q R : XT → Prop) : ∀ k : Nat, (∀ (t : XT) (li : Nat → Int32) (lj : Nat → Int64), wpX10_append k 0 t li lj Q → wpX10_append k 0 t li lj R → wpX10_append k 0 t li lj (fun t => Q t ∧ R t)) ∧ (∀ (t : XT) (li : Nat → Int32) (lj : Nat → Int64), wpX10_append k 1 t li lj Q → wpX10_append k 1 t li lj R → wpX10_append k 1 t li lj (fun t => Q t ∧ R t)) := by
  intro k
  induction k with
  | zero => exact ⟨fun _ _ _ hR _ => False.elim hR, fun _ _ _ hR _ => False.elim hR⟩
  | succ k ih =>
    refine ⟨?_, ?_⟩
    · intro t li lj hQ hR
      have hQ : wbX10_append_0 (wpX10_append k) k t li lj Q := hQ
      have hR : wbX10_append_0 (wpX10_append k) k t li lj R := hR
      show wbX10_append_0 (wpX10_append k) k t li lj (fun t => Q t ∧ R t)
      unfold wbX10_append_0 at hQ hR ⊢
      exact ih.2 _ _ _ hQ hR
    · intro t li lj hQ hR
      have hQ : wbX10_append_1 (wpX10_append k) k t li lj Q := hQ
      have hR : wbX10_append_1 (wpX10_append k) k t li lj R := hR
      show wbX10_append_1 (wpX10_append k) k t li lj (fun t => Q t ∧ R t)
      unfold wbX10_append_1 at hQ hR ⊢
      exact ⟨fun c1 => ⟨(hQ.1 c1), (hR.1 c1)⟩, fun c2 => ⟨fun c3 => ⟨((hQ.2 c2).1 c3), ((hR.2 c2).1 c3)⟩, fun c4 => fun x5 e5 => fun x6 e6 => ⟨((((hQ.2 c2).2 c4) x5 e5) x6 e6).1, fun x7 e7 => fun x8 e8 => fun x9 e9 => fun x10 e10 => ih.2 _ _ _ ((((((((hQ.2 c2).2 c4) x5 e5) x6 e6).2 x7 e7) x8 e8) x9 e9) x10 e10) ((((((((hR.2 c2).2 c4) x5 e5) x6 e6).2 x7 e7) x8 e8) x9 e9) x10 e10)⟩⟩⟩
theorem wjX10_append {k : Nat} {t : XT} {a1 : Int32} {Q R : XT → Prop} (hQ : wqX10_append k t a1 Q) (hR : wqX10_append k t a1 R) : wqX10_append k t a1 (fun t => Q t ∧ R t) := (wkX10_appendj Q R k).1 t _ _ hQ hR
theorem wiX10_append {k : Nat} {t : XT} {a1 : Int32} {Q R S : XT → Prop} (hQ : wqX10_append k t a1 Q) (hR : wqX10_append k t a1 R) (f : ∀ t, Q t → R t → S t) : wqX10_append k t a1 S := wmX10_append (Nat.le_refl k) (fun t h => f t h.1 h.2) (wjX10_append hQ hR)
set_option maxHeartbeats 4000000 in
set_option maxRecDepth 100000 in
theorem wkX11_feedj (Q R : Int32 → XT → Prop) : ∀ k : Nat, (∀ (t : XT) (li : Nat → Int32) (lj : Nat → Int64), wpX11_feed k 0 t li lj Q → wpX11_feed k 0 t li lj R → wpX11_feed k 0 t li lj (fun r t => Q r t ∧ R r t)) := by
  intro k
  induction k with
  | zero => exact fun _ _ _ hR _ => False.elim hR
  | succ k ih =>
    intro t li lj hQ hR
    have hQ : wbX11_feed_0 (wpX11_feed k) k t li lj Q := hQ
    have hR : wbX11_feed_0 (wpX11_feed k) k t li lj R := hR
    show wbX11_feed_0 (wpX11_feed k) k t li lj (fun r t => Q r t ∧ R r t)
    unfold wbX11_feed_0 at hQ hR ⊢
    exact fun x1 e1 => ⟨fun c2 => wiX10_append ((hQ x1 e1).1 c2) ((hR x1 e1).1 c2) (fun y3_0 h3 i3 => wiX10_append h3 i3 (fun y4_0 h4 i4 => wiX10_append h4 i4 (fun y5_0 h5 i5 => wiX10_append h5 i5 (fun y6_0 h6 i6 => wiX10_append h6 i6 (fun y7_0 h7 i7 => ⟨h7, i7⟩))))), fun c8 => ⟨((hQ x1 e1).2 c8), ((hR x1 e1).2 c8)⟩⟩
theorem wjX11_feed {k : Nat} {t : XT} {a1 : Int32} {a2 : Int32} {a3 : Int32} {a4 : Int32} {a5 : Int32} {Q R : Int32 → XT → Prop} (hQ : wqX11_feed k t a1 a2 a3 a4 a5 Q) (hR : wqX11_feed k t a1 a2 a3 a4 a5 R) : wqX11_feed k t a1 a2 a3 a4 a5 (fun r t => Q r t ∧ R r t) := (wkX11_feedj Q R k) t _ _ hQ hR
theorem wiX11_feed {k : Nat} {t : XT} {a1 : Int32} {a2 : Int32} {a3 : Int32} {a4 : Int32} {a5 : Int32} {Q R S : Int32 → XT → Prop} (hQ : wqX11_feed k t a1 a2 a3 a4 a5 Q) (hR : wqX11_feed k t a1 a2 a3 a4 a5 R) (f : ∀ r t, Q r t → R r t → S r t) : wqX11_feed k t a1 a2 a3 a4 a5 S := wmX11_feed (Nat.le_refl k) (fun r t h => f r t h.1 h.2) (wjX11_feed hQ hR)
set_option maxHeartbeats 4000000 in
set_option maxRecDepth 100000 in
theorem wkX11_endj (Q R : Int32 → XT → Prop) : ∀ k : Nat, (∀ (t : XT) (li : Nat → Int32) (lj : Nat → Int64), wpX11_end k 0 t li lj Q → wpX11_end k 0 t li lj R → wpX11_end k 0 t li lj (fun r t => Q r t ∧ R r t)) ∧ (∀ (t : XT) (li : Nat → Int32) (lj : Nat → Int64), wpX11_end k 1 t li lj Q → wpX11_end k 1 t li lj R → wpX11_end k 1 t li lj (fun r t => Q r t ∧ R r t)) := by
  intro k
  induction k with
  | zero => exact ⟨fun _ _ _ hR _ => False.elim hR, fun _ _ _ hR _ => False.elim hR⟩
  | succ k ih =>
    refine ⟨?_, ?_⟩
    · intro t li lj hQ hR
      have hQ : wbX11_end_0 (wpX11_end k) k t li lj Q := hQ
      have hR : wbX11_end_0 (wpX11_end k) k t li lj R := hR
      show wbX11_end_0 (wpX11_end k) k t li lj (fun r t => Q r t ∧ R r t)
      unfold wbX11_end_0 at hQ hR ⊢
      exact ⟨fun c1 => ih.2 _ _ _ (hQ.1 c1) (hR.1 c1), fun c2 => ⟨fun c3 => fun x4 e4 => ⟨(((hQ.2 c2).1 c3) x4 e4), (((hR.2 c2).1 c3) x4 e4)⟩, fun c5 => ih.2 _ _ _ ((hQ.2 c2).2 c5) ((hR.2 c2).2 c5)⟩⟩
    · intro t li lj hQ hR
      have hQ : wbX11_end_1 (wpX11_end k) k t li lj Q := hQ
      have hR : wbX11_end_1 (wpX11_end k) k t li lj R := hR
      show wbX11_end_1 (wpX11_end k) k t li lj (fun r t => Q r t ∧ R r t)
      unfold wbX11_end_1 at hQ hR ⊢
      exact ⟨hQ, hR⟩
theorem wjX11_end {k : Nat} {t : XT} {a1 : Int32} {Q R : Int32 → XT → Prop} (hQ : wqX11_end k t a1 Q) (hR : wqX11_end k t a1 R) : wqX11_end k t a1 (fun r t => Q r t ∧ R r t) := (wkX11_endj Q R k).1 t _ _ hQ hR
theorem wiX11_end {k : Nat} {t : XT} {a1 : Int32} {Q R S : Int32 → XT → Prop} (hQ : wqX11_end k t a1 Q) (hR : wqX11_end k t a1 R) (f : ∀ r t, Q r t → R r t → S r t) : wqX11_end k t a1 S := wmX11_end (Nat.le_refl k) (fun r t h => f r t h.1 h.2) (wjX11_end hQ hR)
set_option maxHeartbeats 4000000 in
set_option maxRecDepth 100000 in
theorem wkX8_faultj (Q R : Int32 → Prop) : ∀ k : Nat, (∀ (li : Nat → Int32) (lj : Nat → Int64), wpX8_fault k 0 li lj Q → wpX8_fault k 0 li lj R → wpX8_fault k 0 li lj (fun r => Q r ∧ R r)) := by
  intro k
  induction k with
  | zero => exact fun _ _ hR _ => False.elim hR
  | succ k ih =>
    intro li lj hQ hR
    have hQ : wbX8_fault_0 (wpX8_fault k) k li lj Q := hQ
    have hR : wbX8_fault_0 (wpX8_fault k) k li lj R := hR
    show wbX8_fault_0 (wpX8_fault k) k li lj (fun r => Q r ∧ R r)
    unfold wbX8_fault_0 at hQ hR ⊢
    exact fun x1 e1 => fun x2 e2 => ⟨((hQ x1 e1) x2 e2), ((hR x1 e1) x2 e2)⟩
theorem wjX8_fault {k : Nat} {a0 : Int32} {a1 : Int32} {Q R : Int32 → Prop} (hQ : wqX8_fault k a0 a1 Q) (hR : wqX8_fault k a0 a1 R) : wqX8_fault k a0 a1 (fun r => Q r ∧ R r) := (wkX8_faultj Q R k) _ _ hQ hR
theorem wiX8_fault {k : Nat} {a0 : Int32} {a1 : Int32} {Q R S : Int32 → Prop} (hQ : wqX8_fault k a0 a1 Q) (hR : wqX8_fault k a0 a1 R) (f : ∀ r, Q r → R r → S r) : wqX8_fault k a0 a1 S := wmX8_fault (Nat.le_refl k) (fun r h => f r h.1 h.2) (wjX8_fault hQ hR)
set_option maxHeartbeats 4000000 in
set_option maxRecDepth 100000 in
theorem wkX10_atj (Q R : Int32 → XT → Prop) : ∀ k : Nat, (∀ (t : XT) (li : Nat → Int32) (lj : Nat → Int64), wpX10_at k 0 t li lj Q → wpX10_at k 0 t li lj R → wpX10_at k 0 t li lj (fun r t => Q r t ∧ R r t)) ∧ (∀ (t : XT) (li : Nat → Int32) (lj : Nat → Int64), wpX10_at k 1 t li lj Q → wpX10_at k 1 t li lj R → wpX10_at k 1 t li lj (fun r t => Q r t ∧ R r t)) := by
  intro k
  induction k with
  | zero => exact ⟨fun _ _ _ hR _ => False.elim hR, fun _ _ _ hR _ => False.elim hR⟩
  | succ k ih =>
    refine ⟨?_, ?_⟩
    · intro t li lj hQ hR
      have hQ : wbX10_at_0 (wpX10_at k) k t li lj Q := hQ
      have hR : wbX10_at_0 (wpX10_at k) k t li lj R := hR
      show wbX10_at_0 (wpX10_at k) k t li lj (fun r t => Q r t ∧ R r t)
      unfold wbX10_at_0 at hQ hR ⊢
      exact ⟨fun c1 => ih.2 _ _ _ (hQ.1 c1) (hR.1 c1), fun c2 => ⟨fun c3 => ih.2 _ _ _ ((hQ.2 c2).1 c3) ((hR.2 c2).1 c3), fun c4 => ⟨((hQ.2 c2).2 c4).1, fun x5 e5 => ⟨(((hQ.2 c2).2 c4).2 x5 e5), (((hR.2 c2).2 c4).2 x5 e5)⟩⟩⟩⟩
    · intro t li lj hQ hR
      have hQ : wbX10_at_1 (wpX10_at k) k t li lj Q := hQ
      have hR : wbX10_at_1 (wpX10_at k) k t li lj R := hR
      show wbX10_at_1 (wpX10_at k) k t li lj (fun r t => Q r t ∧ R r t)
      unfold wbX10_at_1 at hQ hR ⊢
      exact ⟨hQ, hR⟩
theorem wjX10_at {k : Nat} {t : XT} {a1 : Int32} {Q R : Int32 → XT → Prop} (hQ : wqX10_at k t a1 Q) (hR : wqX10_at k t a1 R) : wqX10_at k t a1 (fun r t => Q r t ∧ R r t) := (wkX10_atj Q R k).1 t _ _ hQ hR
theorem wiX10_at {k : Nat} {t : XT} {a1 : Int32} {Q R S : Int32 → XT → Prop} (hQ : wqX10_at k t a1 Q) (hR : wqX10_at k t a1 R) (f : ∀ r t, Q r t → R r t → S r t) : wqX10_at k t a1 S := wmX10_at (Nat.le_refl k) (fun r t h => f r t h.1 h.2) (wjX10_at hQ hR)
set_option maxHeartbeats 4000000 in
set_option maxRecDepth 100000 in
theorem wkX8_skipBlanks_c1j (Q R : XT → Prop) : ∀ k : Nat, (∀ (t : XT) (li : Nat → Int32) (lj : Nat → Int64), wpX8_skipBlanks_c1 k 0 t li lj Q → wpX8_skipBlanks_c1 k 0 t li lj R → wpX8_skipBlanks_c1 k 0 t li lj (fun t => Q t ∧ R t)) := by
  intro k
  induction k with
  | zero => exact fun _ _ _ hR _ => False.elim hR
  | succ k ih =>
    intro t li lj hQ hR
    have hQ : wbX8_skipBlanks_c1_0 (wpX8_skipBlanks_c1 k) k t li lj Q := hQ
    have hR : wbX8_skipBlanks_c1_0 (wpX8_skipBlanks_c1 k) k t li lj R := hR
    show wbX8_skipBlanks_c1_0 (wpX8_skipBlanks_c1 k) k t li lj (fun t => Q t ∧ R t)
    unfold wbX8_skipBlanks_c1_0 at hQ hR ⊢
    exact ⟨fun c1 => ⟨(hQ.1 c1), (hR.1 c1)⟩, fun c2 => wiX10_at (hQ.2 c2) (hR.2 c2) (fun y3_0 y3_1 h3 i3 => ⟨fun c4 => ⟨(h3.1 c4), (i3.1 c4)⟩, fun c5 => fun x6 e6 => fun x7 e7 => ih _ _ _ (((h3.2 c5) x6 e6) x7 e7) (((i3.2 c5) x6 e6) x7 e7)⟩)⟩
theorem wjX8_skipBlanks_c1 {k : Nat} {t : XT}  {Q R : XT → Prop} (hQ : wqX8_skipBlanks_c1 k t  Q) (hR : wqX8_skipBlanks_c1 k t  R) : wqX8_skipBlanks_c1 k t  (fun t => Q t ∧ R t) := (wkX8_skipBlanks_c1j Q R k) t _ _ hQ hR
theorem wiX8_skipBlanks_c1 {k : Nat} {t : XT}  {Q R S : XT → Prop} (hQ : wqX8_skipBlanks_c1 k t  Q) (hR : wqX8_skipBlanks_c1 k t  R) (f : ∀ t, Q t → R t → S t) : wqX8_skipBlanks_c1 k t  S := wmX8_skipBlanks_c1 (Nat.le_refl k) (fun t h => f t h.1 h.2) (wjX8_skipBlanks_c1 hQ hR)
set_option maxHeartbeats 4000000 in
set_option maxRecDepth 100000 in
theorem wkX8_isLetterj (Q R : Int32 → Prop) : ∀ k : Nat, (∀ (li : Nat → Int32) (lj : Nat → Int64), wpX8_isLetter k 0 li lj Q → wpX8_isLetter k 0 li lj R → wpX8_isLetter k 0 li lj (fun r => Q r ∧ R r)) ∧ (∀ (li : Nat → Int32) (lj : Nat → Int64), wpX8_isLetter k 1 li lj Q → wpX8_isLetter k 1 li lj R → wpX8_isLetter k 1 li lj (fun r => Q r ∧ R r)) := by
  intro k
  induction k with
  | zero => exact ⟨fun _ _ hR _ => False.elim hR, fun _ _ hR _ => False.elim hR⟩
  | succ k ih =>
    refine ⟨?_, ?_⟩
    · intro li lj hQ hR
      have hQ : wbX8_isLetter_0 (wpX8_isLetter k) k li lj Q := hQ
      have hR : wbX8_isLetter_0 (wpX8_isLetter k) k li lj R := hR
      show wbX8_isLetter_0 (wpX8_isLetter k) k li lj (fun r => Q r ∧ R r)
      unfold wbX8_isLetter_0 at hQ hR ⊢
      exact ⟨fun c1 => ih.2 _ _ (hQ.1 c1) (hR.1 c1), fun c2 => ⟨fun c3 => ih.2 _ _ ((hQ.2 c2).1 c3) ((hR.2 c2).1 c3), fun c4 => ⟨((hQ.2 c2).2 c4), ((hR.2 c2).2 c4)⟩⟩⟩
    · intro li lj hQ hR
      have hQ : wbX8_isLetter_1 (wpX8_isLetter k) k li lj Q := hQ
      have hR : wbX8_isLetter_1 (wpX8_isLetter k) k li lj R := hR
      show wbX8_isLetter_1 (wpX8_isLetter k) k li lj (fun r => Q r ∧ R r)
      unfold wbX8_isLetter_1 at hQ hR ⊢
      exact ⟨hQ, hR⟩
theorem wjX8_isLetter {k : Nat} {a0 : Int32} {Q R : Int32 → Prop} (hQ : wqX8_isLetter k a0 Q) (hR : wqX8_isLetter k a0 R) : wqX8_isLetter k a0 (fun r => Q r ∧ R r) := (wkX8_isLetterj Q R k).1 _ _ hQ hR
theorem wiX8_isLetter {k : Nat} {a0 : Int32} {Q R S : Int32 → Prop} (hQ : wqX8_isLetter k a0 Q) (hR : wqX8_isLetter k a0 R) (f : ∀ r, Q r → R r → S r) : wqX8_isLetter k a0 S := wmX8_isLetter (Nat.le_refl k) (fun r h => f r h.1 h.2) (wjX8_isLetter hQ hR)
set_option maxHeartbeats 4000000 in
set_option maxRecDepth 100000 in
theorem wkX8_tellj (Q R : XT → Prop) : ∀ k : Nat, (∀ (t : XT) (li : Nat → Int32) (lj : Nat → Int64), wpX8_tell k 0 t li lj Q → wpX8_tell k 0 t li lj R → wpX8_tell k 0 t li lj (fun t => Q t ∧ R t)) ∧ (∀ (t : XT) (li : Nat → Int32) (lj : Nat → Int64), wpX8_tell k 1 t li lj Q → wpX8_tell k 1 t li lj R → wpX8_tell k 1 t li lj (fun t => Q t ∧ R t)) ∧ (∀ (t : XT) (li : Nat → Int32) (lj : Nat → Int64), wpX8_tell k 2 t li lj Q → wpX8_tell k 2 t li lj R → wpX8_tell k 2 t li lj (fun t => Q t ∧ R t)) := by
  intro k
  induction k with
  | zero => exact ⟨fun _ _ _ hR _ => False.elim hR, fun _ _ _ hR _ => False.elim hR, fun _ _ _ hR _ => False.elim hR⟩
  | succ k ih =>
    refine ⟨?_, ?_, ?_⟩
    · intro t li lj hQ hR
      have hQ : wbX8_tell_0 (wpX8_tell k) k t li lj Q := hQ
      have hR : wbX8_tell_0 (wpX8_tell k) k t li lj R := hR
      show wbX8_tell_0 (wpX8_tell k) k t li lj (fun t => Q t ∧ R t)
      unfold wbX8_tell_0 at hQ hR ⊢
      exact ih.2.1 _ _ _ hQ hR
    · intro t li lj hQ hR
      have hQ : wbX8_tell_1 (wpX8_tell k) k t li lj Q := hQ
      have hR : wbX8_tell_1 (wpX8_tell k) k t li lj R := hR
      show wbX8_tell_1 (wpX8_tell k) k t li lj (fun t => Q t ∧ R t)
      unfold wbX8_tell_1 at hQ hR ⊢
      exact ⟨fun c1 => ⟨(hQ.1 c1), (hR.1 c1)⟩, fun c2 => ⟨fun c3 => ⟨((hQ.2 c2).1 c3), ((hR.2 c2).1 c3)⟩, fun c4 => fun x5 e5 => fun x6 e6 => ⟨fun c7 => ih.2.2 _ _ _ (((((hQ.2 c2).2 c4) x5 e5) x6 e6).1 c7) (((((hR.2 c2).2 c4) x5 e5) x6 e6).1 c7), fun c8 => ⟨(((((hQ.2 c2).2 c4) x5 e5) x6 e6).2 c8).1, fun x9 e9 => ⟨fun c10 => ih.2.2 _ _ _ (((((((hQ.2 c2).2 c4) x5 e5) x6 e6).2 c8).2 x9 e9).1 c10) (((((((hR.2 c2).2 c4) x5 e5) x6 e6).2 c8).2 x9 e9).1 c10), fun c11 => ⟨(((((((hQ.2 c2).2 c4) x5 e5) x6 e6).2 c8).2 x9 e9).2 c11).1, fun x12 e12 => fun x13 e13 => fun x14 e14 => ih.2.2 _ _ _ ((((((((((hQ.2 c2).2 c4) x5 e5) x6 e6).2 c8).2 x9 e9).2 c11).2 x12 e12) x13 e13) x14 e14) ((((((((((hR.2 c2).2 c4) x5 e5) x6 e6).2 c8).2 x9 e9).2 c11).2 x12 e12) x13 e13) x14 e14)⟩⟩⟩⟩⟩⟩
    · intro t li lj hQ hR
      have hQ : wbX8_tell_2 (wpX8_tell k) k t li lj Q := hQ
      have hR : wbX8_tell_2 (wpX8_tell k) k t li lj R := hR
      show wbX8_tell_2 (wpX8_tell k) k t li lj (fun t => Q t ∧ R t)
      unfold wbX8_tell_2 at hQ hR ⊢
      exact fun x1 e1 => ih.2.1 _ _ _ (hQ x1 e1) (hR x1 e1)
theorem wjX8_tell {k : Nat} {t : XT} {a1 : Int32} {Q R : XT → Prop} (hQ : wqX8_tell k t a1 Q) (hR : wqX8_tell k t a1 R) : wqX8_tell k t a1 (fun t => Q t ∧ R t) := (wkX8_tellj Q R k).1 t _ _ hQ hR
theorem wiX8_tell {k : Nat} {t : XT} {a1 : Int32} {Q R S : XT → Prop} (hQ : wqX8_tell k t a1 Q) (hR : wqX8_tell k t a1 R) (f : ∀ t, Q t → R t → S t) : wqX8_tell k t a1 S := wmX8_tell (Nat.le_refl k) (fun t h => f t h.1 h.2) (wjX8_tell hQ hR)
set_option maxHeartbeats 4000000 in
set_option maxRecDepth 100000 in
theorem wkX8_readFacet_c1j (Q R : Int32 → XT → Prop) : ∀ k : Nat, (∀ (t : XT) (li : Nat → Int32) (lj : Nat → Int64), wpX8_readFacet_c1 k 0 t li lj Q → wpX8_readFacet_c1 k 0 t li lj R → wpX8_readFacet_c1 k 0 t li lj (fun r t => Q r t ∧ R r t)) ∧ (∀ (t : XT) (li : Nat → Int32) (lj : Nat → Int64), wpX8_readFacet_c1 k 1 t li lj Q → wpX8_readFacet_c1 k 1 t li lj R → wpX8_readFacet_c1 k 1 t li lj (fun r t => Q r t ∧ R r t)) ∧ (∀ (t : XT) (li : Nat → Int32) (lj : Nat → Int64), wpX8_readFacet_c1 k 2 t li lj Q → wpX8_readFacet_c1 k 2 t li lj R → wpX8_readFacet_c1 k 2 t li lj (fun r t => Q r t ∧ R r t)) := by
  intro k
  induction k with
  | zero => exact ⟨fun _ _ _ hR _ => False.elim hR, fun _ _ _ hR _ => False.elim hR, fun _ _ _ hR _ => False.elim hR⟩
  | succ k ih =>
    refine ⟨?_, ?_, ?_⟩
    · intro t li lj hQ hR
      have hQ : wbX8_readFacet_c1_0 (wpX8_readFacet_c1 k) k t li lj Q := hQ
      have hR : wbX8_readFacet_c1_0 (wpX8_readFacet_c1 k) k t li lj R := hR
      show wbX8_readFacet_c1_0 (wpX8_readFacet_c1 k) k t li lj (fun r t => Q r t ∧ R r t)
      unfold wbX8_readFacet_c1_0 at hQ hR ⊢
      exact wiX10_at hQ hR (fun y1_0 y1_1 h1 i1 => wiX8_isLetter h1 i1 (fun y2_0 h2 i2 => ⟨fun c3 => ⟨fun c4 => ih.2.1 _ _ _ ((h2.1 c3).1 c4) ((i2.1 c3).1 c4), fun c5 => wiX8_fault ((h2.1 c3).2 c5) ((i2.1 c3).2 c5) (fun y6_0 h6 i6 => ⟨h6, i6⟩)⟩, fun c7 => wiX8_fault (h2.2 c7) (i2.2 c7) (fun y8_0 h8 i8 => ⟨h8, i8⟩)⟩))
    · intro t li lj hQ hR
      have hQ : wbX8_readFacet_c1_1 (wpX8_readFacet_c1 k) k t li lj Q := hQ
      have hR : wbX8_readFacet_c1_1 (wpX8_readFacet_c1 k) k t li lj R := hR
      show wbX8_readFacet_c1_1 (wpX8_readFacet_c1 k) k t li lj (fun r t => Q r t ∧ R r t)
      unfold wbX8_readFacet_c1_1 at hQ hR ⊢
      exact ⟨fun c1 => ih.2.2 _ _ _ (hQ.1 c1) (hR.1 c1), fun c2 => wiX10_at (hQ.2 c2) (hR.2 c2) (fun y3_0 y3_1 h3 i3 => wiX8_isLetter h3 i3 (fun y4_0 h4 i4 => ⟨fun c5 => ih.2.2 _ _ _ (h4.1 c5) (i4.1 c5), fun c6 => wiX10_at (h4.2 c6) (i4.2 c6) (fun y7_0 y7_1 h7 i7 => fun x8 e8 => fun x9 e9 => fun x10 e10 => ⟨fun c11 => wiJ6_bitCount_0f7a4 ((((h7 x8 e8) x9 e9) x10 e10).1 c11) ((((i7 x8 e8) x9 e9) x10 e10).1 c11) (fun y12_0 h12 i12 => ⟨fun c13 => fun x14 e14 => fun x15 e15 => fun x16 e16 => ih.2.1 _ _ _ ((((h12.1 c13) x14 e14) x15 e15) x16 e16) ((((i12.1 c13) x14 e14) x15 e15) x16 e16), fun c17 => wiX8_fault (h12.2 c17) (i12.2 c17) (fun y18_0 h18 i18 => ⟨h18, i18⟩)⟩), fun c19 => wiX8_fault ((((h7 x8 e8) x9 e9) x10 e10).2 c19) ((((i7 x8 e8) x9 e9) x10 e10).2 c19) (fun y20_0 h20 i20 => ⟨h20, i20⟩)⟩)⟩))⟩
    · intro t li lj hQ hR
      have hQ : wbX8_readFacet_c1_2 (wpX8_readFacet_c1 k) k t li lj Q := hQ
      have hR : wbX8_readFacet_c1_2 (wpX8_readFacet_c1 k) k t li lj R := hR
      show wbX8_readFacet_c1_2 (wpX8_readFacet_c1 k) k t li lj (fun r t => Q r t ∧ R r t)
      unfold wbX8_readFacet_c1_2 at hQ hR ⊢
      exact wiX8_tell hQ hR (fun y1_0 h1 i1 => ⟨fun c2 => ⟨(h1.1 c2), (i1.1 c2)⟩, fun c3 => wiX8_fault (h1.2 c3) (i1.2 c3) (fun y4_0 h4 i4 => ⟨h4, i4⟩)⟩)
theorem wjX8_readFacet_c1 {k : Nat} {t : XT} {a2 : Int32} {Q R : Int32 → XT → Prop} (hQ : wqX8_readFacet_c1 k t a2 Q) (hR : wqX8_readFacet_c1 k t a2 R) : wqX8_readFacet_c1 k t a2 (fun r t => Q r t ∧ R r t) := (wkX8_readFacet_c1j Q R k).1 t _ _ hQ hR
theorem wiX8_readFacet_c1 {k : Nat} {t : XT} {a2 : Int32} {Q R S : Int32 → XT → Prop} (hQ : wqX8_readFacet_c1 k t a2 Q) (hR : wqX8_readFacet_c1 k t a2 R) (f : ∀ r t, Q r t → R r t → S r t) : wqX8_readFacet_c1 k t a2 S := wmX8_readFacet_c1 (Nat.le_refl k) (fun r t h => f r t h.1 h.2) (wjX8_readFacet_c1 hQ hR)
set_option maxHeartbeats 4000000 in
set_option maxRecDepth 100000 in
theorem wkX8_read_c1j (Q R : Int32 → XT → Prop) : ∀ k : Nat, (∀ (t : XT) (li : Nat → Int32) (lj : Nat → Int64), wpX8_read_c1 k 0 t li lj Q → wpX8_read_c1 k 0 t li lj R → wpX8_read_c1 k 0 t li lj (fun r t => Q r t ∧ R r t)) ∧ (∀ (t : XT) (li : Nat → Int32) (lj : Nat → Int64), wpX8_read_c1 k 1 t li lj Q → wpX8_read_c1 k 1 t li lj R → wpX8_read_c1 k 1 t li lj (fun r t => Q r t ∧ R r t)) := by
  intro k
  induction k with
  | zero => exact ⟨fun _ _ _ hR _ => False.elim hR, fun _ _ _ hR _ => False.elim hR⟩
  | succ k ih =>
    refine ⟨?_, ?_⟩
    · intro t li lj hQ hR
      have hQ : wbX8_read_c1_0 (wpX8_read_c1 k) k t li lj Q := hQ
      have hR : wbX8_read_c1_0 (wpX8_read_c1 k) k t li lj R := hR
      show wbX8_read_c1_0 (wpX8_read_c1 k) k t li lj (fun r t => Q r t ∧ R r t)
      unfold wbX8_read_c1_0 at hQ hR ⊢
      exact fun x1 e1 => fun x2 e2 => fun x3 e3 => ih.2 _ _ _ (((hQ x1 e1) x2 e2) x3 e3) (((hR x1 e1) x2 e2) x3 e3)
    · intro t li lj hQ hR
      have hQ : wbX8_read_c1_1 (wpX8_read_c1 k) k t li lj Q := hQ
      have hR : wbX8_read_c1_1 (wpX8_read_c1 k) k t li lj R := hR
      show wbX8_read_c1_1 (wpX8_read_c1 k) k t li lj (fun r t => Q r t ∧ R r t)
      unfold wbX8_read_c1_1 at hQ hR ⊢
      exact ⟨fun c1 => wiX8_fault (hQ.1 c1) (hR.1 c1) (fun y2_0 h2 i2 => ⟨h2, i2⟩), fun c3 => wiX8_skipBlanks_c1 (hQ.2 c3) (hR.2 c3) (fun y4_0 h4 i4 => wiX8_readFacet_c1 h4 i4 (fun y5_0 y5_1 h5 i5 => ⟨fun c6 => wiX8_skipBlanks_c1 (h5.1 c6) (i5.1 c6) (fun y7_0 h7 i7 => ⟨fun c8 => wiX10_at (h7.1 c8) (i7.1 c8) (fun y9_0 y9_1 h9 i9 => ⟨fun c10 => fun x11 e11 => fun x12 e12 => fun x13 e13 => ih.2 _ _ _ ((((h9.1 c10) x11 e11) x12 e12) x13 e13) ((((i9.1 c10) x11 e11) x12 e12) x13 e13), fun c14 => wiX8_fault (h9.2 c14) (i9.2 c14) (fun y15_0 h15 i15 => ⟨h15, i15⟩)⟩), fun c16 => ⟨(h7.2 c16), (i7.2 c16)⟩⟩), fun c17 => ⟨(h5.2 c17), (i5.2 c17)⟩⟩))⟩
theorem wjX8_read_c1 {k : Nat} {t : XT}  {Q R : Int32 → XT → Prop} (hQ : wqX8_read_c1 k t  Q) (hR : wqX8_read_c1 k t  R) : wqX8_read_c1 k t  (fun r t => Q r t ∧ R r t) := (wkX8_read_c1j Q R k).1 t _ _ hQ hR
theorem wiX8_read_c1 {k : Nat} {t : XT}  {Q R S : Int32 → XT → Prop} (hQ : wqX8_read_c1 k t  Q) (hR : wqX8_read_c1 k t  R) (f : ∀ r t, Q r t → R r t → S r t) : wqX8_read_c1 k t  S := wmX8_read_c1 (Nat.le_refl k) (fun r t h => f r t h.1 h.2) (wjX8_read_c1 hQ hR)
set_option maxHeartbeats 4000000 in
set_option maxRecDepth 100000 in
theorem wkX11_bitj (Q R : Int64 → Prop) : ∀ k : Nat, (∀ (li : Nat → Int32) (lj : Nat → Int64), wpX11_bit k 0 li lj Q → wpX11_bit k 0 li lj R → wpX11_bit k 0 li lj (fun r => Q r ∧ R r)) := by
  intro k
  induction k with
  | zero => exact fun _ _ hR _ => False.elim hR
  | succ k ih =>
    intro li lj hQ hR
    have hQ : wbX11_bit_0 (wpX11_bit k) k li lj Q := hQ
    have hR : wbX11_bit_0 (wpX11_bit k) k li lj R := hR
    show wbX11_bit_0 (wpX11_bit k) k li lj (fun r => Q r ∧ R r)
    unfold wbX11_bit_0 at hQ hR ⊢
    exact fun x1 e1 => ⟨(hQ x1 e1), (hR x1 e1)⟩
theorem wjX11_bit {k : Nat} {a0 : Int32} {Q R : Int64 → Prop} (hQ : wqX11_bit k a0 Q) (hR : wqX11_bit k a0 R) : wqX11_bit k a0 (fun r => Q r ∧ R r) := (wkX11_bitj Q R k) _ _ hQ hR
theorem wiX11_bit {k : Nat} {a0 : Int32} {Q R S : Int64 → Prop} (hQ : wqX11_bit k a0 Q) (hR : wqX11_bit k a0 R) (f : ∀ r, Q r → R r → S r) : wqX11_bit k a0 S := wmX11_bit (Nat.le_refl k) (fun r h => f r h.1 h.2) (wjX11_bit hQ hR)
set_option maxHeartbeats 4000000 in
set_option maxRecDepth 100000 in
theorem wkX9_addj (Q R : XT → Prop) : ∀ k : Nat, (∀ (t : XT) (li : Nat → Int32) (lj : Nat → Int64), wpX9_add k 0 t li lj Q → wpX9_add k 0 t li lj R → wpX9_add k 0 t li lj (fun t => Q t ∧ R t)) ∧ (∀ (t : XT) (li : Nat → Int32) (lj : Nat → Int64), wpX9_add k 1 t li lj Q → wpX9_add k 1 t li lj R → wpX9_add k 1 t li lj (fun t => Q t ∧ R t)) ∧ (∀ (t : XT) (li : Nat → Int32) (lj : Nat → Int64), wpX9_add k 2 t li lj Q → wpX9_add k 2 t li lj R → wpX9_add k 2 t li lj (fun t => Q t ∧ R t)) ∧ (∀ (t : XT) (li : Nat → Int32) (lj : Nat → Int64), wpX9_add k 3 t li lj Q → wpX9_add k 3 t li lj R → wpX9_add k 3 t li lj (fun t => Q t ∧ R t)) := by
  intro k
  induction k with
  | zero => exact ⟨fun _ _ _ hR _ => False.elim hR, fun _ _ _ hR _ => False.elim hR, fun _ _ _ hR _ => False.elim hR, fun _ _ _ hR _ => False.elim hR⟩
  | succ k ih =>
    refine ⟨?_, ?_, ?_, ?_⟩
    · intro t li lj hQ hR
      have hQ : wbX9_add_0 (wpX9_add k) k t li lj Q := hQ
      have hR : wbX9_add_0 (wpX9_add k) k t li lj R := hR
      show wbX9_add_0 (wpX9_add k) k t li lj (fun t => Q t ∧ R t)
      unfold wbX9_add_0 at hQ hR ⊢
      exact ⟨hQ.1, fun x1 e1 => ⟨(hQ.2 x1 e1).1, fun x2 e2 => ⟨((hQ.2 x1 e1).2 x2 e2).1, fun x3 e3 => ⟨(((hQ.2 x1 e1).2 x2 e2).2 x3 e3).1, fun x4 e4 => wiX11_bit ((((hQ.2 x1 e1).2 x2 e2).2 x3 e3).2 x4 e4) ((((hR.2 x1 e1).2 x2 e2).2 x3 e3).2 x4 e4) (fun y5_0 h5 i5 => fun x6 e6 => ⟨(h5 x6 e6).1, fun x7 e7 => ih.2.1 _ _ _ ((h5 x6 e6).2 x7 e7) ((i5 x6 e6).2 x7 e7)⟩)⟩⟩⟩⟩
    · intro t li lj hQ hR
      have hQ : wbX9_add_1 (wpX9_add k) k t li lj Q := hQ
      have hR : wbX9_add_1 (wpX9_add k) k t li lj R := hR
      show wbX9_add_1 (wpX9_add k) k t li lj (fun t => Q t ∧ R t)
      unfold wbX9_add_1 at hQ hR ⊢
      exact ⟨fun c1 => fun x2 e2 => fun x3 e3 => ⟨(((hQ.1 c1) x2 e2) x3 e3), (((hR.1 c1) x2 e2) x3 e3)⟩, fun c4 => fun x5 e5 => fun x6 e6 => fun x7 e7 => ⟨fun c8 => ih.2.2.1 _ _ _ (((((hQ.2 c4) x5 e5) x6 e6) x7 e7).1 c8) (((((hR.2 c4) x5 e5) x6 e6) x7 e7).1 c8), fun c9 => ⟨(((((hQ.2 c4) x5 e5) x6 e6) x7 e7).2 c9).1, fun x10 e10 => ih.2.2.1 _ _ _ ((((((hQ.2 c4) x5 e5) x6 e6) x7 e7).2 c9).2 x10 e10) ((((((hR.2 c4) x5 e5) x6 e6) x7 e7).2 c9).2 x10 e10)⟩⟩⟩
    · intro t li lj hQ hR
      have hQ : wbX9_add_2 (wpX9_add k) k t li lj Q := hQ
      have hR : wbX9_add_2 (wpX9_add k) k t li lj R := hR
      show wbX9_add_2 (wpX9_add k) k t li lj (fun t => Q t ∧ R t)
      unfold wbX9_add_2 at hQ hR ⊢
      exact ⟨fun c1 => ih.2.2.2 _ _ _ (hQ.1 c1) (hR.1 c1), fun c2 => ⟨(hQ.2 c2).1, fun x3 e3 => wiX11_bit ((hQ.2 c2).2 x3 e3) ((hR.2 c2).2 x3 e3) (fun y4_0 h4 i4 => fun x5 e5 => ⟨(h4 x5 e5).1, fun x6 e6 => ⟨((h4 x5 e5).2 x6 e6).1, fun x7 e7 => wiX11_bit (((h4 x5 e5).2 x6 e6).2 x7 e7) (((i4 x5 e5).2 x6 e6).2 x7 e7) (fun y8_0 h8 i8 => fun x9 e9 => ⟨(h8 x9 e9).1, fun x10 e10 => ih.2.2.2 _ _ _ ((h8 x9 e9).2 x10 e10) ((i8 x9 e9).2 x10 e10)⟩)⟩⟩)⟩⟩
    · intro t li lj hQ hR
      have hQ : wbX9_add_3 (wpX9_add k) k t li lj Q := hQ
      have hR : wbX9_add_3 (wpX9_add k) k t li lj R := hR
      show wbX9_add_3 (wpX9_add k) k t li lj (fun t => Q t ∧ R t)
      unfold wbX9_add_3 at hQ hR ⊢
      exact fun x1 e1 => ih.2.1 _ _ _ (hQ x1 e1) (hR x1 e1)
theorem wjX9_add {k : Nat} {t : XT} {a1 : Int32} {a2 : Int32} {Q R : XT → Prop} (hQ : wqX9_add k t a1 a2 Q) (hR : wqX9_add k t a1 a2 R) : wqX9_add k t a1 a2 (fun t => Q t ∧ R t) := (wkX9_addj Q R k).1 t _ _ hQ hR
theorem wiX9_add {k : Nat} {t : XT} {a1 : Int32} {a2 : Int32} {Q R S : XT → Prop} (hQ : wqX9_add k t a1 a2 Q) (hR : wqX9_add k t a1 a2 R) (f : ∀ t, Q t → R t → S t) : wqX9_add k t a1 a2 S := wmX9_add (Nat.le_refl k) (fun t h => f t h.1 h.2) (wjX9_add hQ hR)
set_option maxHeartbeats 4000000 in
set_option maxRecDepth 100000 in
theorem wkX9_build_c13j (Q R : XT → Prop) : ∀ k : Nat, (∀ (t : XT) (li : Nat → Int32) (lj : Nat → Int64), wpX9_build_c13 k 0 t li lj Q → wpX9_build_c13 k 0 t li lj R → wpX9_build_c13 k 0 t li lj (fun t => Q t ∧ R t)) ∧ (∀ (t : XT) (li : Nat → Int32) (lj : Nat → Int64), wpX9_build_c13 k 1 t li lj Q → wpX9_build_c13 k 1 t li lj R → wpX9_build_c13 k 1 t li lj (fun t => Q t ∧ R t)) ∧ (∀ (t : XT) (li : Nat → Int32) (lj : Nat → Int64), wpX9_build_c13 k 2 t li lj Q → wpX9_build_c13 k 2 t li lj R → wpX9_build_c13 k 2 t li lj (fun t => Q t ∧ R t)) ∧ (∀ (t : XT) (li : Nat → Int32) (lj : Nat → Int64), wpX9_build_c13 k 3 t li lj Q → wpX9_build_c13 k 3 t li lj R → wpX9_build_c13 k 3 t li lj (fun t => Q t ∧ R t)) ∧ (∀ (t : XT) (li : Nat → Int32) (lj : Nat → Int64), wpX9_build_c13 k 4 t li lj Q → wpX9_build_c13 k 4 t li lj R → wpX9_build_c13 k 4 t li lj (fun t => Q t ∧ R t)) := by
  intro k
  induction k with
  | zero => exact ⟨fun _ _ _ hR _ => False.elim hR, fun _ _ _ hR _ => False.elim hR, fun _ _ _ hR _ => False.elim hR, fun _ _ _ hR _ => False.elim hR, fun _ _ _ hR _ => False.elim hR⟩
  | succ k ih =>
    refine ⟨?_, ?_, ?_, ?_, ?_⟩
    · intro t li lj hQ hR
      have hQ : wbX9_build_c13_0 (wpX9_build_c13 k) k t li lj Q := hQ
      have hR : wbX9_build_c13_0 (wpX9_build_c13 k) k t li lj R := hR
      show wbX9_build_c13_0 (wpX9_build_c13 k) k t li lj (fun t => Q t ∧ R t)
      unfold wbX9_build_c13_0 at hQ hR ⊢
      exact fun x1 e1 => fun x2 e2 => fun x3 e3 => fun x4 e4 => fun x5 e5 => ih.2.1 _ _ _ (((((hQ x1 e1) x2 e2) x3 e3) x4 e4) x5 e5) (((((hR x1 e1) x2 e2) x3 e3) x4 e4) x5 e5)
    · intro t li lj hQ hR
      have hQ : wbX9_build_c13_1 (wpX9_build_c13 k) k t li lj Q := hQ
      have hR : wbX9_build_c13_1 (wpX9_build_c13 k) k t li lj R := hR
      show wbX9_build_c13_1 (wpX9_build_c13 k) k t li lj (fun t => Q t ∧ R t)
      unfold wbX9_build_c13_1 at hQ hR ⊢
      exact ⟨fun c1 => ⟨(hQ.1 c1), (hR.1 c1)⟩, fun c2 => ih.2.2.1 _ _ _ (hQ.2 c2) (hR.2 c2)⟩
    · intro t li lj hQ hR
      have hQ : wbX9_build_c13_2 (wpX9_build_c13 k) k t li lj Q := hQ
      have hR : wbX9_build_c13_2 (wpX9_build_c13 k) k t li lj R := hR
      show wbX9_build_c13_2 (wpX9_build_c13 k) k t li lj (fun t => Q t ∧ R t)
      unfold wbX9_build_c13_2 at hQ hR ⊢
      exact ⟨fun c1 => ih.2.2.2.2 _ _ _ (hQ.1 c1) (hR.1 c1), fun c2 => ⟨fun c3 => ih.2.2.2.2 _ _ _ ((hQ.2 c2).1 c3) ((hR.2 c2).1 c3), fun c4 => ⟨((hQ.2 c2).2 c4).1, fun x5 e5 => ⟨fun c6 => ih.2.2.2.1 _ _ _ ((((hQ.2 c2).2 c4).2 x5 e5).1 c6) ((((hR.2 c2).2 c4).2 x5 e5).1 c6), fun c7 => wiJ6_bitCount_0f7a4 ((((hQ.2 c2).2 c4).2 x5 e5).2 c7) ((((hR.2 c2).2 c4).2 x5 e5).2 c7) (fun y8_0 h8 i8 => fun x9 e9 => ⟨fun c10 => ih.2.2.2.1 _ _ _ ((h8 x9 e9).1 c10) ((i8 x9 e9).1 c10), fun c11 => ⟨fun c12 => ih.2.2.2.1 _ _ _ (((h8 x9 e9).2 c11).1 c12) (((i8 x9 e9).2 c11).1 c12), fun c13 => wiX9_add (((h8 x9 e9).2 c11).2 c13) (((i8 x9 e9).2 c11).2 c13) (fun y14_0 h14 i14 => ih.2.2.2.1 _ _ _ h14 i14)⟩⟩)⟩⟩⟩⟩
    · intro t li lj hQ hR
      have hQ : wbX9_build_c13_3 (wpX9_build_c13 k) k t li lj Q := hQ
      have hR : wbX9_build_c13_3 (wpX9_build_c13 k) k t li lj R := hR
      show wbX9_build_c13_3 (wpX9_build_c13 k) k t li lj (fun t => Q t ∧ R t)
      unfold wbX9_build_c13_3 at hQ hR ⊢
      exact fun x1 e1 => ih.2.2.1 _ _ _ (hQ x1 e1) (hR x1 e1)
    · intro t li lj hQ hR
      have hQ : wbX9_build_c13_4 (wpX9_build_c13 k) k t li lj Q := hQ
      have hR : wbX9_build_c13_4 (wpX9_build_c13 k) k t li lj R := hR
      show wbX9_build_c13_4 (wpX9_build_c13 k) k t li lj (fun t => Q t ∧ R t)
      unfold wbX9_build_c13_4 at hQ hR ⊢
      exact fun x1 e1 => ih.2.1 _ _ _ (hQ x1 e1) (hR x1 e1)
theorem wjX9_build_c13 {k : Nat} {t : XT}  {Q R : XT → Prop} (hQ : wqX9_build_c13 k t  Q) (hR : wqX9_build_c13 k t  R) : wqX9_build_c13 k t  (fun t => Q t ∧ R t) := (wkX9_build_c13j Q R k).1 t _ _ hQ hR
theorem wiX9_build_c13 {k : Nat} {t : XT}  {Q R S : XT → Prop} (hQ : wqX9_build_c13 k t  Q) (hR : wqX9_build_c13 k t  R) (f : ∀ t, Q t → R t → S t) : wqX9_build_c13 k t  S := wmX9_build_c13 (Nat.le_refl k) (fun t h => f t h.1 h.2) (wjX9_build_c13 hQ hR)
set_option maxHeartbeats 4000000 in
set_option maxRecDepth 100000 in
theorem wkX9_allj (Q R : Int64 → XT → Prop) : ∀ k : Nat, (∀ (t : XT) (li : Nat → Int32) (lj : Nat → Int64), wpX9_all k 0 t li lj Q → wpX9_all k 0 t li lj R → wpX9_all k 0 t li lj (fun r t => Q r t ∧ R r t)) := by
  intro k
  induction k with
  | zero => exact fun _ _ _ hR _ => False.elim hR
  | succ k ih =>
    intro t li lj hQ hR
    have hQ : wbX9_all_0 (wpX9_all k) k t li lj Q := hQ
    have hR : wbX9_all_0 (wpX9_all k) k t li lj R := hR
    show wbX9_all_0 (wpX9_all k) k t li lj (fun r t => Q r t ∧ R r t)
    unfold wbX9_all_0 at hQ hR ⊢
    exact wiX11_bit hQ hR (fun y1_0 h1 i1 => fun x2 e2 => ⟨(h1 x2 e2), (i1 x2 e2)⟩)
theorem wjX9_all {k : Nat} {t : XT}  {Q R : Int64 → XT → Prop} (hQ : wqX9_all k t  Q) (hR : wqX9_all k t  R) : wqX9_all k t  (fun r t => Q r t ∧ R r t) := (wkX9_allj Q R k) t _ _ hQ hR
theorem wiX9_all {k : Nat} {t : XT}  {Q R S : Int64 → XT → Prop} (hQ : wqX9_all k t  Q) (hR : wqX9_all k t  R) (f : ∀ r t, Q r t → R r t → S r t) : wqX9_all k t  S := wmX9_all (Nat.le_refl k) (fun r t h => f r t h.1 h.2) (wjX9_all hQ hR)
set_option maxHeartbeats 4000000 in
set_option maxRecDepth 100000 in
theorem wkX6_restartj (Q R : XT → Prop) : ∀ k : Nat, (∀ (t : XT) (li : Nat → Int32) (lj : Nat → Int64), wpX6_restart k 0 t li lj Q → wpX6_restart k 0 t li lj R → wpX6_restart k 0 t li lj (fun t => Q t ∧ R t)) := by
  intro k
  induction k with
  | zero => exact fun _ _ _ hR _ => False.elim hR
  | succ k ih =>
    intro t li lj hQ hR
    have hQ : wbX6_restart_0 (wpX6_restart k) k t li lj Q := hQ
    have hR : wbX6_restart_0 (wpX6_restart k) k t li lj R := hR
    show wbX6_restart_0 (wpX6_restart k) k t li lj (fun t => Q t ∧ R t)
    unfold wbX6_restart_0 at hQ hR ⊢
    exact fun x1 e1 => fun x2 e2 => fun x3 e3 => fun x4 e4 => fun x5 e5 => fun x6 e6 => ⟨((((((hQ x1 e1) x2 e2) x3 e3) x4 e4) x5 e5) x6 e6), ((((((hR x1 e1) x2 e2) x3 e3) x4 e4) x5 e5) x6 e6)⟩
theorem wjX6_restart {k : Nat} {t : XT} {a1 : Int64} {Q R : XT → Prop} (hQ : wqX6_restart k t a1 Q) (hR : wqX6_restart k t a1 R) : wqX6_restart k t a1 (fun t => Q t ∧ R t) := (wkX6_restartj Q R k) t _ _ hQ hR
theorem wiX6_restart {k : Nat} {t : XT} {a1 : Int64} {Q R S : XT → Prop} (hQ : wqX6_restart k t a1 Q) (hR : wqX6_restart k t a1 R) (f : ∀ t, Q t → R t → S t) : wqX6_restart k t a1 S := wmX6_restart (Nat.le_refl k) (fun t h => f t h.1 h.2) (wjX6_restart hQ hR)
set_option maxHeartbeats 4000000 in
set_option maxRecDepth 100000 in
theorem wkX4_forgetj (Q R : XT → Prop) : ∀ k : Nat, (∀ (t : XT) (li : Nat → Int32) (lj : Nat → Int64), wpX4_forget k 0 t li lj Q → wpX4_forget k 0 t li lj R → wpX4_forget k 0 t li lj (fun t => Q t ∧ R t)) := by
  intro k
  induction k with
  | zero => exact fun _ _ _ hR _ => False.elim hR
  | succ k ih =>
    intro t li lj hQ hR
    have hQ : wbX4_forget_0 (wpX4_forget k) k t li lj Q := hQ
    have hR : wbX4_forget_0 (wpX4_forget k) k t li lj R := hR
    show wbX4_forget_0 (wpX4_forget k) k t li lj (fun t => Q t ∧ R t)
    unfold wbX4_forget_0 at hQ hR ⊢
    exact fun x1 e1 => ⟨(hQ x1 e1), (hR x1 e1)⟩
theorem wjX4_forget {k : Nat} {t : XT}  {Q R : XT → Prop} (hQ : wqX4_forget k t  Q) (hR : wqX4_forget k t  R) : wqX4_forget k t  (fun t => Q t ∧ R t) := (wkX4_forgetj Q R k) t _ _ hQ hR
theorem wiX4_forget {k : Nat} {t : XT}  {Q R S : XT → Prop} (hQ : wqX4_forget k t  Q) (hR : wqX4_forget k t  R) (f : ∀ t, Q t → R t → S t) : wqX4_forget k t  S := wmX4_forget (Nat.le_refl k) (fun t h => f t h.1 h.2) (wjX4_forget hQ hR)
set_option maxHeartbeats 4000000 in
set_option maxRecDepth 100000 in
theorem wkX11_complexj (Q R : Int32 → XT → Prop) : ∀ k : Nat, (∀ (t : XT) (li : Nat → Int32) (lj : Nat → Int64), wpX11_complex k 0 t li lj Q → wpX11_complex k 0 t li lj R → wpX11_complex k 0 t li lj (fun r t => Q r t ∧ R r t)) := by
  intro k
  induction k with
  | zero => exact fun _ _ _ hR _ => False.elim hR
  | succ k ih =>
    intro t li lj hQ hR
    have hQ : wbX11_complex_0 (wpX11_complex k) k t li lj Q := hQ
    have hR : wbX11_complex_0 (wpX11_complex k) k t li lj R := hR
    show wbX11_complex_0 (wpX11_complex k) k t li lj (fun r t => Q r t ∧ R r t)
    unfold wbX11_complex_0 at hQ hR ⊢
    exact wiX8_read_c1 hQ hR (fun y1_0 y1_1 h1 i1 => fun x2 e2 => ⟨fun c3 => wiX9_build_c13 ((h1 x2 e2).1 c3) ((i1 x2 e2).1 c3) (fun y4_0 h4 i4 => wiX9_all h4 i4 (fun y5_0 y5_1 h5 i5 => wiX6_restart h5 i5 (fun y6_0 h6 i6 => fun x7 e7 => wiX4_forget (h6 x7 e7) (i6 x7 e7) (fun y8_0 h8 i8 => ⟨h8, i8⟩)))), fun c9 => fun x10 e10 => ⟨(((h1 x2 e2).2 c9) x10 e10), (((i1 x2 e2).2 c9) x10 e10)⟩⟩)
theorem wjX11_complex {k : Nat} {t : XT}  {Q R : Int32 → XT → Prop} (hQ : wqX11_complex k t  Q) (hR : wqX11_complex k t  R) : wqX11_complex k t  (fun r t => Q r t ∧ R r t) := (wkX11_complexj Q R k) t _ _ hQ hR
theorem wiX11_complex {k : Nat} {t : XT}  {Q R S : Int32 → XT → Prop} (hQ : wqX11_complex k t  Q) (hR : wqX11_complex k t  R) (f : ∀ r t, Q r t → R r t → S r t) : wqX11_complex k t  S := wmX11_complex (Nat.le_refl k) (fun r t h => f r t h.1 h.2) (wjX11_complex hQ hR)
set_option maxHeartbeats 4000000 in
set_option maxRecDepth 100000 in
theorem wkX9_hasj (Q R : Int32 → XT → Prop) : ∀ k : Nat, (∀ (t : XT) (li : Nat → Int32) (lj : Nat → Int64), wpX9_has k 0 t li lj Q → wpX9_has k 0 t li lj R → wpX9_has k 0 t li lj (fun r t => Q r t ∧ R r t)) ∧ (∀ (t : XT) (li : Nat → Int32) (lj : Nat → Int64), wpX9_has k 1 t li lj Q → wpX9_has k 1 t li lj R → wpX9_has k 1 t li lj (fun r t => Q r t ∧ R r t)) := by
  intro k
  induction k with
  | zero => exact ⟨fun _ _ _ hR _ => False.elim hR, fun _ _ _ hR _ => False.elim hR⟩
  | succ k ih =>
    refine ⟨?_, ?_⟩
    · intro t li lj hQ hR
      have hQ : wbX9_has_0 (wpX9_has k) k t li lj Q := hQ
      have hR : wbX9_has_0 (wpX9_has k) k t li lj R := hR
      show wbX9_has_0 (wpX9_has k) k t li lj (fun r t => Q r t ∧ R r t)
      unfold wbX9_has_0 at hQ hR ⊢
      exact ⟨fun c1 => ih.2 _ _ _ (hQ.1 c1) (hR.1 c1), fun c2 => ⟨fun c3 => ih.2 _ _ _ ((hQ.2 c2).1 c3) ((hR.2 c2).1 c3), fun c4 => ⟨((hQ.2 c2).2 c4), ((hR.2 c2).2 c4)⟩⟩⟩
    · intro t li lj hQ hR
      have hQ : wbX9_has_1 (wpX9_has k) k t li lj Q := hQ
      have hR : wbX9_has_1 (wpX9_has k) k t li lj R := hR
      show wbX9_has_1 (wpX9_has k) k t li lj (fun r t => Q r t ∧ R r t)
      unfold wbX9_has_1 at hQ hR ⊢
      exact ⟨hQ, hR⟩
theorem wjX9_has {k : Nat} {t : XT} {a1 : Int32} {Q R : Int32 → XT → Prop} (hQ : wqX9_has k t a1 Q) (hR : wqX9_has k t a1 R) : wqX9_has k t a1 (fun r t => Q r t ∧ R r t) := (wkX9_hasj Q R k).1 t _ _ hQ hR
theorem wiX9_has {k : Nat} {t : XT} {a1 : Int32} {Q R S : Int32 → XT → Prop} (hQ : wqX9_has k t a1 Q) (hR : wqX9_has k t a1 R) (f : ∀ r t, Q r t → R r t → S r t) : wqX9_has k t a1 S := wmX9_has (Nat.le_refl k) (fun r t h => f r t h.1 h.2) (wjX9_has hQ hR)
set_option maxHeartbeats 4000000 in
set_option maxRecDepth 100000 in
theorem wkX11_isInj (Q R : Int32 → Prop) : ∀ k : Nat, (∀ (li : Nat → Int32) (lj : Nat → Int64), wpX11_isIn k 0 li lj Q → wpX11_isIn k 0 li lj R → wpX11_isIn k 0 li lj (fun r => Q r ∧ R r)) := by
  intro k
  induction k with
  | zero => exact fun _ _ hR _ => False.elim hR
  | succ k ih =>
    intro li lj hQ hR
    have hQ : wbX11_isIn_0 (wpX11_isIn k) k li lj Q := hQ
    have hR : wbX11_isIn_0 (wpX11_isIn k) k li lj R := hR
    show wbX11_isIn_0 (wpX11_isIn k) k li lj (fun r => Q r ∧ R r)
    unfold wbX11_isIn_0 at hQ hR ⊢
    exact fun x1 e1 => fun x2 e2 => fun x3 e3 => ⟨fun c4 => ⟨((((hQ x1 e1) x2 e2) x3 e3).1 c4), ((((hR x1 e1) x2 e2) x3 e3).1 c4)⟩, fun c5 => ⟨((((hQ x1 e1) x2 e2) x3 e3).2 c5), ((((hR x1 e1) x2 e2) x3 e3).2 c5)⟩⟩
theorem wjX11_isIn {k : Nat} {a0 : Int64} {a1 : Int32} {Q R : Int32 → Prop} (hQ : wqX11_isIn k a0 a1 Q) (hR : wqX11_isIn k a0 a1 R) : wqX11_isIn k a0 a1 (fun r => Q r ∧ R r) := (wkX11_isInj Q R k) _ _ hQ hR
theorem wiX11_isIn {k : Nat} {a0 : Int64} {a1 : Int32} {Q R S : Int32 → Prop} (hQ : wqX11_isIn k a0 a1 Q) (hR : wqX11_isIn k a0 a1 R) (f : ∀ r, Q r → R r → S r) : wqX11_isIn k a0 a1 S := wmX11_isIn (Nat.le_refl k) (fun r h => f r h.1 h.2) (wjX11_isIn hQ hR)
set_option maxHeartbeats 4000000 in
set_option maxRecDepth 100000 in
theorem wkX11_isTherej (Q R : Int32 → XT → Prop) : ∀ k : Nat, (∀ (t : XT) (li : Nat → Int32) (lj : Nat → Int64), wpX11_isThere k 0 t li lj Q → wpX11_isThere k 0 t li lj R → wpX11_isThere k 0 t li lj (fun r t => Q r t ∧ R r t)) ∧ (∀ (t : XT) (li : Nat → Int32) (lj : Nat → Int64), wpX11_isThere k 1 t li lj Q → wpX11_isThere k 1 t li lj R → wpX11_isThere k 1 t li lj (fun r t => Q r t ∧ R r t)) := by
  intro k
  induction k with
  | zero => exact ⟨fun _ _ _ hR _ => False.elim hR, fun _ _ _ hR _ => False.elim hR⟩
  | succ k ih =>
    refine ⟨?_, ?_⟩
    · intro t li lj hQ hR
      have hQ : wbX11_isThere_0 (wpX11_isThere k) k t li lj Q := hQ
      have hR : wbX11_isThere_0 (wpX11_isThere k) k t li lj R := hR
      show wbX11_isThere_0 (wpX11_isThere k) k t li lj (fun r t => Q r t ∧ R r t)
      unfold wbX11_isThere_0 at hQ hR ⊢
      exact wiX9_has hQ hR (fun y1_0 y1_1 h1 i1 => ⟨fun c2 => ih.2 _ _ _ (h1.1 c2) (i1.1 c2), fun c3 => wiX11_isIn (h1.2 c3) (i1.2 c3) (fun y4_0 h4 i4 => ⟨fun c5 => ih.2 _ _ _ (h4.1 c5) (i4.1 c5), fun c6 => ⟨(h4.2 c6), (i4.2 c6)⟩⟩)⟩)
    · intro t li lj hQ hR
      have hQ : wbX11_isThere_1 (wpX11_isThere k) k t li lj Q := hQ
      have hR : wbX11_isThere_1 (wpX11_isThere k) k t li lj R := hR
      show wbX11_isThere_1 (wpX11_isThere k) k t li lj (fun r t => Q r t ∧ R r t)
      unfold wbX11_isThere_1 at hQ hR ⊢
      exact ⟨hQ, hR⟩
theorem wjX11_isThere {k : Nat} {t : XT} {a1 : Int32} {Q R : Int32 → XT → Prop} (hQ : wqX11_isThere k t a1 Q) (hR : wqX11_isThere k t a1 R) : wqX11_isThere k t a1 (fun r t => Q r t ∧ R r t) := (wkX11_isTherej Q R k).1 t _ _ hQ hR
theorem wiX11_isThere {k : Nat} {t : XT} {a1 : Int32} {Q R S : Int32 → XT → Prop} (hQ : wqX11_isThere k t a1 Q) (hR : wqX11_isThere k t a1 R) (f : ∀ r t, Q r t → R r t → S r t) : wqX11_isThere k t a1 S := wmX11_isThere (Nat.le_refl k) (fun r t h => f r t h.1 h.2) (wjX11_isThere hQ hR)
set_option maxHeartbeats 4000000 in
set_option maxRecDepth 100000 in
theorem wkX6_sidej (Q R : Int32 → XT → Prop) : ∀ k : Nat, (∀ (t : XT) (li : Nat → Int32) (lj : Nat → Int64), wpX6_side k 0 t li lj Q → wpX6_side k 0 t li lj R → wpX6_side k 0 t li lj (fun r t => Q r t ∧ R r t)) := by
  intro k
  induction k with
  | zero => exact fun _ _ _ hR _ => False.elim hR
  | succ k ih =>
    intro t li lj hQ hR
    have hQ : wbX6_side_0 (wpX6_side k) k t li lj Q := hQ
    have hR : wbX6_side_0 (wpX6_side k) k t li lj R := hR
    show wbX6_side_0 (wpX6_side k) k t li lj (fun r t => Q r t ∧ R r t)
    unfold wbX6_side_0 at hQ hR ⊢
    exact ⟨hQ.1, fun x1 e1 => ⟨fun c2 => wiX11_isIn ((hQ.2 x1 e1).1 c2) ((hR.2 x1 e1).1 c2) (fun y3_0 h3 i3 => ⟨fun c4 => ⟨(h3.1 c4), (i3.1 c4)⟩, fun c5 => ⟨(h3.2 c5), (i3.2 c5)⟩⟩), fun c6 => ⟨((hQ.2 x1 e1).2 c6), ((hR.2 x1 e1).2 c6)⟩⟩⟩
theorem wjX6_side {k : Nat} {t : XT} {a1 : Int32} {Q R : Int32 → XT → Prop} (hQ : wqX6_side k t a1 Q) (hR : wqX6_side k t a1 R) : wqX6_side k t a1 (fun r t => Q r t ∧ R r t) := (wkX6_sidej Q R k) t _ _ hQ hR
theorem wiX6_side {k : Nat} {t : XT} {a1 : Int32} {Q R S : Int32 → XT → Prop} (hQ : wqX6_side k t a1 Q) (hR : wqX6_side k t a1 R) (f : ∀ r t, Q r t → R r t → S r t) : wqX6_side k t a1 S := wmX6_side (Nat.le_refl k) (fun r t h => f r t h.1 h.2) (wjX6_side hQ hR)
set_option maxHeartbeats 4000000 in
set_option maxRecDepth 100000 in
theorem wkX6_stepsj (Q R : Int64 → XT → Prop) : ∀ k : Nat, (∀ (t : XT) (li : Nat → Int32) (lj : Nat → Int64), wpX6_steps k 0 t li lj Q → wpX6_steps k 0 t li lj R → wpX6_steps k 0 t li lj (fun r t => Q r t ∧ R r t)) := by
  intro k
  induction k with
  | zero => exact fun _ _ _ hR _ => False.elim hR
  | succ k ih =>
    intro t li lj hQ hR
    have hQ : wbX6_steps_0 (wpX6_steps k) k t li lj Q := hQ
    have hR : wbX6_steps_0 (wpX6_steps k) k t li lj R := hR
    show wbX6_steps_0 (wpX6_steps k) k t li lj (fun r t => Q r t ∧ R r t)
    unfold wbX6_steps_0 at hQ hR ⊢
    exact ⟨hQ.1, fun x1 e1 => ⟨fun c2 => ⟨((hQ.2 x1 e1).1 c2).1, fun x3 e3 => ⟨(((hQ.2 x1 e1).1 c2).2 x3 e3).1, fun x4 e4 => fun x5 e5 => fun x6 e6 => ⟨((((((hQ.2 x1 e1).1 c2).2 x3 e3).2 x4 e4) x5 e5) x6 e6), ((((((hR.2 x1 e1).1 c2).2 x3 e3).2 x4 e4) x5 e5) x6 e6)⟩⟩⟩, fun c7 => ⟨((hQ.2 x1 e1).2 c7).1, fun x8 e8 => ⟨(((hQ.2 x1 e1).2 c7).2 x8 e8), (((hR.2 x1 e1).2 c7).2 x8 e8)⟩⟩⟩⟩
theorem wjX6_steps {k : Nat} {t : XT} {a1 : Int32} {Q R : Int64 → XT → Prop} (hQ : wqX6_steps k t a1 Q) (hR : wqX6_steps k t a1 R) : wqX6_steps k t a1 (fun r t => Q r t ∧ R r t) := (wkX6_stepsj Q R k) t _ _ hQ hR
theorem wiX6_steps {k : Nat} {t : XT} {a1 : Int32} {Q R S : Int64 → XT → Prop} (hQ : wqX6_steps k t a1 Q) (hR : wqX6_steps k t a1 R) (f : ∀ r t, Q r t → R r t → S r t) : wqX6_steps k t a1 S := wmX6_steps (Nat.le_refl k) (fun r t h => f r t h.1 h.2) (wjX6_steps hQ hR)
set_option maxHeartbeats 4000000 in
set_option maxRecDepth 100000 in
theorem wkX2_givej (Q R : Int64 → XT → Prop) : ∀ k : Nat, (∀ (t : XT) (li : Nat → Int32) (lj : Nat → Int64), wpX2_give k 0 t li lj Q → wpX2_give k 0 t li lj R → wpX2_give k 0 t li lj (fun r t => Q r t ∧ R r t)) ∧ (∀ (t : XT) (li : Nat → Int32) (lj : Nat → Int64), wpX2_give k 1 t li lj Q → wpX2_give k 1 t li lj R → wpX2_give k 1 t li lj (fun r t => Q r t ∧ R r t)) ∧ (∀ (t : XT) (li : Nat → Int32) (lj : Nat → Int64), wpX2_give k 2 t li lj Q → wpX2_give k 2 t li lj R → wpX2_give k 2 t li lj (fun r t => Q r t ∧ R r t)) ∧ (∀ (t : XT) (li : Nat → Int32) (lj : Nat → Int64), wpX2_give k 3 t li lj Q → wpX2_give k 3 t li lj R → wpX2_give k 3 t li lj (fun r t => Q r t ∧ R r t)) := by
  intro k
  induction k with
  | zero => exact ⟨fun _ _ _ hR _ => False.elim hR, fun _ _ _ hR _ => False.elim hR, fun _ _ _ hR _ => False.elim hR, fun _ _ _ hR _ => False.elim hR⟩
  | succ k ih =>
    refine ⟨?_, ?_, ?_, ?_⟩
    · intro t li lj hQ hR
      have hQ : wbX2_give_0 (wpX2_give k) k t li lj Q := hQ
      have hR : wbX2_give_0 (wpX2_give k) k t li lj R := hR
      show wbX2_give_0 (wpX2_give k) k t li lj (fun r t => Q r t ∧ R r t)
      unfold wbX2_give_0 at hQ hR ⊢
      exact ih.2.1 _ _ _ hQ hR
    · intro t li lj hQ hR
      have hQ : wbX2_give_1 (wpX2_give k) k t li lj Q := hQ
      have hR : wbX2_give_1 (wpX2_give k) k t li lj R := hR
      show wbX2_give_1 (wpX2_give k) k t li lj (fun r t => Q r t ∧ R r t)
      unfold wbX2_give_1 at hQ hR ⊢
      exact ⟨fun c1 => ih.2.2.2 _ _ _ (hQ.1 c1) (hR.1 c1), fun c2 => ⟨fun c3 => ih.2.2.2 _ _ _ ((hQ.2 c2).1 c3) ((hR.2 c2).1 c3), fun c4 => wiX11_isIn ((hQ.2 c2).2 c4) ((hR.2 c2).2 c4) (fun y5_0 h5 i5 => ⟨fun c6 => ih.2.2.1 _ _ _ (h5.1 c6) (i5.1 c6), fun c7 => wiX6_steps (h5.2 c7) (i5.2 c7) (fun y8_0 y8_1 h8 i8 => fun x9 e9 => fun x10 e10 => ⟨fun c11 => ih.2.2.1 _ _ _ (((h8 x9 e9) x10 e10).1 c11) (((i8 x9 e9) x10 e10).1 c11), fun c12 => wiX11_bit (((h8 x9 e9) x10 e10).2 c12) (((i8 x9 e9) x10 e10).2 c12) (fun y13_0 h13 i13 => fun x14 e14 => ⟨(h13 x14 e14).1, fun x15 e15 => ⟨((h13 x14 e14).2 x15 e15).1, fun x16 e16 => fun x17 e17 => fun x18 e18 => ih.2.2.1 _ _ _ (((((h13 x14 e14).2 x15 e15).2 x16 e16) x17 e17) x18 e18) (((((i13 x14 e14).2 x15 e15).2 x16 e16) x17 e17) x18 e18)⟩⟩)⟩)⟩)⟩⟩
    · intro t li lj hQ hR
      have hQ : wbX2_give_2 (wpX2_give k) k t li lj Q := hQ
      have hR : wbX2_give_2 (wpX2_give k) k t li lj R := hR
      show wbX2_give_2 (wpX2_give k) k t li lj (fun r t => Q r t ∧ R r t)
      unfold wbX2_give_2 at hQ hR ⊢
      exact fun x1 e1 => ih.2.1 _ _ _ (hQ x1 e1) (hR x1 e1)
    · intro t li lj hQ hR
      have hQ : wbX2_give_3 (wpX2_give k) k t li lj Q := hQ
      have hR : wbX2_give_3 (wpX2_give k) k t li lj R := hR
      show wbX2_give_3 (wpX2_give k) k t li lj (fun r t => Q r t ∧ R r t)
      unfold wbX2_give_3 at hQ hR ⊢
      exact ⟨hQ, hR⟩
theorem wjX2_give {k : Nat} {t : XT} {a1 : Int32} {a2 : Int64} {Q R : Int64 → XT → Prop} (hQ : wqX2_give k t a1 a2 Q) (hR : wqX2_give k t a1 a2 R) : wqX2_give k t a1 a2 (fun r t => Q r t ∧ R r t) := (wkX2_givej Q R k).1 t _ _ hQ hR
theorem wiX2_give {k : Nat} {t : XT} {a1 : Int32} {a2 : Int64} {Q R S : Int64 → XT → Prop} (hQ : wqX2_give k t a1 a2 Q) (hR : wqX2_give k t a1 a2 R) (f : ∀ r t, Q r t → R r t → S r t) : wqX2_give k t a1 a2 S := wmX2_give (Nat.le_refl k) (fun r t h => f r t h.1 h.2) (wjX2_give hQ hR)
set_option maxHeartbeats 4000000 in
set_option maxRecDepth 100000 in
theorem wkX2_measurej (Q R : XT → Prop) : ∀ k : Nat, (∀ (t : XT) (li : Nat → Int32) (lj : Nat → Int64), wpX2_measure k 0 t li lj Q → wpX2_measure k 0 t li lj R → wpX2_measure k 0 t li lj (fun t => Q t ∧ R t)) ∧ (∀ (t : XT) (li : Nat → Int32) (lj : Nat → Int64), wpX2_measure k 1 t li lj Q → wpX2_measure k 1 t li lj R → wpX2_measure k 1 t li lj (fun t => Q t ∧ R t)) := by
  intro k
  induction k with
  | zero => exact ⟨fun _ _ _ hR _ => False.elim hR, fun _ _ _ hR _ => False.elim hR⟩
  | succ k ih =>
    refine ⟨?_, ?_⟩
    · intro t li lj hQ hR
      have hQ : wbX2_measure_0 (wpX2_measure k) k t li lj Q := hQ
      have hR : wbX2_measure_0 (wpX2_measure k) k t li lj R := hR
      show wbX2_measure_0 (wpX2_measure k) k t li lj (fun t => Q t ∧ R t)
      unfold wbX2_measure_0 at hQ hR ⊢
      exact ⟨fun c1 => fun x2 e2 => fun x3 e3 => fun x4 e4 => ih.2 _ _ _ ((((hQ.1 c1) x2 e2) x3 e3) x4 e4) ((((hR.1 c1) x2 e2) x3 e3) x4 e4), fun c5 => ⟨(hQ.2 c5), (hR.2 c5)⟩⟩
    · intro t li lj hQ hR
      have hQ : wbX2_measure_1 (wpX2_measure k) k t li lj Q := hQ
      have hR : wbX2_measure_1 (wpX2_measure k) k t li lj R := hR
      show wbX2_measure_1 (wpX2_measure k) k t li lj (fun t => Q t ∧ R t)
      unfold wbX2_measure_1 at hQ hR ⊢
      exact ⟨fun c1 => ⟨(hQ.1 c1), (hR.1 c1)⟩, fun c2 => fun x3 e3 => ⟨fun c4 => ⟨(((hQ.2 c2) x3 e3).1 c4), (((hR.2 c2) x3 e3).1 c4)⟩, fun c5 => wiX2_give (((hQ.2 c2) x3 e3).2 c5) (((hR.2 c2) x3 e3).2 c5) (fun y6_0 y6_1 h6 i6 => fun x7 e7 => fun x8 e8 => fun x9 e9 => ih.2 _ _ _ (((h6 x7 e7) x8 e8) x9 e9) (((i6 x7 e7) x8 e8) x9 e9))⟩⟩
theorem wjX2_measure {k : Nat} {t : XT}  {Q R : XT → Prop} (hQ : wqX2_measure k t  Q) (hR : wqX2_measure k t  R) : wqX2_measure k t  (fun t => Q t ∧ R t) := (wkX2_measurej Q R k).1 t _ _ hQ hR
theorem wiX2_measure {k : Nat} {t : XT}  {Q R S : XT → Prop} (hQ : wqX2_measure k t  Q) (hR : wqX2_measure k t  R) (f : ∀ t, Q t → R t → S t) : wqX2_measure k t  S := wmX2_measure (Nat.le_refl k) (fun t h => f t h.1 h.2) (wjX2_measure hQ hR)
set_option maxHeartbeats 4000000 in
set_option maxRecDepth 100000 in
theorem wkX2_ofj (Q R : Int32 → XT → Prop) : ∀ k : Nat, (∀ (t : XT) (li : Nat → Int32) (lj : Nat → Int64), wpX2_of k 0 t li lj Q → wpX2_of k 0 t li lj R → wpX2_of k 0 t li lj (fun r t => Q r t ∧ R r t)) := by
  intro k
  induction k with
  | zero => exact fun _ _ _ hR _ => False.elim hR
  | succ k ih =>
    intro t li lj hQ hR
    have hQ : wbX2_of_0 (wpX2_of k) k t li lj Q := hQ
    have hR : wbX2_of_0 (wpX2_of k) k t li lj R := hR
    show wbX2_of_0 (wpX2_of k) k t li lj (fun r t => Q r t ∧ R r t)
    unfold wbX2_of_0 at hQ hR ⊢
    exact wiX2_measure hQ hR (fun y1_0 h1 i1 => ⟨h1.1, fun x2 e2 => ⟨(h1.2 x2 e2), (i1.2 x2 e2)⟩⟩)
theorem wjX2_of {k : Nat} {t : XT} {a1 : Int32} {Q R : Int32 → XT → Prop} (hQ : wqX2_of k t a1 Q) (hR : wqX2_of k t a1 R) : wqX2_of k t a1 (fun r t => Q r t ∧ R r t) := (wkX2_ofj Q R k) t _ _ hQ hR
theorem wiX2_of {k : Nat} {t : XT} {a1 : Int32} {Q R S : Int32 → XT → Prop} (hQ : wqX2_of k t a1 Q) (hR : wqX2_of k t a1 R) (f : ∀ r t, Q r t → R r t → S r t) : wqX2_of k t a1 S := wmX2_of (Nat.le_refl k) (fun r t h => f r t h.1 h.2) (wjX2_of hQ hR)
set_option maxHeartbeats 4000000 in
set_option maxRecDepth 100000 in
theorem wkJ13_bitCount_95d88j (Q R : Int32 → Prop) : ∀ k : Nat, (∀ (li : Nat → Int32) (lj : Nat → Int64), wpJ13_bitCount_95d88 k 0 li lj Q → wpJ13_bitCount_95d88 k 0 li lj R → wpJ13_bitCount_95d88 k 0 li lj (fun r => Q r ∧ R r)) := by
  intro k
  induction k with
  | zero => exact fun _ _ hR _ => False.elim hR
  | succ k ih =>
    intro li lj hQ hR
    have hQ : wbJ13_bitCount_95d88_0 (wpJ13_bitCount_95d88 k) k li lj Q := hQ
    have hR : wbJ13_bitCount_95d88_0 (wpJ13_bitCount_95d88 k) k li lj R := hR
    show wbJ13_bitCount_95d88_0 (wpJ13_bitCount_95d88 k) k li lj (fun r => Q r ∧ R r)
    unfold wbJ13_bitCount_95d88_0 at hQ hR ⊢
    exact fun x1 e1 => fun x2 e2 => fun x3 e3 => fun x4 e4 => fun x5 e5 => fun x6 e6 => fun x7 e7 => fun x8 e8 => fun x9 e9 => fun x10 e10 => fun x11 e11 => fun x12 e12 => fun x13 e13 => fun x14 e14 => fun x15 e15 => fun x16 e16 => fun x17 e17 => fun x18 e18 => ⟨((((((((((((((((((hQ x1 e1) x2 e2) x3 e3) x4 e4) x5 e5) x6 e6) x7 e7) x8 e8) x9 e9) x10 e10) x11 e11) x12 e12) x13 e13) x14 e14) x15 e15) x16 e16) x17 e17) x18 e18), ((((((((((((((((((hR x1 e1) x2 e2) x3 e3) x4 e4) x5 e5) x6 e6) x7 e7) x8 e8) x9 e9) x10 e10) x11 e11) x12 e12) x13 e13) x14 e14) x15 e15) x16 e16) x17 e17) x18 e18)⟩
theorem wjJ13_bitCount_95d88 {k : Nat} {a0 : Int64} {Q R : Int32 → Prop} (hQ : wqJ13_bitCount_95d88 k a0 Q) (hR : wqJ13_bitCount_95d88 k a0 R) : wqJ13_bitCount_95d88 k a0 (fun r => Q r ∧ R r) := (wkJ13_bitCount_95d88j Q R k) _ _ hQ hR
theorem wiJ13_bitCount_95d88 {k : Nat} {a0 : Int64} {Q R S : Int32 → Prop} (hQ : wqJ13_bitCount_95d88 k a0 Q) (hR : wqJ13_bitCount_95d88 k a0 R) (f : ∀ r, Q r → R r → S r) : wqJ13_bitCount_95d88 k a0 S := wmJ13_bitCount_95d88 (Nat.le_refl k) (fun r h => f r h.1 h.2) (wjJ13_bitCount_95d88 hQ hR)
set_option maxHeartbeats 4000000 in
set_option maxRecDepth 100000 in
theorem wkX11_simplexj (Q R : Int32 → XT → Prop) : ∀ k : Nat, (∀ (t : XT) (li : Nat → Int32) (lj : Nat → Int64), wpX11_simplex k 0 t li lj Q → wpX11_simplex k 0 t li lj R → wpX11_simplex k 0 t li lj (fun r t => Q r t ∧ R r t)) := by
  intro k
  induction k with
  | zero => exact fun _ _ _ hR _ => False.elim hR
  | succ k ih =>
    intro t li lj hQ hR
    have hQ : wbX11_simplex_0 (wpX11_simplex k) k t li lj Q := hQ
    have hR : wbX11_simplex_0 (wpX11_simplex k) k t li lj R := hR
    show wbX11_simplex_0 (wpX11_simplex k) k t li lj (fun r t => Q r t ∧ R r t)
    unfold wbX11_simplex_0 at hQ hR ⊢
    exact wiX9_has hQ hR (fun y1_0 y1_1 h1 i1 => ⟨fun c2 => ⟨fun c3 => ⟨((h1.1 c2).1 c3), ((i1.1 c2).1 c3)⟩, fun c4 => ⟨((h1.1 c2).2.1 c4).1, fun x5 e5 => ⟨(((h1.1 c2).2.1 c4).2 x5 e5), (((i1.1 c2).2.1 c4).2 x5 e5)⟩⟩, fun c6 => ⟨((h1.1 c2).2.2.1 c6).1, fun x7 e7 => ⟨(((h1.1 c2).2.2.1 c6).2 x7 e7), (((i1.1 c2).2.2.1 c6).2 x7 e7)⟩⟩, fun c8 => wiX11_isThere ((h1.1 c2).2.2.2.1 c8) ((i1.1 c2).2.2.2.1 c8) (fun y9_0 y9_1 h9 i9 => ⟨fun c10 => ⟨(h9.1 c10), (i9.1 c10)⟩, fun c11 => ⟨(h9.2 c11), (i9.2 c11)⟩⟩), fun c12 => ⟨((h1.1 c2).2.2.2.2.1 c12).1, fun x13 e13 => ⟨(((h1.1 c2).2.2.2.2.1 c12).2 x13 e13), (((i1.1 c2).2.2.2.2.1 c12).2 x13 e13)⟩⟩, fun c14 => wiX6_side ((h1.1 c2).2.2.2.2.2.1 c14) ((i1.1 c2).2.2.2.2.2.1 c14) (fun y15_0 y15_1 h15 i15 => ⟨h15, i15⟩), fun c16 => wiX2_of ((h1.1 c2).2.2.2.2.2.2.1 c16) ((i1.1 c2).2.2.2.2.2.2.1 c16) (fun y17_0 y17_1 h17 i17 => ⟨h17, i17⟩), fun c18 => ⟨((h1.1 c2).2.2.2.2.2.2.2 c18).1, fun x19 e19 => fun x20 e20 => wiJ13_bitCount_95d88 ((((h1.1 c2).2.2.2.2.2.2.2 c18).2 x19 e19) x20 e20) ((((i1.1 c2).2.2.2.2.2.2.2 c18).2 x19 e19) x20 e20) (fun y21_0 h21 i21 => ⟨h21, i21⟩)⟩⟩, fun c22 => ⟨(h1.2 c22), (i1.2 c22)⟩⟩)
theorem wjX11_simplex {k : Nat} {t : XT} {a1 : Int32} {a2 : Int32} {Q R : Int32 → XT → Prop} (hQ : wqX11_simplex k t a1 a2 Q) (hR : wqX11_simplex k t a1 a2 R) : wqX11_simplex k t a1 a2 (fun r t => Q r t ∧ R r t) := (wkX11_simplexj Q R k) t _ _ hQ hR
theorem wiX11_simplex {k : Nat} {t : XT} {a1 : Int32} {a2 : Int32} {Q R S : Int32 → XT → Prop} (hQ : wqX11_simplex k t a1 a2 Q) (hR : wqX11_simplex k t a1 a2 R) (f : ∀ r t, Q r t → R r t → S r t) : wqX11_simplex k t a1 a2 S := wmX11_simplex (Nat.le_refl k) (fun r t h => f r t h.1 h.2) (wjX11_simplex hQ hR)
set_option maxHeartbeats 4000000 in
set_option maxRecDepth 100000 in
theorem wkX11_numberj (Q R : Int32 → XT → Prop) : ∀ k : Nat, (∀ (t : XT) (li : Nat → Int32) (lj : Nat → Int64), wpX11_number k 0 t li lj Q → wpX11_number k 0 t li lj R → wpX11_number k 0 t li lj (fun r t => Q r t ∧ R r t)) ∧ (∀ (t : XT) (li : Nat → Int32) (lj : Nat → Int64), wpX11_number k 1 t li lj Q → wpX11_number k 1 t li lj R → wpX11_number k 1 t li lj (fun r t => Q r t ∧ R r t)) := by
  intro k
  induction k with
  | zero => exact ⟨fun _ _ _ hR _ => False.elim hR, fun _ _ _ hR _ => False.elim hR⟩
  | succ k ih =>
    refine ⟨?_, ?_⟩
    · intro t li lj hQ hR
      have hQ : wbX11_number_0 (wpX11_number k) k t li lj Q := hQ
      have hR : wbX11_number_0 (wpX11_number k) k t li lj R := hR
      show wbX11_number_0 (wpX11_number k) k t li lj (fun r t => Q r t ∧ R r t)
      unfold wbX11_number_0 at hQ hR ⊢
      exact ⟨fun c1 => ih.2 _ _ _ (hQ.1 c1) (hR.1 c1), fun c2 => ⟨fun c3 => ⟨((hQ.2 c2).1 c3).1, fun x4 e4 => ⟨(((hQ.2 c2).1 c3).2 x4 e4), (((hR.2 c2).1 c3).2 x4 e4)⟩⟩, fun c5 => ih.2 _ _ _ ((hQ.2 c2).2 c5) ((hR.2 c2).2 c5)⟩⟩
    · intro t li lj hQ hR
      have hQ : wbX11_number_1 (wpX11_number k) k t li lj Q := hQ
      have hR : wbX11_number_1 (wpX11_number k) k t li lj R := hR
      show wbX11_number_1 (wpX11_number k) k t li lj (fun r t => Q r t ∧ R r t)
      unfold wbX11_number_1 at hQ hR ⊢
      exact ⟨hQ, hR⟩
theorem wjX11_number {k : Nat} {t : XT} {a1 : Int32} {Q R : Int32 → XT → Prop} (hQ : wqX11_number k t a1 Q) (hR : wqX11_number k t a1 R) : wqX11_number k t a1 (fun r t => Q r t ∧ R r t) := (wkX11_numberj Q R k).1 t _ _ hQ hR
theorem wiX11_number {k : Nat} {t : XT} {a1 : Int32} {Q R S : Int32 → XT → Prop} (hQ : wqX11_number k t a1 Q) (hR : wqX11_number k t a1 R) (f : ∀ r t, Q r t → R r t → S r t) : wqX11_number k t a1 S := wmX11_number (Nat.le_refl k) (fun r t h => f r t h.1 h.2) (wjX11_number hQ hR)
set_option maxHeartbeats 4000000 in
set_option maxRecDepth 100000 in
theorem wkX9_signOfj (Q R : Int32 → XT → Prop) : ∀ k : Nat, (∀ (t : XT) (li : Nat → Int32) (lj : Nat → Int64), wpX9_signOf k 0 t li lj Q → wpX9_signOf k 0 t li lj R → wpX9_signOf k 0 t li lj (fun r t => Q r t ∧ R r t)) := by
  intro k
  induction k with
  | zero => exact fun _ _ _ hR _ => False.elim hR
  | succ k ih =>
    intro t li lj hQ hR
    have hQ : wbX9_signOf_0 (wpX9_signOf k) k t li lj Q := hQ
    have hR : wbX9_signOf_0 (wpX9_signOf k) k t li lj R := hR
    show wbX9_signOf_0 (wpX9_signOf k) k t li lj (fun r t => Q r t ∧ R r t)
    unfold wbX9_signOf_0 at hQ hR ⊢
    exact ⟨hQ.1, fun x1 e1 => wiX11_isIn (hQ.2 x1 e1) (hR.2 x1 e1) (fun y2_0 h2 i2 => ⟨fun c3 => ⟨(h2.1 c3).1, fun x4 e4 => ⟨((h2.1 c3).2 x4 e4).1, fun x5 e5 => fun x6 e6 => fun x7 e7 => ⟨(((((h2.1 c3).2 x4 e4).2 x5 e5) x6 e6) x7 e7).1, fun x8 e8 => fun x9 e9 => fun x10 e10 => wiJ6_bitCount_0f7a4 ((((((((h2.1 c3).2 x4 e4).2 x5 e5) x6 e6) x7 e7).2 x8 e8) x9 e9) x10 e10) ((((((((i2.1 c3).2 x4 e4).2 x5 e5) x6 e6) x7 e7).2 x8 e8) x9 e9) x10 e10) (fun y11_0 h11 i11 => fun x12 e12 => ⟨fun c13 => ⟨((h11 x12 e12).1 c13), ((i11 x12 e12).1 c13)⟩, fun c14 => ⟨((h11 x12 e12).2 c14), ((i11 x12 e12).2 c14)⟩⟩)⟩⟩⟩, fun c15 => ⟨(h2.2 c15), (i2.2 c15)⟩⟩)⟩
theorem wjX9_signOf {k : Nat} {t : XT} {a1 : Int32} {a2 : Int32} {Q R : Int32 → XT → Prop} (hQ : wqX9_signOf k t a1 a2 Q) (hR : wqX9_signOf k t a1 a2 R) : wqX9_signOf k t a1 a2 (fun r t => Q r t ∧ R r t) := (wkX9_signOfj Q R k) t _ _ hQ hR
theorem wiX9_signOf {k : Nat} {t : XT} {a1 : Int32} {a2 : Int32} {Q R S : Int32 → XT → Prop} (hQ : wqX9_signOf k t a1 a2 Q) (hR : wqX9_signOf k t a1 a2 R) (f : ∀ r t, Q r t → R r t → S r t) : wqX9_signOf k t a1 a2 S := wmX9_signOf (Nat.le_refl k) (fun r t h => f r t h.1 h.2) (wjX9_signOf hQ hR)
set_option maxHeartbeats 4000000 in
set_option maxRecDepth 100000 in
theorem wkX11_signj (Q R : Int32 → XT → Prop) : ∀ k : Nat, (∀ (t : XT) (li : Nat → Int32) (lj : Nat → Int64), wpX11_sign k 0 t li lj Q → wpX11_sign k 0 t li lj R → wpX11_sign k 0 t li lj (fun r t => Q r t ∧ R r t)) ∧ (∀ (t : XT) (li : Nat → Int32) (lj : Nat → Int64), wpX11_sign k 1 t li lj Q → wpX11_sign k 1 t li lj R → wpX11_sign k 1 t li lj (fun r t => Q r t ∧ R r t)) := by
  intro k
  induction k with
  | zero => exact ⟨fun _ _ _ hR _ => False.elim hR, fun _ _ _ hR _ => False.elim hR⟩
  | succ k ih =>
    refine ⟨?_, ?_⟩
    · intro t li lj hQ hR
      have hQ : wbX11_sign_0 (wpX11_sign k) k t li lj Q := hQ
      have hR : wbX11_sign_0 (wpX11_sign k) k t li lj R := hR
      show wbX11_sign_0 (wpX11_sign k) k t li lj (fun r t => Q r t ∧ R r t)
      unfold wbX11_sign_0 at hQ hR ⊢
      exact wiX9_has hQ hR (fun y1_0 y1_1 h1 i1 => ⟨fun c2 => ih.2 _ _ _ (h1.1 c2) (i1.1 c2), fun c3 => wiX9_has (h1.2 c3) (i1.2 c3) (fun y4_0 y4_1 h4 i4 => ⟨fun c5 => wiX9_signOf (h4.1 c5) (i4.1 c5) (fun y6_0 y6_1 h6 i6 => ⟨h6, i6⟩), fun c7 => ih.2 _ _ _ (h4.2 c7) (i4.2 c7)⟩)⟩)
    · intro t li lj hQ hR
      have hQ : wbX11_sign_1 (wpX11_sign k) k t li lj Q := hQ
      have hR : wbX11_sign_1 (wpX11_sign k) k t li lj R := hR
      show wbX11_sign_1 (wpX11_sign k) k t li lj (fun r t => Q r t ∧ R r t)
      unfold wbX11_sign_1 at hQ hR ⊢
      exact ⟨hQ, hR⟩
theorem wjX11_sign {k : Nat} {t : XT} {a1 : Int32} {a2 : Int32} {Q R : Int32 → XT → Prop} (hQ : wqX11_sign k t a1 a2 Q) (hR : wqX11_sign k t a1 a2 R) : wqX11_sign k t a1 a2 (fun r t => Q r t ∧ R r t) := (wkX11_signj Q R k).1 t _ _ hQ hR
theorem wiX11_sign {k : Nat} {t : XT} {a1 : Int32} {a2 : Int32} {Q R S : Int32 → XT → Prop} (hQ : wqX11_sign k t a1 a2 Q) (hR : wqX11_sign k t a1 a2 R) (f : ∀ r t, Q r t → R r t → S r t) : wqX11_sign k t a1 a2 S := wmX11_sign (Nat.le_refl k) (fun r t h => f r t h.1 h.2) (wjX11_sign hQ hR)
