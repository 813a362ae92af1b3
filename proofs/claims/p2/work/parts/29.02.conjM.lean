set_option maxHeartbeats 4000000 in
set_option maxRecDepth 100000 in
theorem wkX12_waysFromj (Q R : Int64 → XT → Prop) : ∀ k : Nat, (∀ (t : XT) (li : Nat → Int32) (lj : Nat → Int64), wpX12_waysFrom k 0 t li lj Q → wpX12_waysFrom k 0 t li lj R → wpX12_waysFrom k 0 t li lj (fun r t => Q r t ∧ R r t)) ∧ (∀ (t : XT) (li : Nat → Int32) (lj : Nat → Int64), wpX12_waysFrom k 1 t li lj Q → wpX12_waysFrom k 1 t li lj R → wpX12_waysFrom k 1 t li lj (fun r t => Q r t ∧ R r t)) ∧ (∀ (t : XT) (li : Nat → Int32) (lj : Nat → Int64), wpX12_waysFrom k 2 t li lj Q → wpX12_waysFrom k 2 t li lj R → wpX12_waysFrom k 2 t li lj (fun r t => Q r t ∧ R r t)) := by
  intro k
  induction k with
  | zero => exact ⟨fun _ _ _ hR _ => False.elim hR, fun _ _ _ hR _ => False.elim hR, fun _ _ _ hR _ => False.elim hR⟩
  | succ k ih =>
    refine ⟨?_, ?_, ?_⟩
    · intro t li lj hQ hR
      have hQ : wbX12_waysFrom_0 (wpX12_waysFrom k) k t li lj Q := hQ
      have hR : wbX12_waysFrom_0 (wpX12_waysFrom k) k t li lj R := hR
      show wbX12_waysFrom_0 (wpX12_waysFrom k) k t li lj (fun r t => Q r t ∧ R r t)
      unfold wbX12_waysFrom_0 at hQ hR ⊢
      exact wiX12_laysWays hQ hR (fun y1_0 h1 i1 => ih.2.1 _ _ _ h1 i1)
    · intro t li lj hQ hR
      have hQ : wbX12_waysFrom_1 (wpX12_waysFrom k) k t li lj Q := hQ
      have hR : wbX12_waysFrom_1 (wpX12_waysFrom k) k t li lj R := hR
      show wbX12_waysFrom_1 (wpX12_waysFrom k) k t li lj (fun r t => Q r t ∧ R r t)
      unfold wbX12_waysFrom_1 at hQ hR ⊢
      exact ⟨fun c1 => ⟨(hQ.1 c1), (hR.1 c1)⟩, fun c2 => wiX12_isFaceThere (hQ.2 c2) (hR.2 c2) (fun y3_0 y3_1 h3 i3 => ⟨fun c4 => ih.2.2 _ _ _ (h3.1 c4) (i3.1 c4), fun c5 => ⟨(h3.2 c5).1, fun x6 e6 => ih.2.2 _ _ _ ((h3.2 c5).2 x6 e6) ((i3.2 c5).2 x6 e6)⟩⟩)⟩
    · intro t li lj hQ hR
      have hQ : wbX12_waysFrom_2 (wpX12_waysFrom k) k t li lj Q := hQ
      have hR : wbX12_waysFrom_2 (wpX12_waysFrom k) k t li lj R := hR
      show wbX12_waysFrom_2 (wpX12_waysFrom k) k t li lj (fun r t => Q r t ∧ R r t)
      unfold wbX12_waysFrom_2 at hQ hR ⊢
      exact fun x1 e1 => fun x2 e2 => ih.2.1 _ _ _ ((hQ x1 e1) x2 e2) ((hR x1 e1) x2 e2)
theorem wjX12_waysFrom {k : Nat} {t : XT} {a1 : Int32} {a2 : Int32} {Q R : Int64 → XT → Prop} (hQ : wqX12_waysFrom k t a1 a2 Q) (hR : wqX12_waysFrom k t a1 a2 R) : wqX12_waysFrom k t a1 a2 (fun r t => Q r t ∧ R r t) := (wkX12_waysFromj Q R k).1 t _ _ hQ hR
theorem wiX12_waysFrom {k : Nat} {t : XT} {a1 : Int32} {a2 : Int32} {Q R S : Int64 → XT → Prop} (hQ : wqX12_waysFrom k t a1 a2 Q) (hR : wqX12_waysFrom k t a1 a2 R) (f : ∀ r t, Q r t → R r t → S r t) : wqX12_waysFrom k t a1 a2 S := wmX12_waysFrom (Nat.le_refl k) (fun r t h => f r t h.1 h.2) (wjX12_waysFrom hQ hR)
set_option maxHeartbeats 4000000 in
set_option maxRecDepth 100000 in
theorem wkX12_rowsj (Q R : XT → Prop) : ∀ k : Nat, (∀ (t : XT) (li : Nat → Int32) (lj : Nat → Int64), wpX12_rows k 0 t li lj Q → wpX12_rows k 0 t li lj R → wpX12_rows k 0 t li lj (fun t => Q t ∧ R t)) := by
  intro k
  induction k with
  | zero => exact fun _ _ _ hR _ => False.elim hR
  | succ k ih =>
    intro t li lj hQ hR
    have hQ : wbX12_rows_0 (wpX12_rows k) k t li lj Q := hQ
    have hR : wbX12_rows_0 (wpX12_rows k) k t li lj R := hR
    show wbX12_rows_0 (wpX12_rows k) k t li lj (fun t => Q t ∧ R t)
    unfold wbX12_rows_0 at hQ hR ⊢
    exact ⟨hQ.1, fun x1 e1 => fun x2 e2 => fun x3 e3 => ⟨(((hQ.2 x1 e1) x2 e2) x3 e3), (((hR.2 x1 e1) x2 e2) x3 e3)⟩⟩
theorem wjX12_rows {k : Nat} {t : XT} {a1 : Int32} {Q R : XT → Prop} (hQ : wqX12_rows k t a1 Q) (hR : wqX12_rows k t a1 R) : wqX12_rows k t a1 (fun t => Q t ∧ R t) := (wkX12_rowsj Q R k) t _ _ hQ hR
theorem wiX12_rows {k : Nat} {t : XT} {a1 : Int32} {Q R S : XT → Prop} (hQ : wqX12_rows k t a1 Q) (hR : wqX12_rows k t a1 R) (f : ∀ t, Q t → R t → S t) : wqX12_rows k t a1 S := wmX12_rows (Nat.le_refl k) (fun t h => f t h.1 h.2) (wjX12_rows hQ hR)
set_option maxHeartbeats 4000000 in
set_option maxRecDepth 100000 in
theorem wkX12_laysPathj (Q R : Int32 → XT → Prop) : ∀ k : Nat, (∀ (t : XT) (li : Nat → Int32) (lj : Nat → Int64), wpX12_laysPath k 0 t li lj Q → wpX12_laysPath k 0 t li lj R → wpX12_laysPath k 0 t li lj (fun r t => Q r t ∧ R r t)) ∧ (∀ (t : XT) (li : Nat → Int32) (lj : Nat → Int64), wpX12_laysPath k 1 t li lj Q → wpX12_laysPath k 1 t li lj R → wpX12_laysPath k 1 t li lj (fun r t => Q r t ∧ R r t)) ∧ (∀ (t : XT) (li : Nat → Int32) (lj : Nat → Int64), wpX12_laysPath k 2 t li lj Q → wpX12_laysPath k 2 t li lj R → wpX12_laysPath k 2 t li lj (fun r t => Q r t ∧ R r t)) ∧ (∀ (t : XT) (li : Nat → Int32) (lj : Nat → Int64), wpX12_laysPath k 3 t li lj Q → wpX12_laysPath k 3 t li lj R → wpX12_laysPath k 3 t li lj (fun r t => Q r t ∧ R r t)) ∧ (∀ (t : XT) (li : Nat → Int32) (lj : Nat → Int64), wpX12_laysPath k 4 t li lj Q → wpX12_laysPath k 4 t li lj R → wpX12_laysPath k 4 t li lj (fun r t => Q r t ∧ R r t)) ∧ (∀ (t : XT) (li : Nat → Int32) (lj : Nat → Int64), wpX12_laysPath k 5 t li lj Q → wpX12_laysPath k 5 t li lj R → wpX12_laysPath k 5 t li lj (fun r t => Q r t ∧ R r t)) ∧ (∀ (t : XT) (li : Nat → Int32) (lj : Nat → Int64), wpX12_laysPath k 6 t li lj Q → wpX12_laysPath k 6 t li lj R → wpX12_laysPath k 6 t li lj (fun r t => Q r t ∧ R r t)) := by
  intro k
  induction k with
  | zero => exact ⟨fun _ _ _ hR _ => False.elim hR, fun _ _ _ hR _ => False.elim hR, fun _ _ _ hR _ => False.elim hR, fun _ _ _ hR _ => False.elim hR, fun _ _ _ hR _ => False.elim hR, fun _ _ _ hR _ => False.elim hR, fun _ _ _ hR _ => False.elim hR⟩
  | succ k ih =>
    refine ⟨?_, ?_, ?_, ?_, ?_, ?_, ?_⟩
    · intro t li lj hQ hR
      have hQ : wbX12_laysPath_0 (wpX12_laysPath k) k t li lj Q := hQ
      have hR : wbX12_laysPath_0 (wpX12_laysPath k) k t li lj R := hR
      show wbX12_laysPath_0 (wpX12_laysPath k) k t li lj (fun r t => Q r t ∧ R r t)
      unfold wbX12_laysPath_0 at hQ hR ⊢
      exact wiX12_waysFrom hQ hR (fun y1_0 y1_1 h1 i1 => fun x2 e2 => ⟨fun c3 => fun x4 e4 => wiX12_rows (((h1 x2 e2).1 c3) x4 e4) (((i1 x2 e2).1 c3) x4 e4) (fun y5_0 h5 i5 => ih.2.1 _ _ _ h5 i5), fun c6 => ⟨((h1 x2 e2).2 c6), ((i1 x2 e2).2 c6)⟩⟩)
    · intro t li lj hQ hR
      have hQ : wbX12_laysPath_1 (wpX12_laysPath k) k t li lj Q := hQ
      have hR : wbX12_laysPath_1 (wpX12_laysPath k) k t li lj R := hR
      show wbX12_laysPath_1 (wpX12_laysPath k) k t li lj (fun r t => Q r t ∧ R r t)
      unfold wbX12_laysPath_1 at hQ hR ⊢
      exact ⟨fun c1 => ⟨(hQ.1 c1), (hR.1 c1)⟩, fun c2 => ih.2.2.1 _ _ _ (hQ.2 c2) (hR.2 c2)⟩
    · intro t li lj hQ hR
      have hQ : wbX12_laysPath_2 (wpX12_laysPath k) k t li lj Q := hQ
      have hR : wbX12_laysPath_2 (wpX12_laysPath k) k t li lj R := hR
      show wbX12_laysPath_2 (wpX12_laysPath k) k t li lj (fun r t => Q r t ∧ R r t)
      unfold wbX12_laysPath_2 at hQ hR ⊢
      exact ⟨fun c1 => ih.2.2.2.1 _ _ _ (hQ.1 c1) (hR.1 c1), fun c2 => wiX12_isFaceThere (hQ.2 c2) (hR.2 c2) (fun y3_0 y3_1 h3 i3 => ⟨fun c4 => ih.2.2.2.1 _ _ _ (h3.1 c4) (i3.1 c4), fun c5 => ⟨(h3.2 c5).1, fun x6 e6 => fun x7 e7 => ⟨fun c8 => wiX12_rows ((((h3.2 c5).2 x6 e6) x7 e7).1 c8) ((((i3.2 c5).2 x6 e6) x7 e7).1 c8) (fun y9_0 h9 i9 => ⟨fun c10 => ih.2.2.2.2.2.2 _ _ _ (h9.1 c10) (i9.1 c10), fun c11 => ⟨(h9.2 c11).1, fun x12 e12 => wiX12_rows ((h9.2 c11).2 x12 e12) ((i9.2 c11).2 x12 e12) (fun y13_0 h13 i13 => ih.2.2.2.2.2.2 _ _ _ h13 i13)⟩⟩), fun c14 => ih.2.2.2.1 _ _ _ ((((h3.2 c5).2 x6 e6) x7 e7).2 c14) ((((i3.2 c5).2 x6 e6) x7 e7).2 c14)⟩⟩⟩)⟩
    · intro t li lj hQ hR
      have hQ : wbX12_laysPath_3 (wpX12_laysPath k) k t li lj Q := hQ
      have hR : wbX12_laysPath_3 (wpX12_laysPath k) k t li lj R := hR
      show wbX12_laysPath_3 (wpX12_laysPath k) k t li lj (fun r t => Q r t ∧ R r t)
      unfold wbX12_laysPath_3 at hQ hR ⊢
      exact ⟨fun c1 => ih.2.2.2.2.1 _ _ _ (hQ.1 c1) (hR.1 c1), fun c2 => wiX12_isFaceThere (hQ.2 c2) (hR.2 c2) (fun y3_0 y3_1 h3 i3 => ⟨fun c4 => ih.2.2.2.2.1 _ _ _ (h3.1 c4) (i3.1 c4), fun c5 => ⟨(h3.2 c5).1, fun x6 e6 => ih.2.2.2.2.2.1 _ _ _ ((h3.2 c5).2 x6 e6) ((i3.2 c5).2 x6 e6)⟩⟩)⟩
    · intro t li lj hQ hR
      have hQ : wbX12_laysPath_4 (wpX12_laysPath k) k t li lj Q := hQ
      have hR : wbX12_laysPath_4 (wpX12_laysPath k) k t li lj R := hR
      show wbX12_laysPath_4 (wpX12_laysPath k) k t li lj (fun r t => Q r t ∧ R r t)
      unfold wbX12_laysPath_4 at hQ hR ⊢
      exact ih.2.2.2.2.2.1 _ _ _ hQ hR
    · intro t li lj hQ hR
      have hQ : wbX12_laysPath_5 (wpX12_laysPath k) k t li lj Q := hQ
      have hR : wbX12_laysPath_5 (wpX12_laysPath k) k t li lj R := hR
      show wbX12_laysPath_5 (wpX12_laysPath k) k t li lj (fun r t => Q r t ∧ R r t)
      unfold wbX12_laysPath_5 at hQ hR ⊢
      exact fun x1 e1 => fun x2 e2 => ih.2.2.1 _ _ _ ((hQ x1 e1) x2 e2) ((hR x1 e1) x2 e2)
    · intro t li lj hQ hR
      have hQ : wbX12_laysPath_6 (wpX12_laysPath k) k t li lj Q := hQ
      have hR : wbX12_laysPath_6 (wpX12_laysPath k) k t li lj R := hR
      show wbX12_laysPath_6 (wpX12_laysPath k) k t li lj (fun r t => Q r t ∧ R r t)
      unfold wbX12_laysPath_6 at hQ hR ⊢
      exact ih.2.1 _ _ _ hQ hR
theorem wjX12_laysPath {k : Nat} {t : XT} {a1 : Int32} {a2 : Int32} {a3 : Int64} {Q R : Int32 → XT → Prop} (hQ : wqX12_laysPath k t a1 a2 a3 Q) (hR : wqX12_laysPath k t a1 a2 a3 R) : wqX12_laysPath k t a1 a2 a3 (fun r t => Q r t ∧ R r t) := (wkX12_laysPathj Q R k).1 t _ _ hQ hR
theorem wiX12_laysPath {k : Nat} {t : XT} {a1 : Int32} {a2 : Int32} {a3 : Int64} {Q R S : Int32 → XT → Prop} (hQ : wqX12_laysPath k t a1 a2 a3 Q) (hR : wqX12_laysPath k t a1 a2 a3 R) (f : ∀ r t, Q r t → R r t → S r t) : wqX12_laysPath k t a1 a2 a3 S := wmX12_laysPath (Nat.le_refl k) (fun r t h => f r t h.1 h.2) (wjX12_laysPath hQ hR)
set_option maxHeartbeats 4000000 in
set_option maxRecDepth 100000 in
theorem wkX12_cancelj (Q R : Int32 → XT → Prop) : ∀ k : Nat, (∀ (t : XT) (li : Nat → Int32) (lj : Nat → Int64), wpX12_cancel k 0 t li lj Q → wpX12_cancel k 0 t li lj R → wpX12_cancel k 0 t li lj (fun r t => Q r t ∧ R r t)) ∧ (∀ (t : XT) (li : Nat → Int32) (lj : Nat → Int64), wpX12_cancel k 1 t li lj Q → wpX12_cancel k 1 t li lj R → wpX12_cancel k 1 t li lj (fun r t => Q r t ∧ R r t)) ∧ (∀ (t : XT) (li : Nat → Int32) (lj : Nat → Int64), wpX12_cancel k 2 t li lj Q → wpX12_cancel k 2 t li lj R → wpX12_cancel k 2 t li lj (fun r t => Q r t ∧ R r t)) := by
  intro k
  induction k with
  | zero => exact ⟨fun _ _ _ hR _ => False.elim hR, fun _ _ _ hR _ => False.elim hR, fun _ _ _ hR _ => False.elim hR⟩
  | succ k ih =>
    refine ⟨?_, ?_, ?_⟩
    · intro t li lj hQ hR
      have hQ : wbX12_cancel_0 (wpX12_cancel k) k t li lj Q := hQ
      have hR : wbX12_cancel_0 (wpX12_cancel k) k t li lj R := hR
      show wbX12_cancel_0 (wpX12_cancel k) k t li lj (fun r t => Q r t ∧ R r t)
      unfold wbX12_cancel_0 at hQ hR ⊢
      exact wiX12_areEnds hQ hR (fun y1_0 y1_1 h1 i1 => ⟨fun c2 => wiX12_waysFrom (h1.1 c2) (i1.1 c2) (fun y3_0 y3_1 h3 i3 => fun x4 e4 => ⟨fun c5 => wiX12_laysPath ((h3 x4 e4).1 c5) ((i3 x4 e4).1 c5) (fun y6_0 y6_1 h6 i6 => wiX12_remembers h6 i6 (fun y7_0 h7 i7 => ih.2.1 _ _ _ h7 i7)), fun c8 => ⟨((h3 x4 e4).2 c8), ((i3 x4 e4).2 c8)⟩⟩), fun c9 => ⟨(h1.2 c9), (i1.2 c9)⟩⟩)
    · intro t li lj hQ hR
      have hQ : wbX12_cancel_1 (wpX12_cancel k) k t li lj Q := hQ
      have hR : wbX12_cancel_1 (wpX12_cancel k) k t li lj R := hR
      show wbX12_cancel_1 (wpX12_cancel k) k t li lj (fun r t => Q r t ∧ R r t)
      unfold wbX12_cancel_1 at hQ hR ⊢
      exact ⟨fun c1 => ih.2.2 _ _ _ (hQ.1 c1) (hR.1 c1), fun c2 => ⟨(hQ.2 c2).1, fun x3 e3 => ⟨((hQ.2 c2).2 x3 e3).1, fun x4 e4 => fun x5 e5 => ih.2.1 _ _ _ ((((hQ.2 c2).2 x3 e3).2 x4 e4) x5 e5) ((((hR.2 c2).2 x3 e3).2 x4 e4) x5 e5)⟩⟩⟩
    · intro t li lj hQ hR
      have hQ : wbX12_cancel_2 (wpX12_cancel k) k t li lj Q := hQ
      have hR : wbX12_cancel_2 (wpX12_cancel k) k t li lj R := hR
      show wbX12_cancel_2 (wpX12_cancel k) k t li lj (fun r t => Q r t ∧ R r t)
      unfold wbX12_cancel_2 at hQ hR ⊢
      exact fun x1 e1 => ⟨fun c2 => wiX12_criticalMany ((hQ x1 e1).1 c2) ((hR x1 e1).1 c2) (fun y3_0 y3_1 h3 i3 => ⟨h3, i3⟩), fun c4 => ⟨((hQ x1 e1).2 c4).1, fun x5 e5 => fun x6 e6 => ⟨((((hQ x1 e1).2 c4).2 x5 e5) x6 e6).1, fun x7 e7 => ⟨(((((hQ x1 e1).2 c4).2 x5 e5) x6 e6).2 x7 e7).1, fun x8 e8 => fun x9 e9 => ⟨(((((((hQ x1 e1).2 c4).2 x5 e5) x6 e6).2 x7 e7).2 x8 e8) x9 e9).1, fun x10 e10 => ⟨((((((((hQ x1 e1).2 c4).2 x5 e5) x6 e6).2 x7 e7).2 x8 e8) x9 e9).2 x10 e10).1, fun x11 e11 => ⟨(((((((((hQ x1 e1).2 c4).2 x5 e5) x6 e6).2 x7 e7).2 x8 e8) x9 e9).2 x10 e10).2 x11 e11).1, fun x12 e12 => fun x13 e13 => ih.2.2 _ _ _ (((((((((((hQ x1 e1).2 c4).2 x5 e5) x6 e6).2 x7 e7).2 x8 e8) x9 e9).2 x10 e10).2 x11 e11).2 x12 e12) x13 e13) (((((((((((hR x1 e1).2 c4).2 x5 e5) x6 e6).2 x7 e7).2 x8 e8) x9 e9).2 x10 e10).2 x11 e11).2 x12 e12) x13 e13)⟩⟩⟩⟩⟩⟩⟩
theorem wjX12_cancel {k : Nat} {t : XT} {a1 : Int32} {a2 : Int32} {Q R : Int32 → XT → Prop} (hQ : wqX12_cancel k t a1 a2 Q) (hR : wqX12_cancel k t a1 a2 R) : wqX12_cancel k t a1 a2 (fun r t => Q r t ∧ R r t) := (wkX12_cancelj Q R k).1 t _ _ hQ hR
theorem wiX12_cancel {k : Nat} {t : XT} {a1 : Int32} {a2 : Int32} {Q R S : Int32 → XT → Prop} (hQ : wqX12_cancel k t a1 a2 Q) (hR : wqX12_cancel k t a1 a2 R) (f : ∀ r t, Q r t → R r t → S r t) : wqX12_cancel k t a1 a2 S := wmX12_cancel (Nat.le_refl k) (fun r t h => f r t h.1 h.2) (wjX12_cancel hQ hR)
set_option maxHeartbeats 4000000 in
set_option maxRecDepth 100000 in
theorem wkX12_overOfj (Q R : Int32 → XT → Prop) : ∀ k : Nat, (∀ (t : XT) (li : Nat → Int32) (lj : Nat → Int64), wpX12_overOf k 0 t li lj Q → wpX12_overOf k 0 t li lj R → wpX12_overOf k 0 t li lj (fun r t => Q r t ∧ R r t)) ∧ (∀ (t : XT) (li : Nat → Int32) (lj : Nat → Int64), wpX12_overOf k 1 t li lj Q → wpX12_overOf k 1 t li lj R → wpX12_overOf k 1 t li lj (fun r t => Q r t ∧ R r t)) := by
  intro k
  induction k with
  | zero => exact ⟨fun _ _ _ hR _ => False.elim hR, fun _ _ _ hR _ => False.elim hR⟩
  | succ k ih =>
    refine ⟨?_, ?_⟩
    · intro t li lj hQ hR
      have hQ : wbX12_overOf_0 (wpX12_overOf k) k t li lj Q := hQ
      have hR : wbX12_overOf_0 (wpX12_overOf k) k t li lj R := hR
      show wbX12_overOf_0 (wpX12_overOf k) k t li lj (fun r t => Q r t ∧ R r t)
      unfold wbX12_overOf_0 at hQ hR ⊢
      exact ih.2 _ _ _ hQ hR
    · intro t li lj hQ hR
      have hQ : wbX12_overOf_1 (wpX12_overOf k) k t li lj Q := hQ
      have hR : wbX12_overOf_1 (wpX12_overOf k) k t li lj R := hR
      show wbX12_overOf_1 (wpX12_overOf k) k t li lj (fun r t => Q r t ∧ R r t)
      unfold wbX12_overOf_1 at hQ hR ⊢
      exact wiX12_isFaceThere hQ hR (fun y1_0 y1_1 h1 i1 => ⟨fun c2 => ⟨(h1.1 c2), (i1.1 c2)⟩, fun c3 => fun x4 e4 => ih.2 _ _ _ ((h1.2 c3) x4 e4) ((i1.2 c3) x4 e4)⟩)
theorem wjX12_overOf {k : Nat} {t : XT} {a1 : Int32} {Q R : Int32 → XT → Prop} (hQ : wqX12_overOf k t a1 Q) (hR : wqX12_overOf k t a1 R) : wqX12_overOf k t a1 (fun r t => Q r t ∧ R r t) := (wkX12_overOfj Q R k).1 t _ _ hQ hR
theorem wiX12_overOf {k : Nat} {t : XT} {a1 : Int32} {Q R S : Int32 → XT → Prop} (hQ : wqX12_overOf k t a1 Q) (hR : wqX12_overOf k t a1 R) (f : ∀ r t, Q r t → R r t → S r t) : wqX12_overOf k t a1 S := wmX12_overOf (Nat.le_refl k) (fun r t h => f r t h.1 h.2) (wjX12_overOf hQ hR)
set_option maxHeartbeats 4000000 in
set_option maxRecDepth 100000 in
theorem wkX12_isFreeFacej (Q R : Int32 → XT → Prop) : ∀ k : Nat, (∀ (t : XT) (li : Nat → Int32) (lj : Nat → Int64), wpX12_isFreeFace k 0 t li lj Q → wpX12_isFreeFace k 0 t li lj R → wpX12_isFreeFace k 0 t li lj (fun r t => Q r t ∧ R r t)) ∧ (∀ (t : XT) (li : Nat → Int32) (lj : Nat → Int64), wpX12_isFreeFace k 1 t li lj Q → wpX12_isFreeFace k 1 t li lj R → wpX12_isFreeFace k 1 t li lj (fun r t => Q r t ∧ R r t)) := by
  intro k
  induction k with
  | zero => exact ⟨fun _ _ _ hR _ => False.elim hR, fun _ _ _ hR _ => False.elim hR⟩
  | succ k ih =>
    refine ⟨?_, ?_⟩
    · intro t li lj hQ hR
      have hQ : wbX12_isFreeFace_0 (wpX12_isFreeFace k) k t li lj Q := hQ
      have hR : wbX12_isFreeFace_0 (wpX12_isFreeFace k) k t li lj R := hR
      show wbX12_isFreeFace_0 (wpX12_isFreeFace k) k t li lj (fun r t => Q r t ∧ R r t)
      unfold wbX12_isFreeFace_0 at hQ hR ⊢
      exact wiX12_isThere hQ hR (fun y1_0 y1_1 h1 i1 => ⟨fun c2 => ih.2 _ _ _ (h1.1 c2) (i1.1 c2), fun c3 => wiX12_facesOver (h1.2 c3) (i1.2 c3) (fun y4_0 y4_1 h4 i4 => ⟨fun c5 => wiX12_overOf (h4.1 c5) (i4.1 c5) (fun y6_0 y6_1 h6 i6 => wiX12_facesOver h6 i6 (fun y7_0 y7_1 h7 i7 => ⟨fun c8 => ⟨(h7.1 c8), (i7.1 c8)⟩, fun c9 => ⟨(h7.2 c9), (i7.2 c9)⟩⟩)), fun c10 => ih.2 _ _ _ (h4.2 c10) (i4.2 c10)⟩)⟩)
    · intro t li lj hQ hR
      have hQ : wbX12_isFreeFace_1 (wpX12_isFreeFace k) k t li lj Q := hQ
      have hR : wbX12_isFreeFace_1 (wpX12_isFreeFace k) k t li lj R := hR
      show wbX12_isFreeFace_1 (wpX12_isFreeFace k) k t li lj (fun r t => Q r t ∧ R r t)
      unfold wbX12_isFreeFace_1 at hQ hR ⊢
      exact ⟨hQ, hR⟩
theorem wjX12_isFreeFace {k : Nat} {t : XT} {a1 : Int32} {Q R : Int32 → XT → Prop} (hQ : wqX12_isFreeFace k t a1 Q) (hR : wqX12_isFreeFace k t a1 R) : wqX12_isFreeFace k t a1 (fun r t => Q r t ∧ R r t) := (wkX12_isFreeFacej Q R k).1 t _ _ hQ hR
theorem wiX12_isFreeFace {k : Nat} {t : XT} {a1 : Int32} {Q R S : Int32 → XT → Prop} (hQ : wqX12_isFreeFace k t a1 Q) (hR : wqX12_isFreeFace k t a1 R) (f : ∀ r t, Q r t → R r t → S r t) : wqX12_isFreeFace k t a1 S := wmX12_isFreeFace (Nat.le_refl k) (fun r t h => f r t h.1 h.2) (wjX12_isFreeFace hQ hR)
set_option maxHeartbeats 4000000 in
set_option maxRecDepth 100000 in
theorem wkX12_thereManyj (Q R : Int32 → XT → Prop) : ∀ k : Nat, (∀ (t : XT) (li : Nat → Int32) (lj : Nat → Int64), wpX12_thereMany k 0 t li lj Q → wpX12_thereMany k 0 t li lj R → wpX12_thereMany k 0 t li lj (fun r t => Q r t ∧ R r t)) ∧ (∀ (t : XT) (li : Nat → Int32) (lj : Nat → Int64), wpX12_thereMany k 1 t li lj Q → wpX12_thereMany k 1 t li lj R → wpX12_thereMany k 1 t li lj (fun r t => Q r t ∧ R r t)) ∧ (∀ (t : XT) (li : Nat → Int32) (lj : Nat → Int64), wpX12_thereMany k 2 t li lj Q → wpX12_thereMany k 2 t li lj R → wpX12_thereMany k 2 t li lj (fun r t => Q r t ∧ R r t)) := by
  intro k
  induction k with
  | zero => exact ⟨fun _ _ _ hR _ => False.elim hR, fun _ _ _ hR _ => False.elim hR, fun _ _ _ hR _ => False.elim hR⟩
  | succ k ih =>
    refine ⟨?_, ?_, ?_⟩
    · intro t li lj hQ hR
      have hQ : wbX12_thereMany_0 (wpX12_thereMany k) k t li lj Q := hQ
      have hR : wbX12_thereMany_0 (wpX12_thereMany k) k t li lj R := hR
      show wbX12_thereMany_0 (wpX12_thereMany k) k t li lj (fun r t => Q r t ∧ R r t)
      unfold wbX12_thereMany_0 at hQ hR ⊢
      exact ih.2.1 _ _ _ hQ hR
    · intro t li lj hQ hR
      have hQ : wbX12_thereMany_1 (wpX12_thereMany k) k t li lj Q := hQ
      have hR : wbX12_thereMany_1 (wpX12_thereMany k) k t li lj R := hR
      show wbX12_thereMany_1 (wpX12_thereMany k) k t li lj (fun r t => Q r t ∧ R r t)
      unfold wbX12_thereMany_1 at hQ hR ⊢
      exact ⟨fun c1 => ⟨(hQ.1 c1), (hR.1 c1)⟩, fun c2 => ⟨(hQ.2 c2).1, fun x3 e3 => ⟨fun c4 => ih.2.2 _ _ _ (((hQ.2 c2).2 x3 e3).1 c4) (((hR.2 c2).2 x3 e3).1 c4), fun c5 => ih.2.2 _ _ _ (((hQ.2 c2).2 x3 e3).2 c5) (((hR.2 c2).2 x3 e3).2 c5)⟩⟩⟩
    · intro t li lj hQ hR
      have hQ : wbX12_thereMany_2 (wpX12_thereMany k) k t li lj Q := hQ
      have hR : wbX12_thereMany_2 (wpX12_thereMany k) k t li lj R := hR
      show wbX12_thereMany_2 (wpX12_thereMany k) k t li lj (fun r t => Q r t ∧ R r t)
      unfold wbX12_thereMany_2 at hQ hR ⊢
      exact wiX12_truth hQ hR (fun y1_0 h1 i1 => fun x2 e2 => fun x3 e3 => ih.2.1 _ _ _ ((h1 x2 e2) x3 e3) ((i1 x2 e2) x3 e3))
theorem wjX12_thereMany {k : Nat} {t : XT}  {Q R : Int32 → XT → Prop} (hQ : wqX12_thereMany k t  Q) (hR : wqX12_thereMany k t  R) : wqX12_thereMany k t  (fun r t => Q r t ∧ R r t) := (wkX12_thereManyj Q R k).1 t _ _ hQ hR
theorem wiX12_thereMany {k : Nat} {t : XT}  {Q R S : Int32 → XT → Prop} (hQ : wqX12_thereMany k t  Q) (hR : wqX12_thereMany k t  R) (f : ∀ r t, Q r t → R r t → S r t) : wqX12_thereMany k t  S := wmX12_thereMany (Nat.le_refl k) (fun r t h => f r t h.1 h.2) (wjX12_thereMany hQ hR)
set_option maxHeartbeats 4000000 in
set_option maxRecDepth 100000 in
theorem wkX12_collapsej (Q R : Int32 → XT → Prop) : ∀ k : Nat, (∀ (t : XT) (li : Nat → Int32) (lj : Nat → Int64), wpX12_collapse k 0 t li lj Q → wpX12_collapse k 0 t li lj R → wpX12_collapse k 0 t li lj (fun r t => Q r t ∧ R r t)) := by
  intro k
  induction k with
  | zero => exact fun _ _ _ hR _ => False.elim hR
  | succ k ih =>
    intro t li lj hQ hR
    have hQ : wbX12_collapse_0 (wpX12_collapse k) k t li lj Q := hQ
    have hR : wbX12_collapse_0 (wpX12_collapse k) k t li lj R := hR
    show wbX12_collapse_0 (wpX12_collapse k) k t li lj (fun r t => Q r t ∧ R r t)
    unfold wbX12_collapse_0 at hQ hR ⊢
    exact wiX12_isThere hQ hR (fun y1_0 y1_1 h1 i1 => ⟨fun c2 => wiX12_isFreeFace (h1.1 c2) (i1.1 c2) (fun y3_0 y3_1 h3 i3 => ⟨fun c4 => wiX12_remembers (h3.1 c4) (i3.1 c4) (fun y5_0 h5 i5 => wiX12_overOf h5 i5 (fun y6_0 y6_1 h6 i6 => wiX12_frees h6 i6 (fun y7_0 h7 i7 => wiX12_frees h7 i7 (fun y8_0 h8 i8 => ⟨h8.1, fun x9 e9 => ⟨(h8.2 x9 e9).1, fun x10 e10 => wiX12_thereMany ((h8.2 x9 e9).2 x10 e10) ((i8.2 x9 e9).2 x10 e10) (fun y11_0 y11_1 h11 i11 => ⟨h11, i11⟩)⟩⟩)))), fun c12 => ⟨(h3.2 c12), (i3.2 c12)⟩⟩), fun c13 => ⟨(h1.2 c13), (i1.2 c13)⟩⟩)
theorem wjX12_collapse {k : Nat} {t : XT} {a1 : Int32} {Q R : Int32 → XT → Prop} (hQ : wqX12_collapse k t a1 Q) (hR : wqX12_collapse k t a1 R) : wqX12_collapse k t a1 (fun r t => Q r t ∧ R r t) := (wkX12_collapsej Q R k) t _ _ hQ hR
theorem wiX12_collapse {k : Nat} {t : XT} {a1 : Int32} {Q R S : Int32 → XT → Prop} (hQ : wqX12_collapse k t a1 Q) (hR : wqX12_collapse k t a1 R) (f : ∀ r t, Q r t → R r t → S r t) : wqX12_collapse k t a1 S := wmX12_collapse (Nat.le_refl k) (fun r t h => f r t h.1 h.2) (wjX12_collapse hQ hR)
set_option maxHeartbeats 4000000 in
set_option maxRecDepth 100000 in
theorem wkX12_undoj (Q R : Int32 → XT → Prop) : ∀ k : Nat, (∀ (t : XT) (li : Nat → Int32) (lj : Nat → Int64), wpX12_undo k 0 t li lj Q → wpX12_undo k 0 t li lj R → wpX12_undo k 0 t li lj (fun r t => Q r t ∧ R r t)) ∧ (∀ (t : XT) (li : Nat → Int32) (lj : Nat → Int64), wpX12_undo k 1 t li lj Q → wpX12_undo k 1 t li lj R → wpX12_undo k 1 t li lj (fun r t => Q r t ∧ R r t)) ∧ (∀ (t : XT) (li : Nat → Int32) (lj : Nat → Int64), wpX12_undo k 2 t li lj Q → wpX12_undo k 2 t li lj R → wpX12_undo k 2 t li lj (fun r t => Q r t ∧ R r t)) := by
  intro k
  induction k with
  | zero => exact ⟨fun _ _ _ hR _ => False.elim hR, fun _ _ _ hR _ => False.elim hR, fun _ _ _ hR _ => False.elim hR⟩
  | succ k ih =>
    refine ⟨?_, ?_, ?_⟩
    · intro t li lj hQ hR
      have hQ : wbX12_undo_0 (wpX12_undo k) k t li lj Q := hQ
      have hR : wbX12_undo_0 (wpX12_undo k) k t li lj R := hR
      show wbX12_undo_0 (wpX12_undo k) k t li lj (fun r t => Q r t ∧ R r t)
      unfold wbX12_undo_0 at hQ hR ⊢
      exact ⟨fun c1 => fun x2 e2 => fun x3 e3 => fun x4 e4 => ih.2.1 _ _ _ ((((hQ.1 c1) x2 e2) x3 e3) x4 e4) ((((hR.1 c1) x2 e2) x3 e3) x4 e4), fun c5 => ⟨(hQ.2 c5), (hR.2 c5)⟩⟩
    · intro t li lj hQ hR
      have hQ : wbX12_undo_1 (wpX12_undo k) k t li lj Q := hQ
      have hR : wbX12_undo_1 (wpX12_undo k) k t li lj R := hR
      show wbX12_undo_1 (wpX12_undo k) k t li lj (fun r t => Q r t ∧ R r t)
      unfold wbX12_undo_1 at hQ hR ⊢
      exact ⟨fun c1 => ⟨(hQ.1 c1), (hR.1 c1)⟩, fun c2 => fun x3 e3 => ⟨((hQ.2 c2) x3 e3).1, fun x4 e4 => ⟨(((hQ.2 c2) x3 e3).2 x4 e4).1, fun x5 e5 => fun x6 e6 => fun x7 e7 => ⟨((((((hQ.2 c2) x3 e3).2 x4 e4).2 x5 e5) x6 e6) x7 e7).1, fun x8 e8 => ⟨fun c9 => ih.2.2 _ _ _ ((((((((hQ.2 c2) x3 e3).2 x4 e4).2 x5 e5) x6 e6) x7 e7).2 x8 e8).1 c9) ((((((((hR.2 c2) x3 e3).2 x4 e4).2 x5 e5) x6 e6) x7 e7).2 x8 e8).1 c9), fun c10 => ih.2.2 _ _ _ ((((((((hQ.2 c2) x3 e3).2 x4 e4).2 x5 e5) x6 e6) x7 e7).2 x8 e8).2 c10) ((((((((hR.2 c2) x3 e3).2 x4 e4).2 x5 e5) x6 e6) x7 e7).2 x8 e8).2 c10)⟩⟩⟩⟩⟩
    · intro t li lj hQ hR
      have hQ : wbX12_undo_2 (wpX12_undo k) k t li lj Q := hQ
      have hR : wbX12_undo_2 (wpX12_undo k) k t li lj R := hR
      show wbX12_undo_2 (wpX12_undo k) k t li lj (fun r t => Q r t ∧ R r t)
      unfold wbX12_undo_2 at hQ hR ⊢
      exact ⟨hQ.1, fun x1 e1 => fun x2 e2 => ih.2.1 _ _ _ ((hQ.2 x1 e1) x2 e2) ((hR.2 x1 e1) x2 e2)⟩
theorem wjX12_undo {k : Nat} {t : XT}  {Q R : Int32 → XT → Prop} (hQ : wqX12_undo k t  Q) (hR : wqX12_undo k t  R) : wqX12_undo k t  (fun r t => Q r t ∧ R r t) := (wkX12_undoj Q R k).1 t _ _ hQ hR
theorem wiX12_undo {k : Nat} {t : XT}  {Q R S : Int32 → XT → Prop} (hQ : wqX12_undo k t  Q) (hR : wqX12_undo k t  R) (f : ∀ r t, Q r t → R r t → S r t) : wqX12_undo k t  S := wmX12_undo (Nat.le_refl k) (fun r t h => f r t h.1 h.2) (wjX12_undo hQ hR)
set_option maxHeartbeats 4000000 in
set_option maxRecDepth 100000 in
theorem wkX12_criticalj (Q R : Int32 → XT → Prop) : ∀ k : Nat, (∀ (t : XT) (li : Nat → Int32) (lj : Nat → Int64), wpX12_critical k 0 t li lj Q → wpX12_critical k 0 t li lj R → wpX12_critical k 0 t li lj (fun r t => Q r t ∧ R r t)) ∧ (∀ (t : XT) (li : Nat → Int32) (lj : Nat → Int64), wpX12_critical k 1 t li lj Q → wpX12_critical k 1 t li lj R → wpX12_critical k 1 t li lj (fun r t => Q r t ∧ R r t)) ∧ (∀ (t : XT) (li : Nat → Int32) (lj : Nat → Int64), wpX12_critical k 2 t li lj Q → wpX12_critical k 2 t li lj R → wpX12_critical k 2 t li lj (fun r t => Q r t ∧ R r t)) ∧ (∀ (t : XT) (li : Nat → Int32) (lj : Nat → Int64), wpX12_critical k 3 t li lj Q → wpX12_critical k 3 t li lj R → wpX12_critical k 3 t li lj (fun r t => Q r t ∧ R r t)) := by
  intro k
  induction k with
  | zero => exact ⟨fun _ _ _ hR _ => False.elim hR, fun _ _ _ hR _ => False.elim hR, fun _ _ _ hR _ => False.elim hR, fun _ _ _ hR _ => False.elim hR⟩
  | succ k ih =>
    refine ⟨?_, ?_, ?_, ?_⟩
    · intro t li lj hQ hR
      have hQ : wbX12_critical_0 (wpX12_critical k) k t li lj Q := hQ
      have hR : wbX12_critical_0 (wpX12_critical k) k t li lj R := hR
      show wbX12_critical_0 (wpX12_critical k) k t li lj (fun r t => Q r t ∧ R r t)
      unfold wbX12_critical_0 at hQ hR ⊢
      exact wiX12_in hQ hR (fun y1_0 h1 i1 => ⟨fun c2 => ih.2.1 _ _ _ (h1.1 c2) (i1.1 c2), fun c3 => ⟨fun c4 => ih.2.2.1 _ _ _ ((h1.2 c3).1 c4) ((i1.2 c3).1 c4), fun c5 => ih.2.1 _ _ _ ((h1.2 c3).2 c5) ((i1.2 c3).2 c5)⟩⟩)
    · intro t li lj hQ hR
      have hQ : wbX12_critical_1 (wpX12_critical k) k t li lj Q := hQ
      have hR : wbX12_critical_1 (wpX12_critical k) k t li lj R := hR
      show wbX12_critical_1 (wpX12_critical k) k t li lj (fun r t => Q r t ∧ R r t)
      unfold wbX12_critical_1 at hQ hR ⊢
      exact ⟨hQ, hR⟩
    · intro t li lj hQ hR
      have hQ : wbX12_critical_2 (wpX12_critical k) k t li lj Q := hQ
      have hR : wbX12_critical_2 (wpX12_critical k) k t li lj R := hR
      show wbX12_critical_2 (wpX12_critical k) k t li lj (fun r t => Q r t ∧ R r t)
      unfold wbX12_critical_2 at hQ hR ⊢
      exact ⟨fun c1 => ⟨fun c2 => ⟨((hQ.1 c1).1 c2), ((hR.1 c1).1 c2)⟩, fun c3 => ⟨((hQ.1 c1).2 c3), ((hR.1 c1).2 c3)⟩⟩, fun c4 => wiX12_isCritical (hQ.2 c4) (hR.2 c4) (fun y5_0 y5_1 h5 i5 => ⟨fun c6 => ih.2.2.2 _ _ _ (h5.1 c6) (i5.1 c6), fun c7 => wiX12_dimOf (h5.2 c7) (i5.2 c7) (fun y8_0 y8_1 h8 i8 => ⟨fun c9 => ih.2.2.2 _ _ _ (h8.1 c9) (i8.1 c9), fun c10 => ⟨fun c11 => fun x12 e12 => ih.2.2.2 _ _ _ (((h8.2 c10).1 c11) x12 e12) (((i8.2 c10).1 c11) x12 e12), fun c13 => ⟨((h8.2 c10).2 c13), ((i8.2 c10).2 c13)⟩⟩⟩)⟩)⟩
    · intro t li lj hQ hR
      have hQ : wbX12_critical_3 (wpX12_critical k) k t li lj Q := hQ
      have hR : wbX12_critical_3 (wpX12_critical k) k t li lj R := hR
      show wbX12_critical_3 (wpX12_critical k) k t li lj (fun r t => Q r t ∧ R r t)
      unfold wbX12_critical_3 at hQ hR ⊢
      exact fun x1 e1 => ih.2.2.1 _ _ _ (hQ x1 e1) (hR x1 e1)
theorem wjX12_critical {k : Nat} {t : XT} {a1 : Int32} {a2 : Int32} {Q R : Int32 → XT → Prop} (hQ : wqX12_critical k t a1 a2 Q) (hR : wqX12_critical k t a1 a2 R) : wqX12_critical k t a1 a2 (fun r t => Q r t ∧ R r t) := (wkX12_criticalj Q R k).1 t _ _ hQ hR
theorem wiX12_critical {k : Nat} {t : XT} {a1 : Int32} {a2 : Int32} {Q R S : Int32 → XT → Prop} (hQ : wqX12_critical k t a1 a2 Q) (hR : wqX12_critical k t a1 a2 R) (f : ∀ r t, Q r t → R r t → S r t) : wqX12_critical k t a1 a2 S := wmX12_critical (Nat.le_refl k) (fun r t h => f r t h.1 h.2) (wjX12_critical hQ hR)
set_option maxHeartbeats 4000000 in
set_option maxRecDepth 100000 in
theorem wkX12_pathsj (Q R : Int64 → XT → Prop) : ∀ k : Nat, (∀ (t : XT) (li : Nat → Int32) (lj : Nat → Int64), wpX12_paths k 0 t li lj Q → wpX12_paths k 0 t li lj R → wpX12_paths k 0 t li lj (fun r t => Q r t ∧ R r t)) := by
  intro k
  induction k with
  | zero => exact fun _ _ _ hR _ => False.elim hR
  | succ k ih =>
    intro t li lj hQ hR
    have hQ : wbX12_paths_0 (wpX12_paths k) k t li lj Q := hQ
    have hR : wbX12_paths_0 (wpX12_paths k) k t li lj R := hR
    show wbX12_paths_0 (wpX12_paths k) k t li lj (fun r t => Q r t ∧ R r t)
    unfold wbX12_paths_0 at hQ hR ⊢
    exact wiX12_areEnds hQ hR (fun y1_0 y1_1 h1 i1 => ⟨fun c2 => ⟨(h1.1 c2), (i1.1 c2)⟩, fun c3 => wiX12_waysFrom (h1.2 c3) (i1.2 c3) (fun y4_0 y4_1 h4 i4 => ⟨h4, i4⟩)⟩)
theorem wjX12_paths {k : Nat} {t : XT} {a1 : Int32} {a2 : Int32} {Q R : Int64 → XT → Prop} (hQ : wqX12_paths k t a1 a2 Q) (hR : wqX12_paths k t a1 a2 R) : wqX12_paths k t a1 a2 (fun r t => Q r t ∧ R r t) := (wkX12_pathsj Q R k) t _ _ hQ hR
theorem wiX12_paths {k : Nat} {t : XT} {a1 : Int32} {a2 : Int32} {Q R S : Int64 → XT → Prop} (hQ : wqX12_paths k t a1 a2 Q) (hR : wqX12_paths k t a1 a2 R) (f : ∀ r t, Q r t → R r t → S r t) : wqX12_paths k t a1 a2 S := wmX12_paths (Nat.le_refl k) (fun r t h => f r t h.1 h.2) (wjX12_paths hQ hR)
set_option maxHeartbeats 4000000 in
set_option maxRecDepth 100000 in
theorem wkX12_pathj (Q R : Int32 → XT → Prop) : ∀ k : Nat, (∀ (t : XT) (li : Nat → Int32) (lj : Nat → Int64), wpX12_path k 0 t li lj Q → wpX12_path k 0 t li lj R → wpX12_path k 0 t li lj (fun r t => Q r t ∧ R r t)) ∧ (∀ (t : XT) (li : Nat → Int32) (lj : Nat → Int64), wpX12_path k 1 t li lj Q → wpX12_path k 1 t li lj R → wpX12_path k 1 t li lj (fun r t => Q r t ∧ R r t)) := by
  intro k
  induction k with
  | zero => exact ⟨fun _ _ _ hR _ => False.elim hR, fun _ _ _ hR _ => False.elim hR⟩
  | succ k ih =>
    refine ⟨?_, ?_⟩
    · intro t li lj hQ hR
      have hQ : wbX12_path_0 (wpX12_path k) k t li lj Q := hQ
      have hR : wbX12_path_0 (wpX12_path k) k t li lj R := hR
      show wbX12_path_0 (wpX12_path k) k t li lj (fun r t => Q r t ∧ R r t)
      unfold wbX12_path_0 at hQ hR ⊢
      exact wiX12_areEnds hQ hR (fun y1_0 y1_1 h1 i1 => ⟨fun c2 => ih.2 _ _ _ (h1.1 c2) (i1.1 c2), fun c3 => ⟨fun c4 => ih.2 _ _ _ ((h1.2 c3).1 c4) ((i1.2 c3).1 c4), fun c5 => ⟨fun c6 => fun x7 e7 => wiX12_laysPath ((((h1.2 c3).2 c5).1 c6) x7 e7) ((((i1.2 c3).2 c5).1 c6) x7 e7) (fun y8_0 y8_1 h8 i8 => ⟨fun c9 => ⟨fun c10 => ⟨fun c11 => ⟨(((h8.1 c9).1 c10).1 c11), (((i8.1 c9).1 c10).1 c11)⟩, fun c12 => ⟨(((h8.1 c9).1 c10).2 c12).1, fun x13 e13 => ⟨((((h8.1 c9).1 c10).2 c12).2 x13 e13), ((((i8.1 c9).1 c10).2 c12).2 x13 e13)⟩⟩⟩, fun c14 => ⟨((h8.1 c9).2 c14), ((i8.1 c9).2 c14)⟩⟩, fun c15 => ⟨(h8.2 c15), (i8.2 c15)⟩⟩), fun c16 => ih.2 _ _ _ (((h1.2 c3).2 c5).2 c16) (((i1.2 c3).2 c5).2 c16)⟩⟩⟩)
    · intro t li lj hQ hR
      have hQ : wbX12_path_1 (wpX12_path k) k t li lj Q := hQ
      have hR : wbX12_path_1 (wpX12_path k) k t li lj R := hR
      show wbX12_path_1 (wpX12_path k) k t li lj (fun r t => Q r t ∧ R r t)
      unfold wbX12_path_1 at hQ hR ⊢
      exact ⟨hQ, hR⟩
theorem wjX12_path {k : Nat} {t : XT} {a1 : Int32} {a2 : Int32} {a3 : Int32} {a4 : Int32} {Q R : Int32 → XT → Prop} (hQ : wqX12_path k t a1 a2 a3 a4 Q) (hR : wqX12_path k t a1 a2 a3 a4 R) : wqX12_path k t a1 a2 a3 a4 (fun r t => Q r t ∧ R r t) := (wkX12_pathj Q R k).1 t _ _ hQ hR
theorem wiX12_path {k : Nat} {t : XT} {a1 : Int32} {a2 : Int32} {a3 : Int32} {a4 : Int32} {Q R S : Int32 → XT → Prop} (hQ : wqX12_path k t a1 a2 a3 a4 Q) (hR : wqX12_path k t a1 a2 a3 a4 R) (f : ∀ r t, Q r t → R r t → S r t) : wqX12_path k t a1 a2 a3 a4 S := wmX12_path (Nat.le_refl k) (fun r t h => f r t h.1 h.2) (wjX12_path hQ hR)
set_option maxHeartbeats 4000000 in
set_option maxRecDepth 100000 in
theorem wkX12_incidenceOfj (Q R : Int64 → XT → Prop) : ∀ k : Nat, (∀ (t : XT) (li : Nat → Int32) (lj : Nat → Int64), wpX12_incidenceOf k 0 t li lj Q → wpX12_incidenceOf k 0 t li lj R → wpX12_incidenceOf k 0 t li lj (fun r t => Q r t ∧ R r t)) ∧ (∀ (t : XT) (li : Nat → Int32) (lj : Nat → Int64), wpX12_incidenceOf k 1 t li lj Q → wpX12_incidenceOf k 1 t li lj R → wpX12_incidenceOf k 1 t li lj (fun r t => Q r t ∧ R r t)) ∧ (∀ (t : XT) (li : Nat → Int32) (lj : Nat → Int64), wpX12_incidenceOf k 2 t li lj Q → wpX12_incidenceOf k 2 t li lj R → wpX12_incidenceOf k 2 t li lj (fun r t => Q r t ∧ R r t)) := by
  intro k
  induction k with
  | zero => exact ⟨fun _ _ _ hR _ => False.elim hR, fun _ _ _ hR _ => False.elim hR, fun _ _ _ hR _ => False.elim hR⟩
  | succ k ih =>
    refine ⟨?_, ?_, ?_⟩
    · intro t li lj hQ hR
      have hQ : wbX12_incidenceOf_0 (wpX12_incidenceOf k) k t li lj Q := hQ
      have hR : wbX12_incidenceOf_0 (wpX12_incidenceOf k) k t li lj R := hR
      show wbX12_incidenceOf_0 (wpX12_incidenceOf k) k t li lj (fun r t => Q r t ∧ R r t)
      unfold wbX12_incidenceOf_0 at hQ hR ⊢
      exact wiX12_laysWays hQ hR (fun y1_0 h1 i1 => ih.2.1 _ _ _ h1 i1)
    · intro t li lj hQ hR
      have hQ : wbX12_incidenceOf_1 (wpX12_incidenceOf k) k t li lj Q := hQ
      have hR : wbX12_incidenceOf_1 (wpX12_incidenceOf k) k t li lj R := hR
      show wbX12_incidenceOf_1 (wpX12_incidenceOf k) k t li lj (fun r t => Q r t ∧ R r t)
      unfold wbX12_incidenceOf_1 at hQ hR ⊢
      exact ⟨fun c1 => ⟨(hQ.1 c1), (hR.1 c1)⟩, fun c2 => wiX12_isFaceThere (hQ.2 c2) (hR.2 c2) (fun y3_0 y3_1 h3 i3 => ⟨fun c4 => ih.2.2 _ _ _ (h3.1 c4) (i3.1 c4), fun c5 => wiX12_signOf (h3.2 c5) (i3.2 c5) (fun y6_0 y6_1 h6 i6 => fun x7 e7 => ⟨(h6 x7 e7).1, fun x8 e8 => fun x9 e9 => ih.2.2 _ _ _ (((h6 x7 e7).2 x8 e8) x9 e9) (((i6 x7 e7).2 x8 e8) x9 e9)⟩)⟩)⟩
    · intro t li lj hQ hR
      have hQ : wbX12_incidenceOf_2 (wpX12_incidenceOf k) k t li lj Q := hQ
      have hR : wbX12_incidenceOf_2 (wpX12_incidenceOf k) k t li lj R := hR
      show wbX12_incidenceOf_2 (wpX12_incidenceOf k) k t li lj (fun r t => Q r t ∧ R r t)
      unfold wbX12_incidenceOf_2 at hQ hR ⊢
      exact fun x1 e1 => fun x2 e2 => ih.2.1 _ _ _ ((hQ x1 e1) x2 e2) ((hR x1 e1) x2 e2)
theorem wjX12_incidenceOf {k : Nat} {t : XT} {a1 : Int32} {a2 : Int32} {Q R : Int64 → XT → Prop} (hQ : wqX12_incidenceOf k t a1 a2 Q) (hR : wqX12_incidenceOf k t a1 a2 R) : wqX12_incidenceOf k t a1 a2 (fun r t => Q r t ∧ R r t) := (wkX12_incidenceOfj Q R k).1 t _ _ hQ hR
theorem wiX12_incidenceOf {k : Nat} {t : XT} {a1 : Int32} {a2 : Int32} {Q R S : Int64 → XT → Prop} (hQ : wqX12_incidenceOf k t a1 a2 Q) (hR : wqX12_incidenceOf k t a1 a2 R) (f : ∀ r t, Q r t → R r t → S r t) : wqX12_incidenceOf k t a1 a2 S := wmX12_incidenceOf (Nat.le_refl k) (fun r t h => f r t h.1 h.2) (wjX12_incidenceOf hQ hR)
set_option maxHeartbeats 4000000 in
set_option maxRecDepth 100000 in
theorem wkX12_incidencej (Q R : Int64 → XT → Prop) : ∀ k : Nat, (∀ (t : XT) (li : Nat → Int32) (lj : Nat → Int64), wpX12_incidence k 0 t li lj Q → wpX12_incidence k 0 t li lj R → wpX12_incidence k 0 t li lj (fun r t => Q r t ∧ R r t)) := by
  intro k
  induction k with
  | zero => exact fun _ _ _ hR _ => False.elim hR
  | succ k ih =>
    intro t li lj hQ hR
    have hQ : wbX12_incidence_0 (wpX12_incidence k) k t li lj Q := hQ
    have hR : wbX12_incidence_0 (wpX12_incidence k) k t li lj R := hR
    show wbX12_incidence_0 (wpX12_incidence k) k t li lj (fun r t => Q r t ∧ R r t)
    unfold wbX12_incidence_0 at hQ hR ⊢
    exact wiX12_areEnds hQ hR (fun y1_0 y1_1 h1 i1 => ⟨fun c2 => ⟨(h1.1 c2), (i1.1 c2)⟩, fun c3 => wiX12_incidenceOf (h1.2 c3) (i1.2 c3) (fun y4_0 y4_1 h4 i4 => ⟨h4, i4⟩)⟩)
theorem wjX12_incidence {k : Nat} {t : XT} {a1 : Int32} {a2 : Int32} {Q R : Int64 → XT → Prop} (hQ : wqX12_incidence k t a1 a2 Q) (hR : wqX12_incidence k t a1 a2 R) : wqX12_incidence k t a1 a2 (fun r t => Q r t ∧ R r t) := (wkX12_incidencej Q R k) t _ _ hQ hR
theorem wiX12_incidence {k : Nat} {t : XT} {a1 : Int32} {a2 : Int32} {Q R S : Int64 → XT → Prop} (hQ : wqX12_incidence k t a1 a2 Q) (hR : wqX12_incidence k t a1 a2 R) (f : ∀ r t, Q r t → R r t → S r t) : wqX12_incidence k t a1 a2 S := wmX12_incidence (Nat.le_refl k) (fun r t h => f r t h.1 h.2) (wjX12_incidence hQ hR)
set_option maxHeartbeats 4000000 in
set_option maxRecDepth 100000 in
theorem wkX12_laysLinkj (Q R : Int32 → XT → Prop) : ∀ k : Nat, (∀ (t : XT) (li : Nat → Int32) (lj : Nat → Int64), wpX12_laysLink k 0 t li lj Q → wpX12_laysLink k 0 t li lj R → wpX12_laysLink k 0 t li lj (fun r t => Q r t ∧ R r t)) ∧ (∀ (t : XT) (li : Nat → Int32) (lj : Nat → Int64), wpX12_laysLink k 1 t li lj Q → wpX12_laysLink k 1 t li lj R → wpX12_laysLink k 1 t li lj (fun r t => Q r t ∧ R r t)) ∧ (∀ (t : XT) (li : Nat → Int32) (lj : Nat → Int64), wpX12_laysLink k 2 t li lj Q → wpX12_laysLink k 2 t li lj R → wpX12_laysLink k 2 t li lj (fun r t => Q r t ∧ R r t)) := by
  intro k
  induction k with
  | zero => exact ⟨fun _ _ _ hR _ => False.elim hR, fun _ _ _ hR _ => False.elim hR, fun _ _ _ hR _ => False.elim hR⟩
  | succ k ih =>
    refine ⟨?_, ?_, ?_⟩
    · intro t li lj hQ hR
      have hQ : wbX12_laysLink_0 (wpX12_laysLink k) k t li lj Q := hQ
      have hR : wbX12_laysLink_0 (wpX12_laysLink k) k t li lj R := hR
      show wbX12_laysLink_0 (wpX12_laysLink k) k t li lj (fun r t => Q r t ∧ R r t)
      unfold wbX12_laysLink_0 at hQ hR ⊢
      exact ⟨hQ.1, fun x1 e1 => ih.2.1 _ _ _ (hQ.2 x1 e1) (hR.2 x1 e1)⟩
    · intro t li lj hQ hR
      have hQ : wbX12_laysLink_1 (wpX12_laysLink k) k t li lj Q := hQ
      have hR : wbX12_laysLink_1 (wpX12_laysLink k) k t li lj R := hR
      show wbX12_laysLink_1 (wpX12_laysLink k) k t li lj (fun r t => Q r t ∧ R r t)
      unfold wbX12_laysLink_1 at hQ hR ⊢
      exact ⟨fun c1 => wiX12_signOf (hQ.1 c1) (hR.1 c1) (fun y2_0 y2_1 h2 i2 => fun x3 e3 => fun x4 e4 => fun x5 e5 => ⟨(((h2 x3 e3) x4 e4) x5 e5).1, fun x6 e6 => ⟨((((h2 x3 e3) x4 e4) x5 e5).2 x6 e6), ((((i2 x3 e3) x4 e4) x5 e5).2 x6 e6)⟩⟩), fun c7 => ⟨fun c8 => ih.2.2 _ _ _ ((hQ.2 c7).1 c8) ((hR.2 c7).1 c8), fun c9 => wiX12_isFaceThere ((hQ.2 c7).2 c9) ((hR.2 c7).2 c9) (fun y10_0 y10_1 h10 i10 => ⟨fun c11 => ⟨(h10.1 c11).1, fun x12 e12 => fun x13 e13 => ⟨fun c14 => wiX12_signOf ((((h10.1 c11).2 x12 e12) x13 e13).1 c14) ((((i10.1 c11).2 x12 e12) x13 e13).1 c14) (fun y15_0 y15_1 h15 i15 => fun x16 e16 => ⟨(h15 x16 e16).1, fun x17 e17 => fun x18 e18 => fun x19 e19 => ih.2.2 _ _ _ ((((h15 x16 e16).2 x17 e17) x18 e18) x19 e19) ((((i15 x16 e16).2 x17 e17) x18 e18) x19 e19)⟩), fun c20 => ⟨((((h10.1 c11).2 x12 e12) x13 e13).2 c20), ((((i10.1 c11).2 x12 e12) x13 e13).2 c20)⟩⟩⟩, fun c21 => ih.2.2 _ _ _ (h10.2 c21) (i10.2 c21)⟩)⟩⟩
    · intro t li lj hQ hR
      have hQ : wbX12_laysLink_2 (wpX12_laysLink k) k t li lj Q := hQ
      have hR : wbX12_laysLink_2 (wpX12_laysLink k) k t li lj R := hR
      show wbX12_laysLink_2 (wpX12_laysLink k) k t li lj (fun r t => Q r t ∧ R r t)
      unfold wbX12_laysLink_2 at hQ hR ⊢
      exact fun x1 e1 => ih.2.1 _ _ _ (hQ x1 e1) (hR x1 e1)
theorem wjX12_laysLink {k : Nat} {t : XT} {a1 : Int32} {Q R : Int32 → XT → Prop} (hQ : wqX12_laysLink k t a1 Q) (hR : wqX12_laysLink k t a1 R) : wqX12_laysLink k t a1 (fun r t => Q r t ∧ R r t) := (wkX12_laysLinkj Q R k).1 t _ _ hQ hR
theorem wiX12_laysLink {k : Nat} {t : XT} {a1 : Int32} {Q R S : Int32 → XT → Prop} (hQ : wqX12_laysLink k t a1 Q) (hR : wqX12_laysLink k t a1 R) (f : ∀ r t, Q r t → R r t → S r t) : wqX12_laysLink k t a1 S := wmX12_laysLink (Nat.le_refl k) (fun r t h => f r t h.1 h.2) (wjX12_laysLink hQ hR)
set_option maxHeartbeats 4000000 in
set_option maxRecDepth 100000 in
theorem wkX12_chainj (Q R : Int64 → XT → Prop) : ∀ k : Nat, (∀ (t : XT) (li : Nat → Int32) (lj : Nat → Int64), wpX12_chain k 0 t li lj Q → wpX12_chain k 0 t li lj R → wpX12_chain k 0 t li lj (fun r t => Q r t ∧ R r t)) ∧ (∀ (t : XT) (li : Nat → Int32) (lj : Nat → Int64), wpX12_chain k 1 t li lj Q → wpX12_chain k 1 t li lj R → wpX12_chain k 1 t li lj (fun r t => Q r t ∧ R r t)) ∧ (∀ (t : XT) (li : Nat → Int32) (lj : Nat → Int64), wpX12_chain k 2 t li lj Q → wpX12_chain k 2 t li lj R → wpX12_chain k 2 t li lj (fun r t => Q r t ∧ R r t)) ∧ (∀ (t : XT) (li : Nat → Int32) (lj : Nat → Int64), wpX12_chain k 3 t li lj Q → wpX12_chain k 3 t li lj R → wpX12_chain k 3 t li lj (fun r t => Q r t ∧ R r t)) ∧ (∀ (t : XT) (li : Nat → Int32) (lj : Nat → Int64), wpX12_chain k 4 t li lj Q → wpX12_chain k 4 t li lj R → wpX12_chain k 4 t li lj (fun r t => Q r t ∧ R r t)) ∧ (∀ (t : XT) (li : Nat → Int32) (lj : Nat → Int64), wpX12_chain k 5 t li lj Q → wpX12_chain k 5 t li lj R → wpX12_chain k 5 t li lj (fun r t => Q r t ∧ R r t)) ∧ (∀ (t : XT) (li : Nat → Int32) (lj : Nat → Int64), wpX12_chain k 6 t li lj Q → wpX12_chain k 6 t li lj R → wpX12_chain k 6 t li lj (fun r t => Q r t ∧ R r t)) ∧ (∀ (t : XT) (li : Nat → Int32) (lj : Nat → Int64), wpX12_chain k 7 t li lj Q → wpX12_chain k 7 t li lj R → wpX12_chain k 7 t li lj (fun r t => Q r t ∧ R r t)) ∧ (∀ (t : XT) (li : Nat → Int32) (lj : Nat → Int64), wpX12_chain k 8 t li lj Q → wpX12_chain k 8 t li lj R → wpX12_chain k 8 t li lj (fun r t => Q r t ∧ R r t)) ∧ (∀ (t : XT) (li : Nat → Int32) (lj : Nat → Int64), wpX12_chain k 9 t li lj Q → wpX12_chain k 9 t li lj R → wpX12_chain k 9 t li lj (fun r t => Q r t ∧ R r t)) ∧ (∀ (t : XT) (li : Nat → Int32) (lj : Nat → Int64), wpX12_chain k 10 t li lj Q → wpX12_chain k 10 t li lj R → wpX12_chain k 10 t li lj (fun r t => Q r t ∧ R r t)) ∧ (∀ (t : XT) (li : Nat → Int32) (lj : Nat → Int64), wpX12_chain k 11 t li lj Q → wpX12_chain k 11 t li lj R → wpX12_chain k 11 t li lj (fun r t => Q r t ∧ R r t)) := by
  intro k
  induction k with
  | zero => exact ⟨fun _ _ _ hR _ => False.elim hR, fun _ _ _ hR _ => False.elim hR, fun _ _ _ hR _ => False.elim hR, fun _ _ _ hR _ => False.elim hR, fun _ _ _ hR _ => False.elim hR, fun _ _ _ hR _ => False.elim hR, fun _ _ _ hR _ => False.elim hR, fun _ _ _ hR _ => False.elim hR, fun _ _ _ hR _ => False.elim hR, fun _ _ _ hR _ => False.elim hR, fun _ _ _ hR _ => False.elim hR, fun _ _ _ hR _ => False.elim hR⟩
  | succ k ih =>
    refine ⟨?_, ?_, ?_, ?_, ?_, ?_, ?_, ?_, ?_, ?_, ?_, ?_⟩
    · intro t li lj hQ hR
      have hQ : wbX12_chain_0 (wpX12_chain k) k t li lj Q := hQ
      have hR : wbX12_chain_0 (wpX12_chain k) k t li lj R := hR
      show wbX12_chain_0 (wpX12_chain k) k t li lj (fun r t => Q r t ∧ R r t)
      unfold wbX12_chain_0 at hQ hR ⊢
      exact wiX12_isCritical hQ hR (fun y1_0 y1_1 h1 i1 => ⟨fun c2 => ih.2.1 _ _ _ (h1.1 c2) (i1.1 c2), fun c3 => wiX12_isThere (h1.2 c3) (i1.2 c3) (fun y4_0 y4_1 h4 i4 => ⟨fun c5 => ih.2.1 _ _ _ (h4.1 c5) (i4.1 c5), fun c6 => wiX12_dimOf (h4.2 c6) (i4.2 c6) (fun y7_0 y7_1 h7 i7 => wiX12_dimOf h7 i7 (fun y8_0 y8_1 h8 i8 => ⟨fun c9 => ih.2.2.1 _ _ _ (h8.1 c9) (i8.1 c9), fun c10 => ih.2.1 _ _ _ (h8.2 c10) (i8.2 c10)⟩))⟩)⟩)
    · intro t li lj hQ hR
      have hQ : wbX12_chain_1 (wpX12_chain k) k t li lj Q := hQ
      have hR : wbX12_chain_1 (wpX12_chain k) k t li lj R := hR
      show wbX12_chain_1 (wpX12_chain k) k t li lj (fun r t => Q r t ∧ R r t)
      unfold wbX12_chain_1 at hQ hR ⊢
      exact ⟨hQ, hR⟩
    · intro t li lj hQ hR
      have hQ : wbX12_chain_2 (wpX12_chain k) k t li lj Q := hQ
      have hR : wbX12_chain_2 (wpX12_chain k) k t li lj R := hR
      show wbX12_chain_2 (wpX12_chain k) k t li lj (fun r t => Q r t ∧ R r t)
      unfold wbX12_chain_2 at hQ hR ⊢
      exact ⟨fun c1 => ih.2.2.2.2.2.2.2.1 _ _ _ (hQ.1 c1) (hR.1 c1), fun c2 => wiX12_isThere (hQ.2 c2) (hR.2 c2) (fun y3_0 y3_1 h3 i3 => ⟨fun c4 => ih.2.2.2.1 _ _ _ (h3.1 c4) (i3.1 c4), fun c5 => ⟨(h3.2 c5).1, fun x6 e6 => ⟨fun c7 => ih.2.2.2.1 _ _ _ (((h3.2 c5).2 x6 e6).1 c7) (((i3.2 c5).2 x6 e6).1 c7), fun c8 => wiX12_isLower (((h3.2 c5).2 x6 e6).2 c8) (((i3.2 c5).2 x6 e6).2 c8) (fun y9_0 y9_1 h9 i9 => ⟨fun c10 => ih.2.2.2.1 _ _ _ (h9.1 c10) (i9.1 c10), fun c11 => wiX12_dimOf (h9.2 c11) (i9.2 c11) (fun y12_0 y12_1 h12 i12 => wiX12_dimOf h12 i12 (fun y13_0 y13_1 h13 i13 => ⟨fun c14 => ih.2.2.2.1 _ _ _ (h13.1 c14) (i13.1 c14), fun c15 => ih.2.2.2.2.1 _ _ _ (h13.2 c15) (i13.2 c15)⟩))⟩)⟩⟩⟩)⟩
    · intro t li lj hQ hR
      have hQ : wbX12_chain_3 (wpX12_chain k) k t li lj Q := hQ
      have hR : wbX12_chain_3 (wpX12_chain k) k t li lj R := hR
      show wbX12_chain_3 (wpX12_chain k) k t li lj (fun r t => Q r t ∧ R r t)
      unfold wbX12_chain_3 at hQ hR ⊢
      exact ih.2.2.2.2.1 _ _ _ hQ hR
    · intro t li lj hQ hR
      have hQ : wbX12_chain_4 (wpX12_chain k) k t li lj Q := hQ
      have hR : wbX12_chain_4 (wpX12_chain k) k t li lj R := hR
      show wbX12_chain_4 (wpX12_chain k) k t li lj (fun r t => Q r t ∧ R r t)
      unfold wbX12_chain_4 at hQ hR ⊢
      exact ⟨fun c1 => ⟨fun c2 => ih.2.2.2.2.2.1 _ _ _ ((hQ.1 c1).1 c2) ((hR.1 c1).1 c2), fun c3 => ih.2.2.2.2.2.1 _ _ _ ((hQ.1 c1).2 c3) ((hR.1 c1).2 c3)⟩, fun c4 => ih.2.2.2.2.2.2.1 _ _ _ (hQ.2 c4) (hR.2 c4)⟩
    · intro t li lj hQ hR
      have hQ : wbX12_chain_5 (wpX12_chain k) k t li lj Q := hQ
      have hR : wbX12_chain_5 (wpX12_chain k) k t li lj R := hR
      show wbX12_chain_5 (wpX12_chain k) k t li lj (fun r t => Q r t ∧ R r t)
      unfold wbX12_chain_5 at hQ hR ⊢
      exact wiX12_truth hQ hR (fun y1_0 h1 i1 => fun x2 e2 => ih.2.2.2.2.2.2.1 _ _ _ (h1 x2 e2) (i1 x2 e2))
    · intro t li lj hQ hR
      have hQ : wbX12_chain_6 (wpX12_chain k) k t li lj Q := hQ
      have hR : wbX12_chain_6 (wpX12_chain k) k t li lj R := hR
      show wbX12_chain_6 (wpX12_chain k) k t li lj (fun r t => Q r t ∧ R r t)
      unfold wbX12_chain_6 at hQ hR ⊢
      exact ⟨hQ.1, fun x1 e1 => fun x2 e2 => ih.2.2.1 _ _ _ ((hQ.2 x1 e1) x2 e2) ((hR.2 x1 e1) x2 e2)⟩
    · intro t li lj hQ hR
      have hQ : wbX12_chain_7 (wpX12_chain k) k t li lj Q := hQ
      have hR : wbX12_chain_7 (wpX12_chain k) k t li lj R := hR
      show wbX12_chain_7 (wpX12_chain k) k t li lj (fun r t => Q r t ∧ R r t)
      unfold wbX12_chain_7 at hQ hR ⊢
      exact ⟨fun c1 => ⟨(hQ.1 c1).1, fun x2 e2 => ⟨((hQ.1 c1).2 x2 e2), ((hR.1 c1).2 x2 e2)⟩⟩, fun c3 => ih.2.2.2.2.2.2.2.2.1 _ _ _ (hQ.2 c3) (hR.2 c3)⟩
    · intro t li lj hQ hR
      have hQ : wbX12_chain_8 (wpX12_chain k) k t li lj Q := hQ
      have hR : wbX12_chain_8 (wpX12_chain k) k t li lj R := hR
      show wbX12_chain_8 (wpX12_chain k) k t li lj (fun r t => Q r t ∧ R r t)
      unfold wbX12_chain_8 at hQ hR ⊢
      exact ⟨fun c1 => ih.2.2.2.2.2.2.2.1 _ _ _ (hQ.1 c1) (hR.1 c1), fun c2 => ⟨(hQ.2 c2).1, fun x3 e3 => fun x4 e4 => ⟨fun c5 => ih.2.2.2.2.2.2.2.2.2.2.2 _ _ _ ((((hQ.2 c2).2 x3 e3) x4 e4).1 c5) ((((hR.2 c2).2 x3 e3) x4 e4).1 c5), fun c6 => wiX12_laysLink ((((hQ.2 c2).2 x3 e3) x4 e4).2 c6) ((((hR.2 c2).2 x3 e3) x4 e4).2 c6) (fun y7_0 y7_1 h7 i7 => ⟨fun c8 => ih.2.2.2.2.2.2.2.2.2.1 _ _ _ (h7.1 c8) (i7.1 c8), fun c9 => ⟨fun c10 => ih.2.2.2.2.2.2.2.2.2.2.1 _ _ _ ((h7.2 c9).1 c10) ((i7.2 c9).1 c10), fun c11 => ih.2.2.2.2.2.2.2.2.2.1 _ _ _ ((h7.2 c9).2 c11) ((i7.2 c9).2 c11)⟩⟩)⟩⟩⟩
    · intro t li lj hQ hR
      have hQ : wbX12_chain_9 (wpX12_chain k) k t li lj Q := hQ
      have hR : wbX12_chain_9 (wpX12_chain k) k t li lj R := hR
      show wbX12_chain_9 (wpX12_chain k) k t li lj (fun r t => Q r t ∧ R r t)
      unfold wbX12_chain_9 at hQ hR ⊢
      exact ih.2.2.2.2.2.2.2.2.2.2.1 _ _ _ hQ hR
    · intro t li lj hQ hR
      have hQ : wbX12_chain_10 (wpX12_chain k) k t li lj Q := hQ
      have hR : wbX12_chain_10 (wpX12_chain k) k t li lj R := hR
      show wbX12_chain_10 (wpX12_chain k) k t li lj (fun r t => Q r t ∧ R r t)
      unfold wbX12_chain_10 at hQ hR ⊢
      exact ih.2.2.2.2.2.2.2.2.2.2.2 _ _ _ hQ hR
    · intro t li lj hQ hR
      have hQ : wbX12_chain_11 (wpX12_chain k) k t li lj Q := hQ
      have hR : wbX12_chain_11 (wpX12_chain k) k t li lj R := hR
      show wbX12_chain_11 (wpX12_chain k) k t li lj (fun r t => Q r t ∧ R r t)
      unfold wbX12_chain_11 at hQ hR ⊢
      exact fun x1 e1 => ih.2.2.2.2.2.2.2.2.1 _ _ _ (hQ x1 e1) (hR x1 e1)
theorem wjX12_chain {k : Nat} {t : XT} {a1 : Int32} {a2 : Int32} {Q R : Int64 → XT → Prop} (hQ : wqX12_chain k t a1 a2 Q) (hR : wqX12_chain k t a1 a2 R) : wqX12_chain k t a1 a2 (fun r t => Q r t ∧ R r t) := (wkX12_chainj Q R k).1 t _ _ hQ hR
theorem wiX12_chain {k : Nat} {t : XT} {a1 : Int32} {a2 : Int32} {Q R S : Int64 → XT → Prop} (hQ : wqX12_chain k t a1 a2 Q) (hR : wqX12_chain k t a1 a2 R) (f : ∀ r t, Q r t → R r t → S r t) : wqX12_chain k t a1 a2 S := wmX12_chain (Nat.le_refl k) (fun r t h => f r t h.1 h.2) (wjX12_chain hQ hR)
set_option maxHeartbeats 4000000 in
set_option maxRecDepth 100000 in
theorem wkX12_rootj (Q R : Int32 → XT → Prop) : ∀ k : Nat, (∀ (t : XT) (li : Nat → Int32) (lj : Nat → Int64), wpX12_root k 0 t li lj Q → wpX12_root k 0 t li lj R → wpX12_root k 0 t li lj (fun r t => Q r t ∧ R r t)) ∧ (∀ (t : XT) (li : Nat → Int32) (lj : Nat → Int64), wpX12_root k 1 t li lj Q → wpX12_root k 1 t li lj R → wpX12_root k 1 t li lj (fun r t => Q r t ∧ R r t)) ∧ (∀ (t : XT) (li : Nat → Int32) (lj : Nat → Int64), wpX12_root k 2 t li lj Q → wpX12_root k 2 t li lj R → wpX12_root k 2 t li lj (fun r t => Q r t ∧ R r t)) := by
  intro k
  induction k with
  | zero => exact ⟨fun _ _ _ hR _ => False.elim hR, fun _ _ _ hR _ => False.elim hR, fun _ _ _ hR _ => False.elim hR⟩
  | succ k ih =>
    refine ⟨?_, ?_, ?_⟩
    · intro t li lj hQ hR
      have hQ : wbX12_root_0 (wpX12_root k) k t li lj Q := hQ
      have hR : wbX12_root_0 (wpX12_root k) k t li lj R := hR
      show wbX12_root_0 (wpX12_root k) k t li lj (fun r t => Q r t ∧ R r t)
      unfold wbX12_root_0 at hQ hR ⊢
      exact wiX12_isThere hQ hR (fun y1_0 y1_1 h1 i1 => ⟨fun c2 => ih.2.1 _ _ _ (h1.1 c2) (i1.1 c2), fun c3 => wiX12_dimOf (h1.2 c3) (i1.2 c3) (fun y4_0 y4_1 h4 i4 => ⟨fun c5 => ih.2.1 _ _ _ (h4.1 c5) (i4.1 c5), fun c6 => wiX12_in (h4.2 c6) (i4.2 c6) (fun y7_0 h7 i7 => ⟨fun c8 => ih.2.2 _ _ _ (h7.1 c8) (i7.1 c8), fun c9 => ih.2.1 _ _ _ (h7.2 c9) (i7.2 c9)⟩)⟩)⟩)
    · intro t li lj hQ hR
      have hQ : wbX12_root_1 (wpX12_root k) k t li lj Q := hQ
      have hR : wbX12_root_1 (wpX12_root k) k t li lj R := hR
      show wbX12_root_1 (wpX12_root k) k t li lj (fun r t => Q r t ∧ R r t)
      unfold wbX12_root_1 at hQ hR ⊢
      exact ⟨hQ, hR⟩
    · intro t li lj hQ hR
      have hQ : wbX12_root_2 (wpX12_root k) k t li lj Q := hQ
      have hR : wbX12_root_2 (wpX12_root k) k t li lj R := hR
      show wbX12_root_2 (wpX12_root k) k t li lj (fun r t => Q r t ∧ R r t)
      unfold wbX12_root_2 at hQ hR ⊢
      exact ⟨hQ.1, fun x1 e1 => ⟨fun c2 => ⟨fun c3 => ⟨(((hQ.2 x1 e1).1 c2).1 c3), (((hR.2 x1 e1).1 c2).1 c3)⟩, fun c4 => ⟨(((hQ.2 x1 e1).1 c2).2 c4), (((hR.2 x1 e1).1 c2).2 c4)⟩⟩, fun c5 => ⟨((hQ.2 x1 e1).2 c5).1, fun x6 e6 => ⟨(((hQ.2 x1 e1).2 c5).2 x6 e6).1, fun x7 e7 => ⟨((((hQ.2 x1 e1).2 c5).2 x6 e6).2 x7 e7).1, fun x8 e8 => fun x9 e9 => fun x10 e10 => ⟨(((((((hQ.2 x1 e1).2 c5).2 x6 e6).2 x7 e7).2 x8 e8) x9 e9) x10 e10).1, fun x11 e11 => fun x12 e12 => ih.2.2 _ _ _ (((((((((hQ.2 x1 e1).2 c5).2 x6 e6).2 x7 e7).2 x8 e8) x9 e9) x10 e10).2 x11 e11) x12 e12) (((((((((hR.2 x1 e1).2 c5).2 x6 e6).2 x7 e7).2 x8 e8) x9 e9) x10 e10).2 x11 e11) x12 e12)⟩⟩⟩⟩⟩⟩
theorem wjX12_root {k : Nat} {t : XT} {a1 : Int32} {a2 : Int32} {Q R : Int32 → XT → Prop} (hQ : wqX12_root k t a1 a2 Q) (hR : wqX12_root k t a1 a2 R) : wqX12_root k t a1 a2 (fun r t => Q r t ∧ R r t) := (wkX12_rootj Q R k).1 t _ _ hQ hR
theorem wiX12_root {k : Nat} {t : XT} {a1 : Int32} {a2 : Int32} {Q R S : Int32 → XT → Prop} (hQ : wqX12_root k t a1 a2 Q) (hR : wqX12_root k t a1 a2 R) (f : ∀ r t, Q r t → R r t → S r t) : wqX12_root k t a1 a2 S := wmX12_root (Nat.le_refl k) (fun r t h => f r t h.1 h.2) (wjX12_root hQ hR)
set_option maxHeartbeats 4000000 in
set_option maxRecDepth 100000 in
theorem wkX12_laysReachj (Q R : Int32 → XT → Prop) : ∀ k : Nat, (∀ (t : XT) (li : Nat → Int32) (lj : Nat → Int64), wpX12_laysReach k 0 t li lj Q → wpX12_laysReach k 0 t li lj R → wpX12_laysReach k 0 t li lj (fun r t => Q r t ∧ R r t)) ∧ (∀ (t : XT) (li : Nat → Int32) (lj : Nat → Int64), wpX12_laysReach k 1 t li lj Q → wpX12_laysReach k 1 t li lj R → wpX12_laysReach k 1 t li lj (fun r t => Q r t ∧ R r t)) ∧ (∀ (t : XT) (li : Nat → Int32) (lj : Nat → Int64), wpX12_laysReach k 2 t li lj Q → wpX12_laysReach k 2 t li lj R → wpX12_laysReach k 2 t li lj (fun r t => Q r t ∧ R r t)) := by
  intro k
  induction k with
  | zero => exact ⟨fun _ _ _ hR _ => False.elim hR, fun _ _ _ hR _ => False.elim hR, fun _ _ _ hR _ => False.elim hR⟩
  | succ k ih =>
    refine ⟨?_, ?_, ?_⟩
    · intro t li lj hQ hR
      have hQ : wbX12_laysReach_0 (wpX12_laysReach k) k t li lj Q := hQ
      have hR : wbX12_laysReach_0 (wpX12_laysReach k) k t li lj R := hR
      show wbX12_laysReach_0 (wpX12_laysReach k) k t li lj (fun r t => Q r t ∧ R r t)
      unfold wbX12_laysReach_0 at hQ hR ⊢
      exact wiX12_isFaceThere hQ hR (fun y1_0 y1_1 h1 i1 => wiX12_truth h1 i1 (fun y2_0 h2 i2 => fun x3 e3 => ih.2.1 _ _ _ (h2 x3 e3) (i2 x3 e3)))
    · intro t li lj hQ hR
      have hQ : wbX12_laysReach_1 (wpX12_laysReach k) k t li lj Q := hQ
      have hR : wbX12_laysReach_1 (wpX12_laysReach k) k t li lj R := hR
      show wbX12_laysReach_1 (wpX12_laysReach k) k t li lj (fun r t => Q r t ∧ R r t)
      unfold wbX12_laysReach_1 at hQ hR ⊢
      exact ⟨fun c1 => ⟨(hQ.1 c1).1, fun x2 e2 => ⟨((hQ.1 c1).2 x2 e2), ((hR.1 c1).2 x2 e2)⟩⟩, fun c3 => ⟨fun c4 => ih.2.2 _ _ _ ((hQ.2 c3).1 c4) ((hR.2 c3).1 c4), fun c5 => wiX12_isThere ((hQ.2 c3).2 c5) ((hR.2 c3).2 c5) (fun y6_0 y6_1 h6 i6 => ⟨fun c7 => ih.2.2 _ _ _ (h6.1 c7) (i6.1 c7), fun c8 => wiX12_isLower (h6.2 c8) (i6.2 c8) (fun y9_0 y9_1 h9 i9 => ⟨fun c10 => ih.2.2 _ _ _ (h9.1 c10) (i9.1 c10), fun c11 => wiX12_dimOf (h9.2 c11) (i9.2 c11) (fun y12_0 y12_1 h12 i12 => wiX12_dimOf h12 i12 (fun y13_0 y13_1 h13 i13 => ⟨fun c14 => ih.2.2 _ _ _ (h13.1 c14) (i13.1 c14), fun c15 => ⟨(h13.2 c15).1, fun x16 e16 => wiX12_isFaceThere ((h13.2 c15).2 x16 e16) ((i13.2 c15).2 x16 e16) (fun y17_0 y17_1 h17 i17 => ⟨fun c18 => ⟨(h17.1 c18).1, fun x19 e19 => fun x20 e20 => ⟨fun c21 => ⟨((((h17.1 c18).2 x19 e19) x20 e20).1 c21).1, fun x22 e22 => fun x23 e23 => ih.2.2 _ _ _ ((((((h17.1 c18).2 x19 e19) x20 e20).1 c21).2 x22 e22) x23 e23) ((((((i17.1 c18).2 x19 e19) x20 e20).1 c21).2 x22 e22) x23 e23)⟩, fun c24 => ⟨((((h17.1 c18).2 x19 e19) x20 e20).2 c24), ((((i17.1 c18).2 x19 e19) x20 e20).2 c24)⟩⟩⟩, fun c25 => ih.2.2 _ _ _ (h17.2 c25) (i17.2 c25)⟩)⟩⟩))⟩)⟩)⟩⟩
    · intro t li lj hQ hR
      have hQ : wbX12_laysReach_2 (wpX12_laysReach k) k t li lj Q := hQ
      have hR : wbX12_laysReach_2 (wpX12_laysReach k) k t li lj R := hR
      show wbX12_laysReach_2 (wpX12_laysReach k) k t li lj (fun r t => Q r t ∧ R r t)
      unfold wbX12_laysReach_2 at hQ hR ⊢
      exact fun x1 e1 => ih.2.1 _ _ _ (hQ x1 e1) (hR x1 e1)
theorem wjX12_laysReach {k : Nat} {t : XT} {a1 : Int32} {a2 : Int32} {Q R : Int32 → XT → Prop} (hQ : wqX12_laysReach k t a1 a2 Q) (hR : wqX12_laysReach k t a1 a2 R) : wqX12_laysReach k t a1 a2 (fun r t => Q r t ∧ R r t) := (wkX12_laysReachj Q R k).1 t _ _ hQ hR
theorem wiX12_laysReach {k : Nat} {t : XT} {a1 : Int32} {a2 : Int32} {Q R S : Int32 → XT → Prop} (hQ : wqX12_laysReach k t a1 a2 Q) (hR : wqX12_laysReach k t a1 a2 R) (f : ∀ r t, Q r t → R r t → S r t) : wqX12_laysReach k t a1 a2 S := wmX12_laysReach (Nat.le_refl k) (fun r t h => f r t h.1 h.2) (wjX12_laysReach hQ hR)
set_option maxHeartbeats 4000000 in
set_option maxRecDepth 100000 in
theorem wkX12_throughj (Q R : Int64 → XT → Prop) : ∀ k : Nat, (∀ (t : XT) (li : Nat → Int32) (lj : Nat → Int64), wpX12_through k 0 t li lj Q → wpX12_through k 0 t li lj R → wpX12_through k 0 t li lj (fun r t => Q r t ∧ R r t)) ∧ (∀ (t : XT) (li : Nat → Int32) (lj : Nat → Int64), wpX12_through k 1 t li lj Q → wpX12_through k 1 t li lj R → wpX12_through k 1 t li lj (fun r t => Q r t ∧ R r t)) ∧ (∀ (t : XT) (li : Nat → Int32) (lj : Nat → Int64), wpX12_through k 2 t li lj Q → wpX12_through k 2 t li lj R → wpX12_through k 2 t li lj (fun r t => Q r t ∧ R r t)) ∧ (∀ (t : XT) (li : Nat → Int32) (lj : Nat → Int64), wpX12_through k 3 t li lj Q → wpX12_through k 3 t li lj R → wpX12_through k 3 t li lj (fun r t => Q r t ∧ R r t)) ∧ (∀ (t : XT) (li : Nat → Int32) (lj : Nat → Int64), wpX12_through k 4 t li lj Q → wpX12_through k 4 t li lj R → wpX12_through k 4 t li lj (fun r t => Q r t ∧ R r t)) ∧ (∀ (t : XT) (li : Nat → Int32) (lj : Nat → Int64), wpX12_through k 5 t li lj Q → wpX12_through k 5 t li lj R → wpX12_through k 5 t li lj (fun r t => Q r t ∧ R r t)) ∧ (∀ (t : XT) (li : Nat → Int32) (lj : Nat → Int64), wpX12_through k 6 t li lj Q → wpX12_through k 6 t li lj R → wpX12_through k 6 t li lj (fun r t => Q r t ∧ R r t)) ∧ (∀ (t : XT) (li : Nat → Int32) (lj : Nat → Int64), wpX12_through k 7 t li lj Q → wpX12_through k 7 t li lj R → wpX12_through k 7 t li lj (fun r t => Q r t ∧ R r t)) ∧ (∀ (t : XT) (li : Nat → Int32) (lj : Nat → Int64), wpX12_through k 8 t li lj Q → wpX12_through k 8 t li lj R → wpX12_through k 8 t li lj (fun r t => Q r t ∧ R r t)) := by
  intro k
  induction k with
  | zero => exact ⟨fun _ _ _ hR _ => False.elim hR, fun _ _ _ hR _ => False.elim hR, fun _ _ _ hR _ => False.elim hR, fun _ _ _ hR _ => False.elim hR, fun _ _ _ hR _ => False.elim hR, fun _ _ _ hR _ => False.elim hR, fun _ _ _ hR _ => False.elim hR, fun _ _ _ hR _ => False.elim hR, fun _ _ _ hR _ => False.elim hR⟩
  | succ k ih =>
    refine ⟨?_, ?_, ?_, ?_, ?_, ?_, ?_, ?_, ?_⟩
    · intro t li lj hQ hR
      have hQ : wbX12_through_0 (wpX12_through k) k t li lj Q := hQ
      have hR : wbX12_through_0 (wpX12_through k) k t li lj R := hR
      show wbX12_through_0 (wpX12_through k) k t li lj (fun r t => Q r t ∧ R r t)
      unfold wbX12_through_0 at hQ hR ⊢
      exact wiX12_areEnds hQ hR (fun y1_0 y1_1 h1 i1 => ⟨fun c2 => ih.2.1 _ _ _ (h1.1 c2) (i1.1 c2), fun c3 => wiX12_isThere (h1.2 c3) (i1.2 c3) (fun y4_0 y4_1 h4 i4 => ⟨fun c5 => wiX12_waysFrom (h4.1 c5) (i4.1 c5) (fun y6_0 y6_1 h6 i6 => ⟨fun c7 => ih.2.2.1 _ _ _ (h6.1 c7) (i6.1 c7), fun c8 => ⟨fun c9 => wiX12_dimOf ((h6.2 c8).1 c9) ((i6.2 c8).1 c9) (fun y10_0 y10_1 h10 i10 => wiX12_dimOf h10 i10 (fun y11_0 y11_1 h11 i11 => ⟨fun c12 => ⟨(h11.1 c12).1, fun x13 e13 => ih.2.2.2.1 _ _ _ ((h11.1 c12).2 x13 e13) ((i11.1 c12).2 x13 e13)⟩, fun c14 => ih.2.2.2.1 _ _ _ (h11.2 c14) (i11.2 c14)⟩)), fun c15 => ih.2.2.1 _ _ _ ((h6.2 c8).2 c15) ((i6.2 c8).2 c15)⟩⟩), fun c16 => ih.2.1 _ _ _ (h4.2 c16) (i4.2 c16)⟩)⟩)
    · intro t li lj hQ hR
      have hQ : wbX12_through_1 (wpX12_through k) k t li lj Q := hQ
      have hR : wbX12_through_1 (wpX12_through k) k t li lj R := hR
      show wbX12_through_1 (wpX12_through k) k t li lj (fun r t => Q r t ∧ R r t)
      unfold wbX12_through_1 at hQ hR ⊢
      exact ⟨hQ, hR⟩
    · intro t li lj hQ hR
      have hQ : wbX12_through_2 (wpX12_through k) k t li lj Q := hQ
      have hR : wbX12_through_2 (wpX12_through k) k t li lj R := hR
      show wbX12_through_2 (wpX12_through k) k t li lj (fun r t => Q r t ∧ R r t)
      unfold wbX12_through_2 at hQ hR ⊢
      exact ⟨hQ, hR⟩
    · intro t li lj hQ hR
      have hQ : wbX12_through_3 (wpX12_through k) k t li lj Q := hQ
      have hR : wbX12_through_3 (wpX12_through k) k t li lj R := hR
      show wbX12_through_3 (wpX12_through k) k t li lj (fun r t => Q r t ∧ R r t)
      unfold wbX12_through_3 at hQ hR ⊢
      exact ⟨fun c1 => ih.2.2.2.2.1 _ _ _ (hQ.1 c1) (hR.1 c1), fun c2 => wiX12_dimOf (hQ.2 c2) (hR.2 c2) (fun y3_0 y3_1 h3 i3 => wiX12_dimOf h3 i3 (fun y4_0 y4_1 h4 i4 => ⟨fun c5 => ih.2.2.2.2.1 _ _ _ (h4.1 c5) (i4.1 c5), fun c6 => wiX12_isLower (h4.2 c6) (i4.2 c6) (fun y7_0 y7_1 h7 i7 => ⟨fun c8 => ih.2.2.2.2.2.1 _ _ _ (h7.1 c8) (i7.1 c8), fun c9 => ih.2.2.2.2.1 _ _ _ (h7.2 c9) (i7.2 c9)⟩)⟩))⟩
    · intro t li lj hQ hR
      have hQ : wbX12_through_4 (wpX12_through k) k t li lj Q := hQ
      have hR : wbX12_through_4 (wpX12_through k) k t li lj R := hR
      show wbX12_through_4 (wpX12_through k) k t li lj (fun r t => Q r t ∧ R r t)
      unfold wbX12_through_4 at hQ hR ⊢
      exact ⟨hQ, hR⟩
    · intro t li lj hQ hR
      have hQ : wbX12_through_5 (wpX12_through k) k t li lj Q := hQ
      have hR : wbX12_through_5 (wpX12_through k) k t li lj R := hR
      show wbX12_through_5 (wpX12_through k) k t li lj (fun r t => Q r t ∧ R r t)
      unfold wbX12_through_5 at hQ hR ⊢
      exact ⟨fun c1 => ih.2.2.2.2.2.2.1 _ _ _ (hQ.1 c1) (hR.1 c1), fun c2 => ⟨(hQ.2 c2).1, fun x3 e3 => fun x4 e4 => ih.2.2.2.2.2.1 _ _ _ (((hQ.2 c2).2 x3 e3) x4 e4) (((hR.2 c2).2 x3 e3) x4 e4)⟩⟩
    · intro t li lj hQ hR
      have hQ : wbX12_through_6 (wpX12_through k) k t li lj Q := hQ
      have hR : wbX12_through_6 (wpX12_through k) k t li lj R := hR
      show wbX12_through_6 (wpX12_through k) k t li lj (fun r t => Q r t ∧ R r t)
      unfold wbX12_through_6 at hQ hR ⊢
      exact ⟨hQ.1, fun x1 e1 => fun x2 e2 => ⟨fun c3 => ⟨(((hQ.2 x1 e1) x2 e2).1 c3).1, fun x4 e4 => ⟨((((hQ.2 x1 e1) x2 e2).1 c3).2 x4 e4).1, fun x5 e5 => fun x6 e6 => ⟨((((((hQ.2 x1 e1) x2 e2).1 c3).2 x4 e4).2 x5 e5) x6 e6), ((((((hR.2 x1 e1) x2 e2).1 c3).2 x4 e4).2 x5 e5) x6 e6)⟩⟩⟩, fun c7 => ih.2.2.2.2.2.2.2.1 _ _ _ (((hQ.2 x1 e1) x2 e2).2 c7) (((hR.2 x1 e1) x2 e2).2 c7)⟩⟩
    · intro t li lj hQ hR
      have hQ : wbX12_through_7 (wpX12_through k) k t li lj Q := hQ
      have hR : wbX12_through_7 (wpX12_through k) k t li lj R := hR
      show wbX12_through_7 (wpX12_through k) k t li lj (fun r t => Q r t ∧ R r t)
      unfold wbX12_through_7 at hQ hR ⊢
      exact ⟨fun c1 => ih.2.2.2.2.2.2.1 _ _ _ (hQ.1 c1) (hR.1 c1), fun c2 => ⟨(hQ.2 c2).1, fun x3 e3 => fun x4 e4 => ⟨fun c5 => ih.2.2.2.2.2.2.2.2 _ _ _ ((((hQ.2 c2).2 x3 e3) x4 e4).1 c5) ((((hR.2 c2).2 x3 e3) x4 e4).1 c5), fun c6 => wiX12_isThere ((((hQ.2 c2).2 x3 e3) x4 e4).2 c6) ((((hR.2 c2).2 x3 e3) x4 e4).2 c6) (fun y7_0 y7_1 h7 i7 => ⟨fun c8 => ih.2.2.2.2.2.2.2.2 _ _ _ (h7.1 c8) (i7.1 c8), fun c9 => wiX12_dimOf (h7.2 c9) (i7.2 c9) (fun y10_0 y10_1 h10 i10 => wiX12_dimOf h10 i10 (fun y11_0 y11_1 h11 i11 => ⟨fun c12 => ih.2.2.2.2.2.2.2.2 _ _ _ (h11.1 c12) (i11.1 c12), fun c13 => wiX12_laysReach (h11.2 c13) (i11.2 c13) (fun y14_0 y14_1 h14 i14 => ih.2.2.2.2.2.2.2.2 _ _ _ h14 i14)⟩))⟩)⟩⟩⟩
    · intro t li lj hQ hR
      have hQ : wbX12_through_8 (wpX12_through k) k t li lj Q := hQ
      have hR : wbX12_through_8 (wpX12_through k) k t li lj R := hR
      show wbX12_through_8 (wpX12_through k) k t li lj (fun r t => Q r t ∧ R r t)
      unfold wbX12_through_8 at hQ hR ⊢
      exact fun x1 e1 => ih.2.2.2.2.2.2.2.1 _ _ _ (hQ x1 e1) (hR x1 e1)
theorem wjX12_through {k : Nat} {t : XT} {a1 : Int32} {a2 : Int32} {a3 : Int32} {Q R : Int64 → XT → Prop} (hQ : wqX12_through k t a1 a2 a3 Q) (hR : wqX12_through k t a1 a2 a3 R) : wqX12_through k t a1 a2 a3 (fun r t => Q r t ∧ R r t) := (wkX12_throughj Q R k).1 t _ _ hQ hR
theorem wiX12_through {k : Nat} {t : XT} {a1 : Int32} {a2 : Int32} {a3 : Int32} {Q R S : Int64 → XT → Prop} (hQ : wqX12_through k t a1 a2 a3 Q) (hR : wqX12_through k t a1 a2 a3 R) (f : ∀ r t, Q r t → R r t → S r t) : wqX12_through k t a1 a2 a3 S := wmX12_through (Nat.le_refl k) (fun r t h => f r t h.1 h.2) (wjX12_through hQ hR)
