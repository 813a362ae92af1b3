set_option maxHeartbeats 4000000 in
set_option maxRecDepth 100000 in
theorem wkX11_cancelj (Q R : Int32 → XT → Prop) : ∀ k : Nat, (∀ (t : XT) (li : Nat → Int32) (lj : Nat → Int64), wpX11_cancel k 0 t li lj Q → wpX11_cancel k 0 t li lj R → wpX11_cancel k 0 t li lj (fun r t => Q r t ∧ R r t)) ∧ (∀ (t : XT) (li : Nat → Int32) (lj : Nat → Int64), wpX11_cancel k 1 t li lj Q → wpX11_cancel k 1 t li lj R → wpX11_cancel k 1 t li lj (fun r t => Q r t ∧ R r t)) ∧ (∀ (t : XT) (li : Nat → Int32) (lj : Nat → Int64), wpX11_cancel k 2 t li lj Q → wpX11_cancel k 2 t li lj R → wpX11_cancel k 2 t li lj (fun r t => Q r t ∧ R r t)) := by
  intro k
  induction k with
  | zero => exact ⟨fun _ _ _ hR _ => False.elim hR, fun _ _ _ hR _ => False.elim hR, fun _ _ _ hR _ => False.elim hR⟩
  | succ k ih =>
    refine ⟨?_, ?_, ?_⟩
    · intro t li lj hQ hR
      have hQ : wbX11_cancel_0 (wpX11_cancel k) k t li lj Q := hQ
      have hR : wbX11_cancel_0 (wpX11_cancel k) k t li lj R := hR
      show wbX11_cancel_0 (wpX11_cancel k) k t li lj (fun r t => Q r t ∧ R r t)
      unfold wbX11_cancel_0 at hQ hR ⊢
      exact wiX11_areEnds hQ hR (fun y1_0 y1_1 h1 i1 => ⟨fun c2 => wiX1_countWays (h1.1 c2) (i1.1 c2) (fun y3_0 y3_1 h3 i3 => fun x4 e4 => ⟨fun c5 => wiX3_save_c4 ((h3 x4 e4).1 c5) ((i3 x4 e4).1 c5) (fun y6_0 h6 i6 => wiX1_trace h6 i6 (fun y7_0 y7_1 h7 i7 => ih.2.1 _ _ _ h7 i7)), fun c8 => ⟨((h3 x4 e4).2 c8), ((i3 x4 e4).2 c8)⟩⟩), fun c9 => ⟨(h1.2 c9), (i1.2 c9)⟩⟩)
    · intro t li lj hQ hR
      have hQ : wbX11_cancel_1 (wpX11_cancel k) k t li lj Q := hQ
      have hR : wbX11_cancel_1 (wpX11_cancel k) k t li lj R := hR
      show wbX11_cancel_1 (wpX11_cancel k) k t li lj (fun r t => Q r t ∧ R r t)
      unfold wbX11_cancel_1 at hQ hR ⊢
      exact fun x1 e1 => ⟨fun c2 => ih.2.2 _ _ _ ((hQ x1 e1).1 c2) ((hR x1 e1).1 c2), fun c3 => ⟨((hQ x1 e1).2 c3).1, fun x4 e4 => wiX6_divide (((hQ x1 e1).2 c3).2 x4 e4) (((hR x1 e1).2 c3).2 x4 e4) (fun y5_0 h5 i5 => fun x6 e6 => ih.2.1 _ _ _ (h5 x6 e6) (i5 x6 e6))⟩⟩
    · intro t li lj hQ hR
      have hQ : wbX11_cancel_2 (wpX11_cancel k) k t li lj Q := hQ
      have hR : wbX11_cancel_2 (wpX11_cancel k) k t li lj R := hR
      show wbX11_cancel_2 (wpX11_cancel k) k t li lj (fun r t => Q r t ∧ R r t)
      unfold wbX11_cancel_2 at hQ hR ⊢
      exact ⟨fun c1 => wiX11_criticalOnes (hQ.1 c1) (hR.1 c1) (fun y2_0 y2_1 h2 i2 => ⟨h2, i2⟩), fun c3 => ⟨(hQ.2 c3).1, fun x4 e4 => fun x5 e5 => ⟨(((hQ.2 c3).2 x4 e4) x5 e5).1, fun x6 e6 => wiX6_unite ((((hQ.2 c3).2 x4 e4) x5 e5).2 x6 e6) ((((hR.2 c3).2 x4 e4) x5 e5).2 x6 e6) (fun y7_0 h7 i7 => fun x8 e8 => ih.2.2 _ _ _ (h7 x8 e8) (i7 x8 e8))⟩⟩⟩
theorem wjX11_cancel {k : Nat} {t : XT} {a1 : Int32} {a2 : Int32} {Q R : Int32 → XT → Prop} (hQ : wqX11_cancel k t a1 a2 Q) (hR : wqX11_cancel k t a1 a2 R) : wqX11_cancel k t a1 a2 (fun r t => Q r t ∧ R r t) := (wkX11_cancelj Q R k).1 t _ _ hQ hR
theorem wiX11_cancel {k : Nat} {t : XT} {a1 : Int32} {a2 : Int32} {Q R S : Int32 → XT → Prop} (hQ : wqX11_cancel k t a1 a2 Q) (hR : wqX11_cancel k t a1 a2 R) (f : ∀ r t, Q r t → R r t → S r t) : wqX11_cancel k t a1 a2 S := wmX11_cancel (Nat.le_refl k) (fun r t h => f r t h.1 h.2) (wjX11_cancel hQ hR)
set_option maxHeartbeats 4000000 in
set_option maxRecDepth 100000 in
theorem wkX11_isFreej (Q R : Int32 → XT → Prop) : ∀ k : Nat, (∀ (t : XT) (li : Nat → Int32) (lj : Nat → Int64), wpX11_isFree k 0 t li lj Q → wpX11_isFree k 0 t li lj R → wpX11_isFree k 0 t li lj (fun r t => Q r t ∧ R r t)) := by
  intro k
  induction k with
  | zero => exact fun _ _ _ hR _ => False.elim hR
  | succ k ih =>
    intro t li lj hQ hR
    have hQ : wbX11_isFree_0 (wpX11_isFree k) k t li lj Q := hQ
    have hR : wbX11_isFree_0 (wpX11_isFree k) k t li lj R := hR
    show wbX11_isFree_0 (wpX11_isFree k) k t li lj (fun r t => Q r t ∧ R r t)
    unfold wbX11_isFree_0 at hQ hR ⊢
    exact ⟨hQ.1, fun x1 e1 => fun x2 e2 => wiJ13_bitCount_95d88 ((hQ.2 x1 e1) x2 e2) ((hR.2 x1 e1) x2 e2) (fun y3_0 h3 i3 => ⟨fun c4 => wiX11_lowest (h3.1 c4) (i3.1 c4) (fun y5_0 h5 i5 => ⟨h5.1, fun x6 e6 => fun x7 e7 => fun x8 e8 => ⟨fun c9 => ⟨((((h5.2 x6 e6) x7 e7) x8 e8).1 c9), ((((i5.2 x6 e6) x7 e7) x8 e8).1 c9)⟩, fun c10 => ⟨((((h5.2 x6 e6) x7 e7) x8 e8).2 c10), ((((i5.2 x6 e6) x7 e7) x8 e8).2 c10)⟩⟩⟩), fun c11 => ⟨(h3.2 c11), (i3.2 c11)⟩⟩)⟩
theorem wjX11_isFree {k : Nat} {t : XT} {a1 : Int32} {Q R : Int32 → XT → Prop} (hQ : wqX11_isFree k t a1 Q) (hR : wqX11_isFree k t a1 R) : wqX11_isFree k t a1 (fun r t => Q r t ∧ R r t) := (wkX11_isFreej Q R k) t _ _ hQ hR
theorem wiX11_isFree {k : Nat} {t : XT} {a1 : Int32} {Q R S : Int32 → XT → Prop} (hQ : wqX11_isFree k t a1 Q) (hR : wqX11_isFree k t a1 R) (f : ∀ r t, Q r t → R r t → S r t) : wqX11_isFree k t a1 S := wmX11_isFree (Nat.le_refl k) (fun r t h => f r t h.1 h.2) (wjX11_isFree hQ hR)
set_option maxHeartbeats 4000000 in
set_option maxRecDepth 100000 in
theorem wkX6_dropj (Q R : XT → Prop) : ∀ k : Nat, (∀ (t : XT) (li : Nat → Int32) (lj : Nat → Int64), wpX6_drop k 0 t li lj Q → wpX6_drop k 0 t li lj R → wpX6_drop k 0 t li lj (fun t => Q t ∧ R t)) := by
  intro k
  induction k with
  | zero => exact fun _ _ _ hR _ => False.elim hR
  | succ k ih =>
    intro t li lj hQ hR
    have hQ : wbX6_drop_0 (wpX6_drop k) k t li lj Q := hQ
    have hR : wbX6_drop_0 (wpX6_drop k) k t li lj R := hR
    show wbX6_drop_0 (wpX6_drop k) k t li lj (fun t => Q t ∧ R t)
    unfold wbX6_drop_0 at hQ hR ⊢
    exact wiX6_divide hQ hR (fun y1_0 h1 i1 => wiX11_bit h1 i1 (fun y2_0 h2 i2 => fun x3 e3 => fun x4 e4 => fun x5 e5 => fun x6 e6 => fun x7 e7 => ⟨(((((h2 x3 e3) x4 e4) x5 e5) x6 e6) x7 e7), (((((i2 x3 e3) x4 e4) x5 e5) x6 e6) x7 e7)⟩))
theorem wjX6_drop {k : Nat} {t : XT} {a1 : Int32} {Q R : XT → Prop} (hQ : wqX6_drop k t a1 Q) (hR : wqX6_drop k t a1 R) : wqX6_drop k t a1 (fun t => Q t ∧ R t) := (wkX6_dropj Q R k) t _ _ hQ hR
theorem wiX6_drop {k : Nat} {t : XT} {a1 : Int32} {Q R S : XT → Prop} (hQ : wqX6_drop k t a1 Q) (hR : wqX6_drop k t a1 R) (f : ∀ t, Q t → R t → S t) : wqX6_drop k t a1 S := wmX6_drop (Nat.le_refl k) (fun t h => f t h.1 h.2) (wjX6_drop hQ hR)
set_option maxHeartbeats 4000000 in
set_option maxRecDepth 100000 in
theorem wkX11_collapsej (Q R : Int32 → XT → Prop) : ∀ k : Nat, (∀ (t : XT) (li : Nat → Int32) (lj : Nat → Int64), wpX11_collapse k 0 t li lj Q → wpX11_collapse k 0 t li lj R → wpX11_collapse k 0 t li lj (fun r t => Q r t ∧ R r t)) := by
  intro k
  induction k with
  | zero => exact fun _ _ _ hR _ => False.elim hR
  | succ k ih =>
    intro t li lj hQ hR
    have hQ : wbX11_collapse_0 (wpX11_collapse k) k t li lj Q := hQ
    have hR : wbX11_collapse_0 (wpX11_collapse k) k t li lj R := hR
    show wbX11_collapse_0 (wpX11_collapse k) k t li lj (fun r t => Q r t ∧ R r t)
    unfold wbX11_collapse_0 at hQ hR ⊢
    exact wiX11_isThere hQ hR (fun y1_0 y1_1 h1 i1 => ⟨fun c2 => wiX11_isFree (h1.1 c2) (i1.1 c2) (fun y3_0 y3_1 h3 i3 => ⟨fun c4 => wiX3_save_c4 (h3.1 c4) (i3.1 c4) (fun y5_0 h5 i5 => ⟨h5.1, fun x6 e6 => fun x7 e7 => wiX11_lowest ((h5.2 x6 e6) x7 e7) ((i5.2 x6 e6) x7 e7) (fun y8_0 h8 i8 => wiX6_drop h8 i8 (fun y9_0 h9 i9 => wiX6_drop h9 i9 (fun y10_0 h10 i10 => wiJ13_bitCount_95d88 h10 i10 (fun y11_0 h11 i11 => ⟨h11, i11⟩))))⟩), fun c12 => ⟨(h3.2 c12), (i3.2 c12)⟩⟩), fun c13 => ⟨(h1.2 c13), (i1.2 c13)⟩⟩)
theorem wjX11_collapse {k : Nat} {t : XT} {a1 : Int32} {Q R : Int32 → XT → Prop} (hQ : wqX11_collapse k t a1 Q) (hR : wqX11_collapse k t a1 R) : wqX11_collapse k t a1 (fun r t => Q r t ∧ R r t) := (wkX11_collapsej Q R k) t _ _ hQ hR
theorem wiX11_collapse {k : Nat} {t : XT} {a1 : Int32} {Q R S : Int32 → XT → Prop} (hQ : wqX11_collapse k t a1 Q) (hR : wqX11_collapse k t a1 R) (f : ∀ r t, Q r t → R r t → S r t) : wqX11_collapse k t a1 S := wmX11_collapse (Nat.le_refl k) (fun r t h => f r t h.1 h.2) (wjX11_collapse hQ hR)
set_option maxHeartbeats 4000000 in
set_option maxRecDepth 100000 in
theorem wkX6_takeBack_c27j (Q R : XT → Prop) : ∀ k : Nat, (∀ (t : XT) (li : Nat → Int32) (lj : Nat → Int64), wpX6_takeBack_c27 k 0 t li lj Q → wpX6_takeBack_c27 k 0 t li lj R → wpX6_takeBack_c27 k 0 t li lj (fun t => Q t ∧ R t)) ∧ (∀ (t : XT) (li : Nat → Int32) (lj : Nat → Int64), wpX6_takeBack_c27 k 1 t li lj Q → wpX6_takeBack_c27 k 1 t li lj R → wpX6_takeBack_c27 k 1 t li lj (fun t => Q t ∧ R t)) ∧ (∀ (t : XT) (li : Nat → Int32) (lj : Nat → Int64), wpX6_takeBack_c27 k 2 t li lj Q → wpX6_takeBack_c27 k 2 t li lj R → wpX6_takeBack_c27 k 2 t li lj (fun t => Q t ∧ R t)) := by
  intro k
  induction k with
  | zero => exact ⟨fun _ _ _ hR _ => False.elim hR, fun _ _ _ hR _ => False.elim hR, fun _ _ _ hR _ => False.elim hR⟩
  | succ k ih =>
    refine ⟨?_, ?_, ?_⟩
    · intro t li lj hQ hR
      have hQ : wbX6_takeBack_c27_0 (wpX6_takeBack_c27 k) k t li lj Q := hQ
      have hR : wbX6_takeBack_c27_0 (wpX6_takeBack_c27 k) k t li lj R := hR
      show wbX6_takeBack_c27_0 (wpX6_takeBack_c27 k) k t li lj (fun t => Q t ∧ R t)
      unfold wbX6_takeBack_c27_0 at hQ hR ⊢
      exact wiX6_restart hQ hR (fun y1_0 h1 i1 => ih.2.1 _ _ _ h1 i1)
    · intro t li lj hQ hR
      have hQ : wbX6_takeBack_c27_1 (wpX6_takeBack_c27 k) k t li lj Q := hQ
      have hR : wbX6_takeBack_c27_1 (wpX6_takeBack_c27 k) k t li lj R := hR
      show wbX6_takeBack_c27_1 (wpX6_takeBack_c27 k) k t li lj (fun t => Q t ∧ R t)
      unfold wbX6_takeBack_c27_1 at hQ hR ⊢
      exact ⟨fun c1 => ⟨(hQ.1 c1), (hR.1 c1)⟩, fun c2 => fun x3 e3 => ⟨fun c4 => ⟨(((hQ.2 c2) x3 e3).1 c4), (((hR.2 c2) x3 e3).1 c4)⟩, fun c5 => fun x6 e6 => ⟨((((hQ.2 c2) x3 e3).2 c5) x6 e6).1, fun x7 e7 => ⟨fun c8 => ih.2.2 _ _ _ ((((((hQ.2 c2) x3 e3).2 c5) x6 e6).2 x7 e7).1 c8) ((((((hR.2 c2) x3 e3).2 c5) x6 e6).2 x7 e7).1 c8), fun c9 => wiX6_unite ((((((hQ.2 c2) x3 e3).2 c5) x6 e6).2 x7 e7).2 c9) ((((((hR.2 c2) x3 e3).2 c5) x6 e6).2 x7 e7).2 c9) (fun y10_0 h10 i10 => ih.2.2 _ _ _ h10 i10)⟩⟩⟩⟩
    · intro t li lj hQ hR
      have hQ : wbX6_takeBack_c27_2 (wpX6_takeBack_c27 k) k t li lj Q := hQ
      have hR : wbX6_takeBack_c27_2 (wpX6_takeBack_c27 k) k t li lj R := hR
      show wbX6_takeBack_c27_2 (wpX6_takeBack_c27 k) k t li lj (fun t => Q t ∧ R t)
      unfold wbX6_takeBack_c27_2 at hQ hR ⊢
      exact fun x1 e1 => ih.2.1 _ _ _ (hQ x1 e1) (hR x1 e1)
theorem wjX6_takeBack_c27 {k : Nat} {t : XT} {a2 : Int32} {a3 : Int64} {Q R : XT → Prop} (hQ : wqX6_takeBack_c27 k t a2 a3 Q) (hR : wqX6_takeBack_c27 k t a2 a3 R) : wqX6_takeBack_c27 k t a2 a3 (fun t => Q t ∧ R t) := (wkX6_takeBack_c27j Q R k).1 t _ _ hQ hR
theorem wiX6_takeBack_c27 {k : Nat} {t : XT} {a2 : Int32} {a3 : Int64} {Q R S : XT → Prop} (hQ : wqX6_takeBack_c27 k t a2 a3 Q) (hR : wqX6_takeBack_c27 k t a2 a3 R) (f : ∀ t, Q t → R t → S t) : wqX6_takeBack_c27 k t a2 a3 S := wmX6_takeBack_c27 (Nat.le_refl k) (fun t h => f t h.1 h.2) (wjX6_takeBack_c27 hQ hR)
set_option maxHeartbeats 4000000 in
set_option maxRecDepth 100000 in
theorem wkX3_restore_c4j (Q R : XT → Prop) : ∀ k : Nat, (∀ (t : XT) (li : Nat → Int32) (lj : Nat → Int64), wpX3_restore_c4 k 0 t li lj Q → wpX3_restore_c4 k 0 t li lj R → wpX3_restore_c4 k 0 t li lj (fun t => Q t ∧ R t)) := by
  intro k
  induction k with
  | zero => exact fun _ _ _ hR _ => False.elim hR
  | succ k ih =>
    intro t li lj hQ hR
    have hQ : wbX3_restore_c4_0 (wpX3_restore_c4 k) k t li lj Q := hQ
    have hR : wbX3_restore_c4_0 (wpX3_restore_c4 k) k t li lj R := hR
    show wbX3_restore_c4_0 (wpX3_restore_c4 k) k t li lj (fun t => Q t ∧ R t)
    unfold wbX3_restore_c4_0 at hQ hR ⊢
    exact ⟨fun c1 => fun x2 e2 => fun x3 e3 => ⟨(((hQ.1 c1) x2 e2) x3 e3).1, fun x4 e4 => fun x5 e5 => fun x6 e6 => fun x7 e7 => fun x8 e8 => ⟨((((((((hQ.1 c1) x2 e2) x3 e3).2 x4 e4) x5 e5) x6 e6) x7 e7) x8 e8).1, fun x9 e9 => wiX6_takeBack_c27 (((((((((hQ.1 c1) x2 e2) x3 e3).2 x4 e4) x5 e5) x6 e6) x7 e7) x8 e8).2 x9 e9) (((((((((hR.1 c1) x2 e2) x3 e3).2 x4 e4) x5 e5) x6 e6) x7 e7) x8 e8).2 x9 e9) (fun y10_0 h10 i10 => ⟨h10, i10⟩)⟩⟩, fun c11 => ⟨(hQ.2 c11), (hR.2 c11)⟩⟩
theorem wjX3_restore_c4 {k : Nat} {t : XT}  {Q R : XT → Prop} (hQ : wqX3_restore_c4 k t  Q) (hR : wqX3_restore_c4 k t  R) : wqX3_restore_c4 k t  (fun t => Q t ∧ R t) := (wkX3_restore_c4j Q R k) t _ _ hQ hR
theorem wiX3_restore_c4 {k : Nat} {t : XT}  {Q R S : XT → Prop} (hQ : wqX3_restore_c4 k t  Q) (hR : wqX3_restore_c4 k t  R) (f : ∀ t, Q t → R t → S t) : wqX3_restore_c4 k t  S := wmX3_restore_c4 (Nat.le_refl k) (fun t h => f t h.1 h.2) (wjX3_restore_c4 hQ hR)
set_option maxHeartbeats 4000000 in
set_option maxRecDepth 100000 in
theorem wkX11_undoj (Q R : Int32 → XT → Prop) : ∀ k : Nat, (∀ (t : XT) (li : Nat → Int32) (lj : Nat → Int64), wpX11_undo k 0 t li lj Q → wpX11_undo k 0 t li lj R → wpX11_undo k 0 t li lj (fun r t => Q r t ∧ R r t)) := by
  intro k
  induction k with
  | zero => exact fun _ _ _ hR _ => False.elim hR
  | succ k ih =>
    intro t li lj hQ hR
    have hQ : wbX11_undo_0 (wpX11_undo k) k t li lj Q := hQ
    have hR : wbX11_undo_0 (wpX11_undo k) k t li lj R := hR
    show wbX11_undo_0 (wpX11_undo k) k t li lj (fun r t => Q r t ∧ R r t)
    unfold wbX11_undo_0 at hQ hR ⊢
    exact ⟨fun c1 => wiX3_restore_c4 (hQ.1 c1) (hR.1 c1) (fun y2_0 h2 i2 => ⟨h2, i2⟩), fun c3 => ⟨(hQ.2 c3), (hR.2 c3)⟩⟩
theorem wjX11_undo {k : Nat} {t : XT}  {Q R : Int32 → XT → Prop} (hQ : wqX11_undo k t  Q) (hR : wqX11_undo k t  R) : wqX11_undo k t  (fun r t => Q r t ∧ R r t) := (wkX11_undoj Q R k) t _ _ hQ hR
theorem wiX11_undo {k : Nat} {t : XT}  {Q R S : Int32 → XT → Prop} (hQ : wqX11_undo k t  Q) (hR : wqX11_undo k t  R) (f : ∀ r t, Q r t → R r t → S r t) : wqX11_undo k t  S := wmX11_undo (Nat.le_refl k) (fun r t h => f r t h.1 h.2) (wjX11_undo hQ hR)
set_option maxHeartbeats 4000000 in
set_option maxRecDepth 100000 in
theorem wkX11_isDimj (Q R : Int32 → Prop) : ∀ k : Nat, (∀ (li : Nat → Int32) (lj : Nat → Int64), wpX11_isDim k 0 li lj Q → wpX11_isDim k 0 li lj R → wpX11_isDim k 0 li lj (fun r => Q r ∧ R r)) ∧ (∀ (li : Nat → Int32) (lj : Nat → Int64), wpX11_isDim k 1 li lj Q → wpX11_isDim k 1 li lj R → wpX11_isDim k 1 li lj (fun r => Q r ∧ R r)) := by
  intro k
  induction k with
  | zero => exact ⟨fun _ _ hR _ => False.elim hR, fun _ _ hR _ => False.elim hR⟩
  | succ k ih =>
    refine ⟨?_, ?_⟩
    · intro li lj hQ hR
      have hQ : wbX11_isDim_0 (wpX11_isDim k) k li lj Q := hQ
      have hR : wbX11_isDim_0 (wpX11_isDim k) k li lj R := hR
      show wbX11_isDim_0 (wpX11_isDim k) k li lj (fun r => Q r ∧ R r)
      unfold wbX11_isDim_0 at hQ hR ⊢
      exact ⟨fun c1 => ih.2 _ _ (hQ.1 c1) (hR.1 c1), fun c2 => ⟨fun c3 => ih.2 _ _ ((hQ.2 c2).1 c3) ((hR.2 c2).1 c3), fun c4 => ⟨((hQ.2 c2).2 c4), ((hR.2 c2).2 c4)⟩⟩⟩
    · intro li lj hQ hR
      have hQ : wbX11_isDim_1 (wpX11_isDim k) k li lj Q := hQ
      have hR : wbX11_isDim_1 (wpX11_isDim k) k li lj R := hR
      show wbX11_isDim_1 (wpX11_isDim k) k li lj (fun r => Q r ∧ R r)
      unfold wbX11_isDim_1 at hQ hR ⊢
      exact ⟨hQ, hR⟩
theorem wjX11_isDim {k : Nat} {a0 : Int32} {Q R : Int32 → Prop} (hQ : wqX11_isDim k a0 Q) (hR : wqX11_isDim k a0 R) : wqX11_isDim k a0 (fun r => Q r ∧ R r) := (wkX11_isDimj Q R k).1 _ _ hQ hR
theorem wiX11_isDim {k : Nat} {a0 : Int32} {Q R S : Int32 → Prop} (hQ : wqX11_isDim k a0 Q) (hR : wqX11_isDim k a0 R) (f : ∀ r, Q r → R r → S r) : wqX11_isDim k a0 S := wmX11_isDim (Nat.le_refl k) (fun r h => f r h.1 h.2) (wjX11_isDim hQ hR)
set_option maxHeartbeats 4000000 in
set_option maxRecDepth 100000 in
theorem wkX11_listedj (Q R : Int32 → Prop) : ∀ k : Nat, (∀ (li : Nat → Int32) (lj : Nat → Int64), wpX11_listed k 0 li lj Q → wpX11_listed k 0 li lj R → wpX11_listed k 0 li lj (fun r => Q r ∧ R r)) := by
  intro k
  induction k with
  | zero => exact fun _ _ hR _ => False.elim hR
  | succ k ih =>
    intro li lj hQ hR
    have hQ : wbX11_listed_0 (wpX11_listed k) k li lj Q := hQ
    have hR : wbX11_listed_0 (wpX11_listed k) k li lj R := hR
    show wbX11_listed_0 (wpX11_listed k) k li lj (fun r => Q r ∧ R r)
    unfold wbX11_listed_0 at hQ hR ⊢
    exact wiJ13_bitCount_95d88 hQ hR (fun y1_0 h1 i1 => ⟨fun c2 => ⟨fun c3 => ⟨((h1.1 c2).1 c3), ((i1.1 c2).1 c3)⟩, fun c4 => wiX11_nth ((h1.1 c2).2 c4) ((i1.1 c2).2 c4) (fun y5_0 h5 i5 => ⟨h5, i5⟩)⟩, fun c6 => ⟨(h1.2 c6), (i1.2 c6)⟩⟩)
theorem wjX11_listed {k : Nat} {a0 : Int64} {a1 : Int32} {Q R : Int32 → Prop} (hQ : wqX11_listed k a0 a1 Q) (hR : wqX11_listed k a0 a1 R) : wqX11_listed k a0 a1 (fun r => Q r ∧ R r) := (wkX11_listedj Q R k) _ _ hQ hR
theorem wiX11_listed {k : Nat} {a0 : Int64} {a1 : Int32} {Q R S : Int32 → Prop} (hQ : wqX11_listed k a0 a1 Q) (hR : wqX11_listed k a0 a1 R) (f : ∀ r, Q r → R r → S r) : wqX11_listed k a0 a1 S := wmX11_listed (Nat.le_refl k) (fun r h => f r h.1 h.2) (wjX11_listed hQ hR)
set_option maxHeartbeats 4000000 in
set_option maxRecDepth 100000 in
theorem wkX11_criticalj (Q R : Int32 → XT → Prop) : ∀ k : Nat, (∀ (t : XT) (li : Nat → Int32) (lj : Nat → Int64), wpX11_critical k 0 t li lj Q → wpX11_critical k 0 t li lj R → wpX11_critical k 0 t li lj (fun r t => Q r t ∧ R r t)) ∧ (∀ (t : XT) (li : Nat → Int32) (lj : Nat → Int64), wpX11_critical k 1 t li lj Q → wpX11_critical k 1 t li lj R → wpX11_critical k 1 t li lj (fun r t => Q r t ∧ R r t)) := by
  intro k
  induction k with
  | zero => exact ⟨fun _ _ _ hR _ => False.elim hR, fun _ _ _ hR _ => False.elim hR⟩
  | succ k ih =>
    refine ⟨?_, ?_⟩
    · intro t li lj hQ hR
      have hQ : wbX11_critical_0 (wpX11_critical k) k t li lj Q := hQ
      have hR : wbX11_critical_0 (wpX11_critical k) k t li lj R := hR
      show wbX11_critical_0 (wpX11_critical k) k t li lj (fun r t => Q r t ∧ R r t)
      unfold wbX11_critical_0 at hQ hR ⊢
      exact wiX11_isDim hQ hR (fun y1_0 h1 i1 => ⟨fun c2 => ih.2 _ _ _ (h1.1 c2) (i1.1 c2), fun c3 => ⟨fun c4 => wiX6_unpaired ((h1.2 c3).1 c4) ((i1.2 c3).1 c4) (fun y5_0 y5_1 h5 i5 => ⟨h5.1, fun x6 e6 => fun x7 e7 => wiX11_listed ((h5.2 x6 e6) x7 e7) ((i5.2 x6 e6) x7 e7) (fun y8_0 h8 i8 => ⟨h8, i8⟩)⟩), fun c9 => ih.2 _ _ _ ((h1.2 c3).2 c9) ((i1.2 c3).2 c9)⟩⟩)
    · intro t li lj hQ hR
      have hQ : wbX11_critical_1 (wpX11_critical k) k t li lj Q := hQ
      have hR : wbX11_critical_1 (wpX11_critical k) k t li lj R := hR
      show wbX11_critical_1 (wpX11_critical k) k t li lj (fun r t => Q r t ∧ R r t)
      unfold wbX11_critical_1 at hQ hR ⊢
      exact ⟨hQ, hR⟩
theorem wjX11_critical {k : Nat} {t : XT} {a1 : Int32} {a2 : Int32} {Q R : Int32 → XT → Prop} (hQ : wqX11_critical k t a1 a2 Q) (hR : wqX11_critical k t a1 a2 R) : wqX11_critical k t a1 a2 (fun r t => Q r t ∧ R r t) := (wkX11_criticalj Q R k).1 t _ _ hQ hR
theorem wiX11_critical {k : Nat} {t : XT} {a1 : Int32} {a2 : Int32} {Q R S : Int32 → XT → Prop} (hQ : wqX11_critical k t a1 a2 Q) (hR : wqX11_critical k t a1 a2 R) (f : ∀ r t, Q r t → R r t → S r t) : wqX11_critical k t a1 a2 S := wmX11_critical (Nat.le_refl k) (fun r t h => f r t h.1 h.2) (wjX11_critical hQ hR)
set_option maxHeartbeats 4000000 in
set_option maxRecDepth 100000 in
theorem wkX11_pathsj (Q R : Int64 → XT → Prop) : ∀ k : Nat, (∀ (t : XT) (li : Nat → Int32) (lj : Nat → Int64), wpX11_paths k 0 t li lj Q → wpX11_paths k 0 t li lj R → wpX11_paths k 0 t li lj (fun r t => Q r t ∧ R r t)) := by
  intro k
  induction k with
  | zero => exact fun _ _ _ hR _ => False.elim hR
  | succ k ih =>
    intro t li lj hQ hR
    have hQ : wbX11_paths_0 (wpX11_paths k) k t li lj Q := hQ
    have hR : wbX11_paths_0 (wpX11_paths k) k t li lj R := hR
    show wbX11_paths_0 (wpX11_paths k) k t li lj (fun r t => Q r t ∧ R r t)
    unfold wbX11_paths_0 at hQ hR ⊢
    exact wiX11_areEnds hQ hR (fun y1_0 y1_1 h1 i1 => ⟨fun c2 => wiX1_countWays (h1.1 c2) (i1.1 c2) (fun y3_0 y3_1 h3 i3 => ⟨h3, i3⟩), fun c4 => ⟨(h1.2 c4), (i1.2 c4)⟩⟩)
theorem wjX11_paths {k : Nat} {t : XT} {a1 : Int32} {a2 : Int32} {Q R : Int64 → XT → Prop} (hQ : wqX11_paths k t a1 a2 Q) (hR : wqX11_paths k t a1 a2 R) : wqX11_paths k t a1 a2 (fun r t => Q r t ∧ R r t) := (wkX11_pathsj Q R k) t _ _ hQ hR
theorem wiX11_paths {k : Nat} {t : XT} {a1 : Int32} {a2 : Int32} {Q R S : Int64 → XT → Prop} (hQ : wqX11_paths k t a1 a2 Q) (hR : wqX11_paths k t a1 a2 R) (f : ∀ r t, Q r t → R r t → S r t) : wqX11_paths k t a1 a2 S := wmX11_paths (Nat.le_refl k) (fun r t h => f r t h.1 h.2) (wjX11_paths hQ hR)
set_option maxHeartbeats 4000000 in
set_option maxRecDepth 100000 in
theorem wkX11_pathj (Q R : Int32 → XT → Prop) : ∀ k : Nat, (∀ (t : XT) (li : Nat → Int32) (lj : Nat → Int64), wpX11_path k 0 t li lj Q → wpX11_path k 0 t li lj R → wpX11_path k 0 t li lj (fun r t => Q r t ∧ R r t)) ∧ (∀ (t : XT) (li : Nat → Int32) (lj : Nat → Int64), wpX11_path k 1 t li lj Q → wpX11_path k 1 t li lj R → wpX11_path k 1 t li lj (fun r t => Q r t ∧ R r t)) := by
  intro k
  induction k with
  | zero => exact ⟨fun _ _ _ hR _ => False.elim hR, fun _ _ _ hR _ => False.elim hR⟩
  | succ k ih =>
    refine ⟨?_, ?_⟩
    · intro t li lj hQ hR
      have hQ : wbX11_path_0 (wpX11_path k) k t li lj Q := hQ
      have hR : wbX11_path_0 (wpX11_path k) k t li lj R := hR
      show wbX11_path_0 (wpX11_path k) k t li lj (fun r t => Q r t ∧ R r t)
      unfold wbX11_path_0 at hQ hR ⊢
      exact wiX11_areEnds hQ hR (fun y1_0 y1_1 h1 i1 => ⟨fun c2 => ih.2 _ _ _ (h1.1 c2) (i1.1 c2), fun c3 => ⟨fun c4 => ih.2 _ _ _ ((h1.2 c3).1 c4) ((i1.2 c3).1 c4), fun c5 => ⟨fun c6 => fun x7 e7 => wiX1_countWays ((((h1.2 c3).2 c5).1 c6) x7 e7) ((((i1.2 c3).2 c5).1 c6) x7 e7) (fun y8_0 y8_1 h8 i8 => fun x9 e9 => ⟨fun c10 => fun x11 e11 => wiX1_trace (((h8 x9 e9).1 c10) x11 e11) (((i8 x9 e9).1 c10) x11 e11) (fun y12_0 y12_1 h12 i12 => ⟨fun c13 => ⟨fun c14 => ⟨((h12.1 c13).1 c14), ((i12.1 c13).1 c14)⟩, fun c15 => ⟨((h12.1 c13).2 c15).1, fun x16 e16 => ⟨(((h12.1 c13).2 c15).2 x16 e16), (((i12.1 c13).2 c15).2 x16 e16)⟩⟩⟩, fun c17 => ⟨(h12.2 c17), (i12.2 c17)⟩⟩), fun c18 => ⟨((h8 x9 e9).2 c18), ((i8 x9 e9).2 c18)⟩⟩), fun c19 => ih.2 _ _ _ (((h1.2 c3).2 c5).2 c19) (((i1.2 c3).2 c5).2 c19)⟩⟩⟩)
    · intro t li lj hQ hR
      have hQ : wbX11_path_1 (wpX11_path k) k t li lj Q := hQ
      have hR : wbX11_path_1 (wpX11_path k) k t li lj R := hR
      show wbX11_path_1 (wpX11_path k) k t li lj (fun r t => Q r t ∧ R r t)
      unfold wbX11_path_1 at hQ hR ⊢
      exact ⟨hQ, hR⟩
theorem wjX11_path {k : Nat} {t : XT} {a1 : Int32} {a2 : Int32} {a3 : Int32} {a4 : Int32} {Q R : Int32 → XT → Prop} (hQ : wqX11_path k t a1 a2 a3 a4 Q) (hR : wqX11_path k t a1 a2 a3 a4 R) : wqX11_path k t a1 a2 a3 a4 (fun r t => Q r t ∧ R r t) := (wkX11_pathj Q R k).1 t _ _ hQ hR
theorem wiX11_path {k : Nat} {t : XT} {a1 : Int32} {a2 : Int32} {a3 : Int32} {a4 : Int32} {Q R S : Int32 → XT → Prop} (hQ : wqX11_path k t a1 a2 a3 a4 Q) (hR : wqX11_path k t a1 a2 a3 a4 R) (f : ∀ r t, Q r t → R r t → S r t) : wqX11_path k t a1 a2 a3 a4 S := wmX11_path (Nat.le_refl k) (fun r t h => f r t h.1 h.2) (wjX11_path hQ hR)
set_option maxHeartbeats 4000000 in
set_option maxRecDepth 100000 in
theorem wkX1_startj (Q R : XT → Prop) : ∀ k : Nat, (∀ (t : XT) (li : Nat → Int32) (lj : Nat → Int64), wpX1_start k 0 t li lj Q → wpX1_start k 0 t li lj R → wpX1_start k 0 t li lj (fun t => Q t ∧ R t)) := by
  intro k
  induction k with
  | zero => exact fun _ _ _ hR _ => False.elim hR
  | succ k ih =>
    intro t li lj hQ hR
    have hQ : wbX1_start_0 (wpX1_start k) k t li lj Q := hQ
    have hR : wbX1_start_0 (wpX1_start k) k t li lj R := hR
    show wbX1_start_0 (wpX1_start k) k t li lj (fun t => Q t ∧ R t)
    unfold wbX1_start_0 at hQ hR ⊢
    exact wiX2_measure hQ hR (fun y1_0 h1 i1 => fun x2 e2 => ⟨(h1 x2 e2).1, fun x3 e3 => ⟨((h1 x2 e2).2 x3 e3), ((i1 x2 e2).2 x3 e3)⟩⟩)
theorem wjX1_start {k : Nat} {t : XT} {a1 : Int32} {Q R : XT → Prop} (hQ : wqX1_start k t a1 Q) (hR : wqX1_start k t a1 R) : wqX1_start k t a1 (fun t => Q t ∧ R t) := (wkX1_startj Q R k) t _ _ hQ hR
theorem wiX1_start {k : Nat} {t : XT} {a1 : Int32} {Q R S : XT → Prop} (hQ : wqX1_start k t a1 Q) (hR : wqX1_start k t a1 R) (f : ∀ t, Q t → R t → S t) : wqX1_start k t a1 S := wmX1_start (Nat.le_refl k) (fun t h => f t h.1 h.2) (wjX1_start hQ hR)
set_option maxHeartbeats 4000000 in
set_option maxRecDepth 100000 in
theorem wkX1_goDownj (Q R : XT → Prop) : ∀ k : Nat, (∀ (t : XT) (li : Nat → Int32) (lj : Nat → Int64), wpX1_goDown k 0 t li lj Q → wpX1_goDown k 0 t li lj R → wpX1_goDown k 0 t li lj (fun t => Q t ∧ R t)) ∧ (∀ (t : XT) (li : Nat → Int32) (lj : Nat → Int64), wpX1_goDown k 1 t li lj Q → wpX1_goDown k 1 t li lj R → wpX1_goDown k 1 t li lj (fun t => Q t ∧ R t)) ∧ (∀ (t : XT) (li : Nat → Int32) (lj : Nat → Int64), wpX1_goDown k 2 t li lj Q → wpX1_goDown k 2 t li lj R → wpX1_goDown k 2 t li lj (fun t => Q t ∧ R t)) := by
  intro k
  induction k with
  | zero => exact ⟨fun _ _ _ hR _ => False.elim hR, fun _ _ _ hR _ => False.elim hR, fun _ _ _ hR _ => False.elim hR⟩
  | succ k ih =>
    refine ⟨?_, ?_, ?_⟩
    · intro t li lj hQ hR
      have hQ : wbX1_goDown_0 (wpX1_goDown k) k t li lj Q := hQ
      have hR : wbX1_goDown_0 (wpX1_goDown k) k t li lj R := hR
      show wbX1_goDown_0 (wpX1_goDown k) k t li lj (fun t => Q t ∧ R t)
      unfold wbX1_goDown_0 at hQ hR ⊢
      exact wiX6_below hQ hR (fun y1_0 y1_1 h1 i1 => ih.2.1 _ _ _ h1 i1)
    · intro t li lj hQ hR
      have hQ : wbX1_goDown_1 (wpX1_goDown k) k t li lj Q := hQ
      have hR : wbX1_goDown_1 (wpX1_goDown k) k t li lj R := hR
      show wbX1_goDown_1 (wpX1_goDown k) k t li lj (fun t => Q t ∧ R t)
      unfold wbX1_goDown_1 at hQ hR ⊢
      exact ⟨fun c1 => ⟨(hQ.1 c1), (hR.1 c1)⟩, fun c2 => fun x3 e3 => ⟨fun c4 => ⟨(((hQ.2 c2) x3 e3).1 c4), (((hR.2 c2) x3 e3).1 c4)⟩, fun c5 => wiX11_lowest (((hQ.2 c2) x3 e3).2 c5) (((hR.2 c2) x3 e3).2 c5) (fun y6_0 h6 i6 => fun x7 e7 => fun x8 e8 => ⟨((h6 x7 e7) x8 e8).1, fun x9 e9 => ⟨fun c10 => ⟨((((h6 x7 e7) x8 e8).2 x9 e9).1 c10).1, fun x11 e11 => ih.2.2 _ _ _ (((((h6 x7 e7) x8 e8).2 x9 e9).1 c10).2 x11 e11) (((((i6 x7 e7) x8 e8).2 x9 e9).1 c10).2 x11 e11)⟩, fun c12 => ⟨((((h6 x7 e7) x8 e8).2 x9 e9).2 c12).1, fun x13 e13 => wiX9_signOf (((((h6 x7 e7) x8 e8).2 x9 e9).2 c12).2 x13 e13) (((((i6 x7 e7) x8 e8).2 x9 e9).2 c12).2 x13 e13) (fun y14_0 y14_1 h14 i14 => fun x15 e15 => fun x16 e16 => ih.2.2 _ _ _ ((h14 x15 e15) x16 e16) ((i14 x15 e15) x16 e16))⟩⟩⟩)⟩⟩
    · intro t li lj hQ hR
      have hQ : wbX1_goDown_2 (wpX1_goDown k) k t li lj Q := hQ
      have hR : wbX1_goDown_2 (wpX1_goDown k) k t li lj R := hR
      show wbX1_goDown_2 (wpX1_goDown k) k t li lj (fun t => Q t ∧ R t)
      unfold wbX1_goDown_2 at hQ hR ⊢
      exact fun x1 e1 => ⟨(hQ x1 e1).1, fun x2 e2 => fun x3 e3 => ih.2.1 _ _ _ (((hQ x1 e1).2 x2 e2) x3 e3) (((hR x1 e1).2 x2 e2) x3 e3)⟩
theorem wjX1_goDown {k : Nat} {t : XT} {a1 : Int32} {a2 : Int32} {Q R : XT → Prop} (hQ : wqX1_goDown k t a1 a2 Q) (hR : wqX1_goDown k t a1 a2 R) : wqX1_goDown k t a1 a2 (fun t => Q t ∧ R t) := (wkX1_goDownj Q R k).1 t _ _ hQ hR
theorem wiX1_goDown {k : Nat} {t : XT} {a1 : Int32} {a2 : Int32} {Q R S : XT → Prop} (hQ : wqX1_goDown k t a1 a2 Q) (hR : wqX1_goDown k t a1 a2 R) (f : ∀ t, Q t → R t → S t) : wqX1_goDown k t a1 a2 S := wmX1_goDown (Nat.le_refl k) (fun t h => f t h.1 h.2) (wjX1_goDown hQ hR)
set_option maxHeartbeats 4000000 in
set_option maxRecDepth 100000 in
theorem wkX1_goUpj (Q R : XT → Prop) : ∀ k : Nat, (∀ (t : XT) (li : Nat → Int32) (lj : Nat → Int64), wpX1_goUp k 0 t li lj Q → wpX1_goUp k 0 t li lj R → wpX1_goUp k 0 t li lj (fun t => Q t ∧ R t)) ∧ (∀ (t : XT) (li : Nat → Int32) (lj : Nat → Int64), wpX1_goUp k 1 t li lj Q → wpX1_goUp k 1 t li lj R → wpX1_goUp k 1 t li lj (fun t => Q t ∧ R t)) := by
  intro k
  induction k with
  | zero => exact ⟨fun _ _ _ hR _ => False.elim hR, fun _ _ _ hR _ => False.elim hR⟩
  | succ k ih =>
    refine ⟨?_, ?_⟩
    · intro t li lj hQ hR
      have hQ : wbX1_goUp_0 (wpX1_goUp k) k t li lj Q := hQ
      have hR : wbX1_goUp_0 (wpX1_goUp k) k t li lj R := hR
      show wbX1_goUp_0 (wpX1_goUp k) k t li lj (fun t => Q t ∧ R t)
      unfold wbX1_goUp_0 at hQ hR ⊢
      exact ⟨hQ.1, fun x1 e1 => ⟨fun c2 => ⟨((hQ.2 x1 e1).1 c2).1, fun x3 e3 => ⟨fun c4 => ⟨((((hQ.2 x1 e1).1 c2).2 x3 e3).1 c4).1, fun x5 e5 => ih.2 _ _ _ (((((hQ.2 x1 e1).1 c2).2 x3 e3).1 c4).2 x5 e5) (((((hR.2 x1 e1).1 c2).2 x3 e3).1 c4).2 x5 e5)⟩, fun c6 => ⟨((((hQ.2 x1 e1).1 c2).2 x3 e3).2 c6).1, fun x7 e7 => fun x8 e8 => wiX9_signOf ((((((hQ.2 x1 e1).1 c2).2 x3 e3).2 c6).2 x7 e7) x8 e8) ((((((hR.2 x1 e1).1 c2).2 x3 e3).2 c6).2 x7 e7) x8 e8) (fun y9_0 y9_1 h9 i9 => fun x10 e10 => fun x11 e11 => ih.2 _ _ _ ((h9 x10 e10) x11 e11) ((i9 x10 e10) x11 e11))⟩⟩⟩, fun c12 => ⟨((hQ.2 x1 e1).2 c12), ((hR.2 x1 e1).2 c12)⟩⟩⟩
    · intro t li lj hQ hR
      have hQ : wbX1_goUp_1 (wpX1_goUp k) k t li lj Q := hQ
      have hR : wbX1_goUp_1 (wpX1_goUp k) k t li lj R := hR
      show wbX1_goUp_1 (wpX1_goUp k) k t li lj (fun t => Q t ∧ R t)
      unfold wbX1_goUp_1 at hQ hR ⊢
      exact fun x1 e1 => ⟨(hQ x1 e1).1, fun x2 e2 => ⟨((hQ x1 e1).2 x2 e2), ((hR x1 e1).2 x2 e2)⟩⟩
theorem wjX1_goUp {k : Nat} {t : XT} {a1 : Int32} {a2 : Int32} {Q R : XT → Prop} (hQ : wqX1_goUp k t a1 a2 Q) (hR : wqX1_goUp k t a1 a2 R) : wqX1_goUp k t a1 a2 (fun t => Q t ∧ R t) := (wkX1_goUpj Q R k).1 t _ _ hQ hR
theorem wiX1_goUp {k : Nat} {t : XT} {a1 : Int32} {a2 : Int32} {Q R S : XT → Prop} (hQ : wqX1_goUp k t a1 a2 Q) (hR : wqX1_goUp k t a1 a2 R) (f : ∀ t, Q t → R t → S t) : wqX1_goUp k t a1 a2 S := wmX1_goUp (Nat.le_refl k) (fun t h => f t h.1 h.2) (wjX1_goUp hQ hR)
set_option maxHeartbeats 4000000 in
set_option maxRecDepth 100000 in
theorem wkX1_pourj (Q R : XT → Prop) : ∀ k : Nat, (∀ (t : XT) (li : Nat → Int32) (lj : Nat → Int64), wpX1_pour k 0 t li lj Q → wpX1_pour k 0 t li lj R → wpX1_pour k 0 t li lj (fun t => Q t ∧ R t)) ∧ (∀ (t : XT) (li : Nat → Int32) (lj : Nat → Int64), wpX1_pour k 1 t li lj Q → wpX1_pour k 1 t li lj R → wpX1_pour k 1 t li lj (fun t => Q t ∧ R t)) ∧ (∀ (t : XT) (li : Nat → Int32) (lj : Nat → Int64), wpX1_pour k 2 t li lj Q → wpX1_pour k 2 t li lj R → wpX1_pour k 2 t li lj (fun t => Q t ∧ R t)) ∧ (∀ (t : XT) (li : Nat → Int32) (lj : Nat → Int64), wpX1_pour k 3 t li lj Q → wpX1_pour k 3 t li lj R → wpX1_pour k 3 t li lj (fun t => Q t ∧ R t)) := by
  intro k
  induction k with
  | zero => exact ⟨fun _ _ _ hR _ => False.elim hR, fun _ _ _ hR _ => False.elim hR, fun _ _ _ hR _ => False.elim hR, fun _ _ _ hR _ => False.elim hR⟩
  | succ k ih =>
    refine ⟨?_, ?_, ?_, ?_⟩
    · intro t li lj hQ hR
      have hQ : wbX1_pour_0 (wpX1_pour k) k t li lj Q := hQ
      have hR : wbX1_pour_0 (wpX1_pour k) k t li lj R := hR
      show wbX1_pour_0 (wpX1_pour k) k t li lj (fun t => Q t ∧ R t)
      unfold wbX1_pour_0 at hQ hR ⊢
      exact fun x1 e1 => ih.2.1 _ _ _ (hQ x1 e1) (hR x1 e1)
    · intro t li lj hQ hR
      have hQ : wbX1_pour_1 (wpX1_pour k) k t li lj Q := hQ
      have hR : wbX1_pour_1 (wpX1_pour k) k t li lj R := hR
      show wbX1_pour_1 (wpX1_pour k) k t li lj (fun t => Q t ∧ R t)
      unfold wbX1_pour_1 at hQ hR ⊢
      exact ⟨fun c1 => ⟨(hQ.1 c1), (hR.1 c1)⟩, fun c2 => ⟨(hQ.2 c2).1, fun x3 e3 => ⟨((hQ.2 c2).2 x3 e3).1, fun x4 e4 => fun x5 e5 => ⟨fun c6 => ih.2.2.1 _ _ _ (((((hQ.2 c2).2 x3 e3).2 x4 e4) x5 e5).1 c6) (((((hR.2 c2).2 x3 e3).2 x4 e4) x5 e5).1 c6), fun c7 => ⟨(((((hQ.2 c2).2 x3 e3).2 x4 e4) x5 e5).2 c7).1, fun x8 e8 => ⟨fun c9 => ih.2.2.1 _ _ _ (((((((hQ.2 c2).2 x3 e3).2 x4 e4) x5 e5).2 c7).2 x8 e8).1 c9) (((((((hR.2 c2).2 x3 e3).2 x4 e4) x5 e5).2 c7).2 x8 e8).1 c9), fun c10 => wiX1_goDown (((((((hQ.2 c2).2 x3 e3).2 x4 e4) x5 e5).2 c7).2 x8 e8).2 c10) (((((((hR.2 c2).2 x3 e3).2 x4 e4) x5 e5).2 c7).2 x8 e8).2 c10) (fun y11_0 h11 i11 => ih.2.2.2 _ _ _ h11 i11)⟩⟩⟩⟩⟩⟩
    · intro t li lj hQ hR
      have hQ : wbX1_pour_2 (wpX1_pour k) k t li lj Q := hQ
      have hR : wbX1_pour_2 (wpX1_pour k) k t li lj R := hR
      show wbX1_pour_2 (wpX1_pour k) k t li lj (fun t => Q t ∧ R t)
      unfold wbX1_pour_2 at hQ hR ⊢
      exact ⟨hQ.1, fun x1 e1 => fun x2 e2 => ⟨fun c3 => ih.2.2.2 _ _ _ (((hQ.2 x1 e1) x2 e2).1 c3) (((hR.2 x1 e1) x2 e2).1 c3), fun c4 => ⟨(((hQ.2 x1 e1) x2 e2).2 c4).1, fun x5 e5 => fun x6 e6 => ⟨fun c7 => ih.2.2.2 _ _ _ ((((((hQ.2 x1 e1) x2 e2).2 c4).2 x5 e5) x6 e6).1 c7) ((((((hR.2 x1 e1) x2 e2).2 c4).2 x5 e5) x6 e6).1 c7), fun c8 => wiX1_goUp ((((((hQ.2 x1 e1) x2 e2).2 c4).2 x5 e5) x6 e6).2 c8) ((((((hR.2 x1 e1) x2 e2).2 c4).2 x5 e5) x6 e6).2 c8) (fun y9_0 h9 i9 => ih.2.2.2 _ _ _ h9 i9)⟩⟩⟩⟩
    · intro t li lj hQ hR
      have hQ : wbX1_pour_3 (wpX1_pour k) k t li lj Q := hQ
      have hR : wbX1_pour_3 (wpX1_pour k) k t li lj R := hR
      show wbX1_pour_3 (wpX1_pour k) k t li lj (fun t => Q t ∧ R t)
      unfold wbX1_pour_3 at hQ hR ⊢
      exact fun x1 e1 => ih.2.1 _ _ _ (hQ x1 e1) (hR x1 e1)
theorem wjX1_pour {k : Nat} {t : XT} {a1 : Int32} {a2 : Int32} {Q R : XT → Prop} (hQ : wqX1_pour k t a1 a2 Q) (hR : wqX1_pour k t a1 a2 R) : wqX1_pour k t a1 a2 (fun t => Q t ∧ R t) := (wkX1_pourj Q R k).1 t _ _ hQ hR
theorem wiX1_pour {k : Nat} {t : XT} {a1 : Int32} {a2 : Int32} {Q R S : XT → Prop} (hQ : wqX1_pour k t a1 a2 Q) (hR : wqX1_pour k t a1 a2 R) (f : ∀ t, Q t → R t → S t) : wqX1_pour k t a1 a2 S := wmX1_pour (Nat.le_refl k) (fun t h => f t h.1 h.2) (wjX1_pour hQ hR)
set_option maxHeartbeats 4000000 in
set_option maxRecDepth 100000 in
theorem wkX11_incidencej (Q R : Int64 → XT → Prop) : ∀ k : Nat, (∀ (t : XT) (li : Nat → Int32) (lj : Nat → Int64), wpX11_incidence k 0 t li lj Q → wpX11_incidence k 0 t li lj R → wpX11_incidence k 0 t li lj (fun r t => Q r t ∧ R r t)) := by
  intro k
  induction k with
  | zero => exact fun _ _ _ hR _ => False.elim hR
  | succ k ih =>
    intro t li lj hQ hR
    have hQ : wbX11_incidence_0 (wpX11_incidence k) k t li lj Q := hQ
    have hR : wbX11_incidence_0 (wpX11_incidence k) k t li lj R := hR
    show wbX11_incidence_0 (wpX11_incidence k) k t li lj (fun r t => Q r t ∧ R r t)
    unfold wbX11_incidence_0 at hQ hR ⊢
    exact wiX11_areEnds hQ hR (fun y1_0 y1_1 h1 i1 => ⟨fun c2 => wiX1_start (h1.1 c2) (i1.1 c2) (fun y3_0 h3 i3 => ⟨h3.1, fun x4 e4 => wiX1_pour (h3.2 x4 e4) (i3.2 x4 e4) (fun y5_0 h5 i5 => ⟨h5.1, fun x6 e6 => ⟨(h5.2 x6 e6), (i5.2 x6 e6)⟩⟩)⟩), fun c7 => ⟨(h1.2 c7), (i1.2 c7)⟩⟩)
theorem wjX11_incidence {k : Nat} {t : XT} {a1 : Int32} {a2 : Int32} {Q R : Int64 → XT → Prop} (hQ : wqX11_incidence k t a1 a2 Q) (hR : wqX11_incidence k t a1 a2 R) : wqX11_incidence k t a1 a2 (fun r t => Q r t ∧ R r t) := (wkX11_incidencej Q R k) t _ _ hQ hR
theorem wiX11_incidence {k : Nat} {t : XT} {a1 : Int32} {a2 : Int32} {Q R S : Int64 → XT → Prop} (hQ : wqX11_incidence k t a1 a2 Q) (hR : wqX11_incidence k t a1 a2 R) (f : ∀ r t, Q r t → R r t → S r t) : wqX11_incidence k t a1 a2 S := wmX11_incidence (Nat.le_refl k) (fun r t h => f r t h.1 h.2) (wjX11_incidence hQ hR)
set_option maxHeartbeats 4000000 in
set_option maxRecDepth 100000 in
theorem wkX11_chainj (Q R : Int64 → XT → Prop) : ∀ k : Nat, (∀ (t : XT) (li : Nat → Int32) (lj : Nat → Int64), wpX11_chain k 0 t li lj Q → wpX11_chain k 0 t li lj R → wpX11_chain k 0 t li lj (fun r t => Q r t ∧ R r t)) ∧ (∀ (t : XT) (li : Nat → Int32) (lj : Nat → Int64), wpX11_chain k 1 t li lj Q → wpX11_chain k 1 t li lj R → wpX11_chain k 1 t li lj (fun r t => Q r t ∧ R r t)) := by
  intro k
  induction k with
  | zero => exact ⟨fun _ _ _ hR _ => False.elim hR, fun _ _ _ hR _ => False.elim hR⟩
  | succ k ih =>
    refine ⟨?_, ?_⟩
    · intro t li lj hQ hR
      have hQ : wbX11_chain_0 (wpX11_chain k) k t li lj Q := hQ
      have hR : wbX11_chain_0 (wpX11_chain k) k t li lj R := hR
      show wbX11_chain_0 (wpX11_chain k) k t li lj (fun r t => Q r t ∧ R r t)
      unfold wbX11_chain_0 at hQ hR ⊢
      exact wiX11_isThere hQ hR (fun y1_0 y1_1 h1 i1 => ⟨fun c2 => ih.2 _ _ _ (h1.1 c2) (i1.1 c2), fun c3 => wiX11_isThere (h1.2 c3) (i1.2 c3) (fun y4_0 y4_1 h4 i4 => ⟨fun c5 => ih.2 _ _ _ (h4.1 c5) (i4.1 c5), fun c6 => wiX6_isCritical (h4.2 c6) (i4.2 c6) (fun y7_0 y7_1 h7 i7 => ⟨fun c8 => ⟨(h7.1 c8).1, fun x9 e9 => ⟨((h7.1 c8).2 x9 e9).1, fun x10 e10 => ⟨fun c11 => wiX1_start ((((h7.1 c8).2 x9 e9).2 x10 e10).1 c11) ((((i7.1 c8).2 x9 e9).2 x10 e10).1 c11) (fun y12_0 h12 i12 => ⟨h12.1, fun x13 e13 => wiX1_pour (h12.2 x13 e13) (i12.2 x13 e13) (fun y14_0 h14 i14 => ⟨h14.1, fun x15 e15 => ⟨(h14.2 x15 e15), (i14.2 x15 e15)⟩⟩)⟩), fun c16 => ⟨((((h7.1 c8).2 x9 e9).2 x10 e10).2 c16), ((((i7.1 c8).2 x9 e9).2 x10 e10).2 c16)⟩⟩⟩⟩, fun c17 => ih.2 _ _ _ (h7.2 c17) (i7.2 c17)⟩)⟩)⟩)
    · intro t li lj hQ hR
      have hQ : wbX11_chain_1 (wpX11_chain k) k t li lj Q := hQ
      have hR : wbX11_chain_1 (wpX11_chain k) k t li lj R := hR
      show wbX11_chain_1 (wpX11_chain k) k t li lj (fun r t => Q r t ∧ R r t)
      unfold wbX11_chain_1 at hQ hR ⊢
      exact ⟨hQ, hR⟩
theorem wjX11_chain {k : Nat} {t : XT} {a1 : Int32} {a2 : Int32} {Q R : Int64 → XT → Prop} (hQ : wqX11_chain k t a1 a2 Q) (hR : wqX11_chain k t a1 a2 R) : wqX11_chain k t a1 a2 (fun r t => Q r t ∧ R r t) := (wkX11_chainj Q R k).1 t _ _ hQ hR
theorem wiX11_chain {k : Nat} {t : XT} {a1 : Int32} {a2 : Int32} {Q R S : Int64 → XT → Prop} (hQ : wqX11_chain k t a1 a2 Q) (hR : wqX11_chain k t a1 a2 R) (f : ∀ r t, Q r t → R r t → S r t) : wqX11_chain k t a1 a2 S := wmX11_chain (Nat.le_refl k) (fun r t h => f r t h.1 h.2) (wjX11_chain hQ hR)
set_option maxHeartbeats 4000000 in
set_option maxRecDepth 100000 in
theorem wkX11_rootj (Q R : Int32 → XT → Prop) : ∀ k : Nat, (∀ (t : XT) (li : Nat → Int32) (lj : Nat → Int64), wpX11_root k 0 t li lj Q → wpX11_root k 0 t li lj R → wpX11_root k 0 t li lj (fun r t => Q r t ∧ R r t)) ∧ (∀ (t : XT) (li : Nat → Int32) (lj : Nat → Int64), wpX11_root k 1 t li lj Q → wpX11_root k 1 t li lj R → wpX11_root k 1 t li lj (fun r t => Q r t ∧ R r t)) ∧ (∀ (t : XT) (li : Nat → Int32) (lj : Nat → Int64), wpX11_root k 2 t li lj Q → wpX11_root k 2 t li lj R → wpX11_root k 2 t li lj (fun r t => Q r t ∧ R r t)) ∧ (∀ (t : XT) (li : Nat → Int32) (lj : Nat → Int64), wpX11_root k 3 t li lj Q → wpX11_root k 3 t li lj R → wpX11_root k 3 t li lj (fun r t => Q r t ∧ R r t)) := by
  intro k
  induction k with
  | zero => exact ⟨fun _ _ _ hR _ => False.elim hR, fun _ _ _ hR _ => False.elim hR, fun _ _ _ hR _ => False.elim hR, fun _ _ _ hR _ => False.elim hR⟩
  | succ k ih =>
    refine ⟨?_, ?_, ?_, ?_⟩
    · intro t li lj hQ hR
      have hQ : wbX11_root_0 (wpX11_root k) k t li lj Q := hQ
      have hR : wbX11_root_0 (wpX11_root k) k t li lj R := hR
      show wbX11_root_0 (wpX11_root k) k t li lj (fun r t => Q r t ∧ R r t)
      unfold wbX11_root_0 at hQ hR ⊢
      exact wiX11_isThere hQ hR (fun y1_0 y1_1 h1 i1 => ⟨fun c2 => ih.2.1 _ _ _ (h1.1 c2) (i1.1 c2), fun c3 => ⟨(h1.2 c3).1, fun x4 e4 => ⟨fun c5 => ih.2.1 _ _ _ (((h1.2 c3).2 x4 e4).1 c5) (((i1.2 c3).2 x4 e4).1 c5), fun c6 => ⟨fun c7 => ih.2.1 _ _ _ ((((h1.2 c3).2 x4 e4).2 c6).1 c7) ((((i1.2 c3).2 x4 e4).2 c6).1 c7), fun c8 => ⟨fun c9 => ih.2.2.1 _ _ _ (((((h1.2 c3).2 x4 e4).2 c6).2 c8).1 c9) (((((i1.2 c3).2 x4 e4).2 c6).2 c8).1 c9), fun c10 => ih.2.1 _ _ _ (((((h1.2 c3).2 x4 e4).2 c6).2 c8).2 c10) (((((i1.2 c3).2 x4 e4).2 c6).2 c8).2 c10)⟩⟩⟩⟩⟩)
    · intro t li lj hQ hR
      have hQ : wbX11_root_1 (wpX11_root k) k t li lj Q := hQ
      have hR : wbX11_root_1 (wpX11_root k) k t li lj R := hR
      show wbX11_root_1 (wpX11_root k) k t li lj (fun r t => Q r t ∧ R r t)
      unfold wbX11_root_1 at hQ hR ⊢
      exact ⟨hQ, hR⟩
    · intro t li lj hQ hR
      have hQ : wbX11_root_2 (wpX11_root k) k t li lj Q := hQ
      have hR : wbX11_root_2 (wpX11_root k) k t li lj R := hR
      show wbX11_root_2 (wpX11_root k) k t li lj (fun r t => Q r t ∧ R r t)
      unfold wbX11_root_2 at hQ hR ⊢
      exact ⟨fun c1 => ih.2.2.2 _ _ _ (hQ.1 c1) (hR.1 c1), fun c2 => ⟨(hQ.2 c2).1, fun x3 e3 => ⟨fun c4 => ih.2.2.2 _ _ _ (((hQ.2 c2).2 x3 e3).1 c4) (((hR.2 c2).2 x3 e3).1 c4), fun c5 => ⟨(((hQ.2 c2).2 x3 e3).2 c5).1, fun x6 e6 => ⟨((((hQ.2 c2).2 x3 e3).2 c5).2 x6 e6).1, fun x7 e7 => wiX11_bit (((((hQ.2 c2).2 x3 e3).2 c5).2 x6 e6).2 x7 e7) (((((hR.2 c2).2 x3 e3).2 c5).2 x6 e6).2 x7 e7) (fun y8_0 h8 i8 => fun x9 e9 => fun x10 e10 => wiX11_lowest ((h8 x9 e9) x10 e10) ((i8 x9 e9) x10 e10) (fun y11_0 h11 i11 => fun x12 e12 => fun x13 e13 => ih.2.2.1 _ _ _ ((h11 x12 e12) x13 e13) ((i11 x12 e12) x13 e13)))⟩⟩⟩⟩⟩
    · intro t li lj hQ hR
      have hQ : wbX11_root_3 (wpX11_root k) k t li lj Q := hQ
      have hR : wbX11_root_3 (wpX11_root k) k t li lj R := hR
      show wbX11_root_3 (wpX11_root k) k t li lj (fun r t => Q r t ∧ R r t)
      unfold wbX11_root_3 at hQ hR ⊢
      exact ⟨fun c1 => ⟨(hQ.1 c1), (hR.1 c1)⟩, fun c2 => ⟨(hQ.2 c2), (hR.2 c2)⟩⟩
theorem wjX11_root {k : Nat} {t : XT} {a1 : Int32} {a2 : Int32} {Q R : Int32 → XT → Prop} (hQ : wqX11_root k t a1 a2 Q) (hR : wqX11_root k t a1 a2 R) : wqX11_root k t a1 a2 (fun r t => Q r t ∧ R r t) := (wkX11_rootj Q R k).1 t _ _ hQ hR
theorem wiX11_root {k : Nat} {t : XT} {a1 : Int32} {a2 : Int32} {Q R S : Int32 → XT → Prop} (hQ : wqX11_root k t a1 a2 Q) (hR : wqX11_root k t a1 a2 R) (f : ∀ r t, Q r t → R r t → S r t) : wqX11_root k t a1 a2 S := wmX11_root (Nat.le_refl k) (fun r t h => f r t h.1 h.2) (wjX11_root hQ hR)
set_option maxHeartbeats 4000000 in
set_option maxRecDepth 100000 in
theorem wkX11_throughj (Q R : Int64 → XT → Prop) : ∀ k : Nat, (∀ (t : XT) (li : Nat → Int32) (lj : Nat → Int64), wpX11_through k 0 t li lj Q → wpX11_through k 0 t li lj R → wpX11_through k 0 t li lj (fun r t => Q r t ∧ R r t)) ∧ (∀ (t : XT) (li : Nat → Int32) (lj : Nat → Int64), wpX11_through k 1 t li lj Q → wpX11_through k 1 t li lj R → wpX11_through k 1 t li lj (fun r t => Q r t ∧ R r t)) := by
  intro k
  induction k with
  | zero => exact ⟨fun _ _ _ hR _ => False.elim hR, fun _ _ _ hR _ => False.elim hR⟩
  | succ k ih =>
    refine ⟨?_, ?_⟩
    · intro t li lj hQ hR
      have hQ : wbX11_through_0 (wpX11_through k) k t li lj Q := hQ
      have hR : wbX11_through_0 (wpX11_through k) k t li lj R := hR
      show wbX11_through_0 (wpX11_through k) k t li lj (fun r t => Q r t ∧ R r t)
      unfold wbX11_through_0 at hQ hR ⊢
      exact wiX11_areEnds hQ hR (fun y1_0 y1_1 h1 i1 => ⟨fun c2 => ih.2 _ _ _ (h1.1 c2) (i1.1 c2), fun c3 => wiX11_isThere (h1.2 c3) (i1.2 c3) (fun y4_0 y4_1 h4 i4 => ⟨fun c5 => wiX1_start (h4.1 c5) (i4.1 c5) (fun y6_0 h6 i6 => ⟨h6.1, fun x7 e7 => wiX1_pour (h6.2 x7 e7) (i6.2 x7 e7) (fun y8_0 h8 i8 => wiX1_countWays h8 i8 (fun y9_0 y9_1 h9 i9 => ⟨h9.1, fun x10 e10 => ⟨(h9.2 x10 e10).1, fun x11 e11 => fun x12 e12 => ⟨(((h9.2 x10 e10).2 x11 e11) x12 e12), (((i9.2 x10 e10).2 x11 e11) x12 e12)⟩⟩⟩))⟩), fun c13 => ih.2 _ _ _ (h4.2 c13) (i4.2 c13)⟩)⟩)
    · intro t li lj hQ hR
      have hQ : wbX11_through_1 (wpX11_through k) k t li lj Q := hQ
      have hR : wbX11_through_1 (wpX11_through k) k t li lj R := hR
      show wbX11_through_1 (wpX11_through k) k t li lj (fun r t => Q r t ∧ R r t)
      unfold wbX11_through_1 at hQ hR ⊢
      exact ⟨hQ, hR⟩
theorem wjX11_through {k : Nat} {t : XT} {a1 : Int32} {a2 : Int32} {a3 : Int32} {Q R : Int64 → XT → Prop} (hQ : wqX11_through k t a1 a2 a3 Q) (hR : wqX11_through k t a1 a2 a3 R) : wqX11_through k t a1 a2 a3 (fun r t => Q r t ∧ R r t) := (wkX11_throughj Q R k).1 t _ _ hQ hR
theorem wiX11_through {k : Nat} {t : XT} {a1 : Int32} {a2 : Int32} {a3 : Int32} {Q R S : Int64 → XT → Prop} (hQ : wqX11_through k t a1 a2 a3 Q) (hR : wqX11_through k t a1 a2 a3 R) (f : ∀ r t, Q r t → R r t → S r t) : wqX11_through k t a1 a2 a3 S := wmX11_through (Nat.le_refl k) (fun r t h => f r t h.1 h.2) (wjX11_through hQ hR)
set_option maxHeartbeats 4000000 in
set_option maxRecDepth 100000 in
theorem wkX1_holdOnlyj (Q R : XT → Prop) : ∀ k : Nat, (∀ (t : XT) (li : Nat → Int32) (lj : Nat → Int64), wpX1_holdOnly k 0 t li lj Q → wpX1_holdOnly k 0 t li lj R → wpX1_holdOnly k 0 t li lj (fun t => Q t ∧ R t)) ∧ (∀ (t : XT) (li : Nat → Int32) (lj : Nat → Int64), wpX1_holdOnly k 1 t li lj Q → wpX1_holdOnly k 1 t li lj R → wpX1_holdOnly k 1 t li lj (fun t => Q t ∧ R t)) ∧ (∀ (t : XT) (li : Nat → Int32) (lj : Nat → Int64), wpX1_holdOnly k 2 t li lj Q → wpX1_holdOnly k 2 t li lj R → wpX1_holdOnly k 2 t li lj (fun t => Q t ∧ R t)) := by
  intro k
  induction k with
  | zero => exact ⟨fun _ _ _ hR _ => False.elim hR, fun _ _ _ hR _ => False.elim hR, fun _ _ _ hR _ => False.elim hR⟩
  | succ k ih =>
    refine ⟨?_, ?_, ?_⟩
    · intro t li lj hQ hR
      have hQ : wbX1_holdOnly_0 (wpX1_holdOnly k) k t li lj Q := hQ
      have hR : wbX1_holdOnly_0 (wpX1_holdOnly k) k t li lj R := hR
      show wbX1_holdOnly_0 (wpX1_holdOnly k) k t li lj (fun t => Q t ∧ R t)
      unfold wbX1_holdOnly_0 at hQ hR ⊢
      exact ih.2.1 _ _ _ hQ hR
    · intro t li lj hQ hR
      have hQ : wbX1_holdOnly_1 (wpX1_holdOnly k) k t li lj Q := hQ
      have hR : wbX1_holdOnly_1 (wpX1_holdOnly k) k t li lj R := hR
      show wbX1_holdOnly_1 (wpX1_holdOnly k) k t li lj (fun t => Q t ∧ R t)
      unfold wbX1_holdOnly_1 at hQ hR ⊢
      exact ⟨fun c1 => ⟨(hQ.1 c1), (hR.1 c1)⟩, fun c2 => wiX11_isIn (hQ.2 c2) (hR.2 c2) (fun y3_0 h3 i3 => ⟨fun c4 => ih.2.2 _ _ _ (h3.1 c4) (i3.1 c4), fun c5 => ⟨(h3.2 c5).1, fun x6 e6 => ih.2.2 _ _ _ ((h3.2 c5).2 x6 e6) ((i3.2 c5).2 x6 e6)⟩⟩)⟩
    · intro t li lj hQ hR
      have hQ : wbX1_holdOnly_2 (wpX1_holdOnly k) k t li lj Q := hQ
      have hR : wbX1_holdOnly_2 (wpX1_holdOnly k) k t li lj R := hR
      show wbX1_holdOnly_2 (wpX1_holdOnly k) k t li lj (fun t => Q t ∧ R t)
      unfold wbX1_holdOnly_2 at hQ hR ⊢
      exact fun x1 e1 => ih.2.1 _ _ _ (hQ x1 e1) (hR x1 e1)
theorem wjX1_holdOnly {k : Nat} {t : XT} {a1 : Int64} {Q R : XT → Prop} (hQ : wqX1_holdOnly k t a1 Q) (hR : wqX1_holdOnly k t a1 R) : wqX1_holdOnly k t a1 (fun t => Q t ∧ R t) := (wkX1_holdOnlyj Q R k).1 t _ _ hQ hR
theorem wiX1_holdOnly {k : Nat} {t : XT} {a1 : Int64} {Q R S : XT → Prop} (hQ : wqX1_holdOnly k t a1 Q) (hR : wqX1_holdOnly k t a1 R) (f : ∀ t, Q t → R t → S t) : wqX1_holdOnly k t a1 S := wmX1_holdOnly (Nat.le_refl k) (fun t h => f t h.1 h.2) (wjX1_holdOnly hQ hR)
set_option maxHeartbeats 4000000 in
set_option maxRecDepth 100000 in
theorem wkX11_squaresFromj (Q R : Int32 → XT → Prop) : ∀ k : Nat, (∀ (t : XT) (li : Nat → Int32) (lj : Nat → Int64), wpX11_squaresFrom k 0 t li lj Q → wpX11_squaresFrom k 0 t li lj R → wpX11_squaresFrom k 0 t li lj (fun r t => Q r t ∧ R r t)) ∧ (∀ (t : XT) (li : Nat → Int32) (lj : Nat → Int64), wpX11_squaresFrom k 1 t li lj Q → wpX11_squaresFrom k 1 t li lj R → wpX11_squaresFrom k 1 t li lj (fun r t => Q r t ∧ R r t)) ∧ (∀ (t : XT) (li : Nat → Int32) (lj : Nat → Int64), wpX11_squaresFrom k 2 t li lj Q → wpX11_squaresFrom k 2 t li lj R → wpX11_squaresFrom k 2 t li lj (fun r t => Q r t ∧ R r t)) := by
  intro k
  induction k with
  | zero => exact ⟨fun _ _ _ hR _ => False.elim hR, fun _ _ _ hR _ => False.elim hR, fun _ _ _ hR _ => False.elim hR⟩
  | succ k ih =>
    refine ⟨?_, ?_, ?_⟩
    · intro t li lj hQ hR
      have hQ : wbX11_squaresFrom_0 (wpX11_squaresFrom k) k t li lj Q := hQ
      have hR : wbX11_squaresFrom_0 (wpX11_squaresFrom k) k t li lj R := hR
      show wbX11_squaresFrom_0 (wpX11_squaresFrom k) k t li lj (fun r t => Q r t ∧ R r t)
      unfold wbX11_squaresFrom_0 at hQ hR ⊢
      exact ⟨hQ.1, fun x1 e1 => ⟨fun c2 => wiX6_unpaired ((hQ.2 x1 e1).1 c2) ((hR.2 x1 e1).1 c2) (fun y3_0 y3_1 h3 i3 => fun x4 e4 => ⟨(h3 x4 e4).1, fun x5 e5 => fun x6 e6 => wiX6_unpaired (((h3 x4 e4).2 x5 e5) x6 e6) (((i3 x4 e4).2 x5 e5) x6 e6) (fun y7_0 y7_1 h7 i7 => fun x8 e8 => ⟨(h7 x8 e8).1, fun x9 e9 => fun x10 e10 => wiX1_start (((h7 x8 e8).2 x9 e9) x10 e10) (((i7 x8 e8).2 x9 e9) x10 e10) (fun y11_0 h11 i11 => wiX1_pour h11 i11 (fun y12_0 h12 i12 => wiX1_holdOnly h12 i12 (fun y13_0 h13 i13 => fun x14 e14 => wiX1_pour (h13 x14 e14) (i13 x14 e14) (fun y15_0 h15 i15 => ih.2.1 _ _ _ h15 i15))))⟩)⟩), fun c16 => ⟨((hQ.2 x1 e1).2 c16), ((hR.2 x1 e1).2 c16)⟩⟩⟩
    · intro t li lj hQ hR
      have hQ : wbX11_squaresFrom_1 (wpX11_squaresFrom k) k t li lj Q := hQ
      have hR : wbX11_squaresFrom_1 (wpX11_squaresFrom k) k t li lj R := hR
      show wbX11_squaresFrom_1 (wpX11_squaresFrom k) k t li lj (fun r t => Q r t ∧ R r t)
      unfold wbX11_squaresFrom_1 at hQ hR ⊢
      exact ⟨fun c1 => ⟨(hQ.1 c1), (hR.1 c1)⟩, fun c2 => wiX11_isIn (hQ.2 c2) (hR.2 c2) (fun y3_0 h3 i3 => ⟨fun c4 => ih.2.2 _ _ _ (h3.1 c4) (i3.1 c4), fun c5 => ⟨(h3.2 c5).1, fun x6 e6 => fun x7 e7 => ⟨fun c8 => ih.2.2 _ _ _ ((((h3.2 c5).2 x6 e6) x7 e7).1 c8) ((((i3.2 c5).2 x6 e6) x7 e7).1 c8), fun c9 => fun x10 e10 => ih.2.2 _ _ _ (((((h3.2 c5).2 x6 e6) x7 e7).2 c9) x10 e10) (((((i3.2 c5).2 x6 e6) x7 e7).2 c9) x10 e10)⟩⟩⟩)⟩
    · intro t li lj hQ hR
      have hQ : wbX11_squaresFrom_2 (wpX11_squaresFrom k) k t li lj Q := hQ
      have hR : wbX11_squaresFrom_2 (wpX11_squaresFrom k) k t li lj R := hR
      show wbX11_squaresFrom_2 (wpX11_squaresFrom k) k t li lj (fun r t => Q r t ∧ R r t)
      unfold wbX11_squaresFrom_2 at hQ hR ⊢
      exact fun x1 e1 => ih.2.1 _ _ _ (hQ x1 e1) (hR x1 e1)
theorem wjX11_squaresFrom {k : Nat} {t : XT} {a1 : Int32} {Q R : Int32 → XT → Prop} (hQ : wqX11_squaresFrom k t a1 Q) (hR : wqX11_squaresFrom k t a1 R) : wqX11_squaresFrom k t a1 (fun r t => Q r t ∧ R r t) := (wkX11_squaresFromj Q R k).1 t _ _ hQ hR
theorem wiX11_squaresFrom {k : Nat} {t : XT} {a1 : Int32} {Q R S : Int32 → XT → Prop} (hQ : wqX11_squaresFrom k t a1 Q) (hR : wqX11_squaresFrom k t a1 R) (f : ∀ r t, Q r t → R r t → S r t) : wqX11_squaresFrom k t a1 S := wmX11_squaresFrom (Nat.le_refl k) (fun r t h => f r t h.1 h.2) (wjX11_squaresFrom hQ hR)
set_option maxHeartbeats 4000000 in
set_option maxRecDepth 100000 in
theorem wkX11_squaresj (Q R : Int32 → XT → Prop) : ∀ k : Nat, (∀ (t : XT) (li : Nat → Int32) (lj : Nat → Int64), wpX11_squares k 0 t li lj Q → wpX11_squares k 0 t li lj R → wpX11_squares k 0 t li lj (fun r t => Q r t ∧ R r t)) ∧ (∀ (t : XT) (li : Nat → Int32) (lj : Nat → Int64), wpX11_squares k 1 t li lj Q → wpX11_squares k 1 t li lj R → wpX11_squares k 1 t li lj (fun r t => Q r t ∧ R r t)) ∧ (∀ (t : XT) (li : Nat → Int32) (lj : Nat → Int64), wpX11_squares k 2 t li lj Q → wpX11_squares k 2 t li lj R → wpX11_squares k 2 t li lj (fun r t => Q r t ∧ R r t)) := by
  intro k
  induction k with
  | zero => exact ⟨fun _ _ _ hR _ => False.elim hR, fun _ _ _ hR _ => False.elim hR, fun _ _ _ hR _ => False.elim hR⟩
  | succ k ih =>
    refine ⟨?_, ?_, ?_⟩
    · intro t li lj hQ hR
      have hQ : wbX11_squares_0 (wpX11_squares k) k t li lj Q := hQ
      have hR : wbX11_squares_0 (wpX11_squares k) k t li lj R := hR
      show wbX11_squares_0 (wpX11_squares k) k t li lj (fun r t => Q r t ∧ R r t)
      unfold wbX11_squares_0 at hQ hR ⊢
      exact wiX6_unpaired hQ hR (fun y1_0 y1_1 h1 i1 => ih.2.1 _ _ _ h1 i1)
    · intro t li lj hQ hR
      have hQ : wbX11_squares_1 (wpX11_squares k) k t li lj Q := hQ
      have hR : wbX11_squares_1 (wpX11_squares k) k t li lj R := hR
      show wbX11_squares_1 (wpX11_squares k) k t li lj (fun r t => Q r t ∧ R r t)
      unfold wbX11_squares_1 at hQ hR ⊢
      exact ⟨fun c1 => ⟨(hQ.1 c1), (hR.1 c1)⟩, fun c2 => wiX11_isIn (hQ.2 c2) (hR.2 c2) (fun y3_0 h3 i3 => ⟨fun c4 => ih.2.2 _ _ _ (h3.1 c4) (i3.1 c4), fun c5 => ⟨(h3.2 c5).1, fun x6 e6 => ⟨fun c7 => ih.2.2 _ _ _ (((h3.2 c5).2 x6 e6).1 c7) (((i3.2 c5).2 x6 e6).1 c7), fun c8 => wiX11_squaresFrom (((h3.2 c5).2 x6 e6).2 c8) (((i3.2 c5).2 x6 e6).2 c8) (fun y9_0 y9_1 h9 i9 => fun x10 e10 => ih.2.2 _ _ _ (h9 x10 e10) (i9 x10 e10))⟩⟩⟩)⟩
    · intro t li lj hQ hR
      have hQ : wbX11_squares_2 (wpX11_squares k) k t li lj Q := hQ
      have hR : wbX11_squares_2 (wpX11_squares k) k t li lj R := hR
      show wbX11_squares_2 (wpX11_squares k) k t li lj (fun r t => Q r t ∧ R r t)
      unfold wbX11_squares_2 at hQ hR ⊢
      exact fun x1 e1 => ih.2.1 _ _ _ (hQ x1 e1) (hR x1 e1)
theorem wjX11_squares {k : Nat} {t : XT}  {Q R : Int32 → XT → Prop} (hQ : wqX11_squares k t  Q) (hR : wqX11_squares k t  R) : wqX11_squares k t  (fun r t => Q r t ∧ R r t) := (wkX11_squaresj Q R k).1 t _ _ hQ hR
theorem wiX11_squares {k : Nat} {t : XT}  {Q R S : Int32 → XT → Prop} (hQ : wqX11_squares k t  Q) (hR : wqX11_squares k t  R) (f : ∀ r t, Q r t → R r t → S r t) : wqX11_squares k t  S := wmX11_squares (Nat.le_refl k) (fun r t h => f r t h.1 h.2) (wjX11_squares hQ hR)
set_option maxHeartbeats 4000000 in
set_option maxRecDepth 100000 in
theorem wkX11_basisj (Q R : Int64 → XT → Prop) : ∀ k : Nat, (∀ (t : XT) (li : Nat → Int32) (lj : Nat → Int64), wpX11_basis k 0 t li lj Q → wpX11_basis k 0 t li lj R → wpX11_basis k 0 t li lj (fun r t => Q r t ∧ R r t)) := by
  intro k
  induction k with
  | zero => exact fun _ _ _ hR _ => False.elim hR
  | succ k ih =>
    intro t li lj hQ hR
    have hQ : wbX11_basis_0 (wpX11_basis k) k t li lj Q := hQ
    have hR : wbX11_basis_0 (wpX11_basis k) k t li lj R := hR
    show wbX11_basis_0 (wpX11_basis k) k t li lj (fun r t => Q r t ∧ R r t)
    unfold wbX11_basis_0 at hQ hR ⊢
    exact ⟨fun c1 => ⟨(hQ.1 c1), (hR.1 c1)⟩, fun c2 => wiX6_unpaired (hQ.2 c2) (hR.2 c2) (fun y3_0 y3_1 h3 i3 => ⟨h3, i3⟩)⟩
theorem wjX11_basis {k : Nat} {t : XT} {a1 : Int32} {Q R : Int64 → XT → Prop} (hQ : wqX11_basis k t a1 Q) (hR : wqX11_basis k t a1 R) : wqX11_basis k t a1 (fun r t => Q r t ∧ R r t) := (wkX11_basisj Q R k) t _ _ hQ hR
theorem wiX11_basis {k : Nat} {t : XT} {a1 : Int32} {Q R S : Int64 → XT → Prop} (hQ : wqX11_basis k t a1 Q) (hR : wqX11_basis k t a1 R) (f : ∀ r t, Q r t → R r t → S r t) : wqX11_basis k t a1 S := wmX11_basis (Nat.le_refl k) (fun r t h => f r t h.1 h.2) (wjX11_basis hQ hR)
set_option maxHeartbeats 4000000 in
set_option maxRecDepth 100000 in
theorem wkX5_resizej (Q R : XT → Prop) : ∀ k : Nat, (∀ (t : XT) (li : Nat → Int32) (lj : Nat → Int64), wpX5_resize k 0 t li lj Q → wpX5_resize k 0 t li lj R → wpX5_resize k 0 t li lj (fun t => Q t ∧ R t)) ∧ (∀ (t : XT) (li : Nat → Int32) (lj : Nat → Int64), wpX5_resize k 1 t li lj Q → wpX5_resize k 1 t li lj R → wpX5_resize k 1 t li lj (fun t => Q t ∧ R t)) ∧ (∀ (t : XT) (li : Nat → Int32) (lj : Nat → Int64), wpX5_resize k 2 t li lj Q → wpX5_resize k 2 t li lj R → wpX5_resize k 2 t li lj (fun t => Q t ∧ R t)) ∧ (∀ (t : XT) (li : Nat → Int32) (lj : Nat → Int64), wpX5_resize k 3 t li lj Q → wpX5_resize k 3 t li lj R → wpX5_resize k 3 t li lj (fun t => Q t ∧ R t)) ∧ (∀ (t : XT) (li : Nat → Int32) (lj : Nat → Int64), wpX5_resize k 4 t li lj Q → wpX5_resize k 4 t li lj R → wpX5_resize k 4 t li lj (fun t => Q t ∧ R t)) := by
  intro k
  induction k with
  | zero => exact ⟨fun _ _ _ hR _ => False.elim hR, fun _ _ _ hR _ => False.elim hR, fun _ _ _ hR _ => False.elim hR, fun _ _ _ hR _ => False.elim hR, fun _ _ _ hR _ => False.elim hR⟩
  | succ k ih =>
    refine ⟨?_, ?_, ?_, ?_, ?_⟩
    · intro t li lj hQ hR
      have hQ : wbX5_resize_0 (wpX5_resize k) k t li lj Q := hQ
      have hR : wbX5_resize_0 (wpX5_resize k) k t li lj R := hR
      show wbX5_resize_0 (wpX5_resize k) k t li lj (fun t => Q t ∧ R t)
      unfold wbX5_resize_0 at hQ hR ⊢
      exact ⟨fun c1 => ih.2.1 _ _ _ (hQ.1 c1) (hR.1 c1), fun c2 => ⟨fun c3 => ih.2.1 _ _ _ ((hQ.2 c2).1 c3) ((hR.2 c2).1 c3), fun c4 => ⟨fun c5 => ih.2.1 _ _ _ (((hQ.2 c2).2 c4).1 c5) (((hR.2 c2).2 c4).1 c5), fun c6 => ⟨fun c7 => ih.2.1 _ _ _ ((((hQ.2 c2).2 c4).2 c6).1 c7) ((((hR.2 c2).2 c4).2 c6).1 c7), fun c8 => fun x9 e9 => ⟨fun c10 => ih.2.1 _ _ _ ((((((hQ.2 c2).2 c4).2 c6).2 c8) x9 e9).1 c10) ((((((hR.2 c2).2 c4).2 c6).2 c8) x9 e9).1 c10), fun c11 => ih.2.2.1 _ _ _ ((((((hQ.2 c2).2 c4).2 c6).2 c8) x9 e9).2 c11) ((((((hR.2 c2).2 c4).2 c6).2 c8) x9 e9).2 c11)⟩⟩⟩⟩⟩
    · intro t li lj hQ hR
      have hQ : wbX5_resize_1 (wpX5_resize k) k t li lj Q := hQ
      have hR : wbX5_resize_1 (wpX5_resize k) k t li lj R := hR
      show wbX5_resize_1 (wpX5_resize k) k t li lj (fun t => Q t ∧ R t)
      unfold wbX5_resize_1 at hQ hR ⊢
      exact ih.2.2.1 _ _ _ hQ hR
    · intro t li lj hQ hR
      have hQ : wbX5_resize_2 (wpX5_resize k) k t li lj Q := hQ
      have hR : wbX5_resize_2 (wpX5_resize k) k t li lj R := hR
      show wbX5_resize_2 (wpX5_resize k) k t li lj (fun t => Q t ∧ R t)
      unfold wbX5_resize_2 at hQ hR ⊢
      exact ⟨fun c1 => ih.2.2.2.1 _ _ _ (hQ.1 c1) (hR.1 c1), fun c2 => ih.2.2.2.1 _ _ _ (hQ.2 c2) (hR.2 c2)⟩
    · intro t li lj hQ hR
      have hQ : wbX5_resize_3 (wpX5_resize k) k t li lj Q := hQ
      have hR : wbX5_resize_3 (wpX5_resize k) k t li lj R := hR
      show wbX5_resize_3 (wpX5_resize k) k t li lj (fun t => Q t ∧ R t)
      unfold wbX5_resize_3 at hQ hR ⊢
      exact fun x1 e1 => ⟨fun c2 => ih.2.2.2.2 _ _ _ ((hQ x1 e1).1 c2) ((hR x1 e1).1 c2), fun c3 => ih.2.2.2.2 _ _ _ ((hQ x1 e1).2 c3) ((hR x1 e1).2 c3)⟩
    · intro t li lj hQ hR
      have hQ : wbX5_resize_4 (wpX5_resize k) k t li lj Q := hQ
      have hR : wbX5_resize_4 (wpX5_resize k) k t li lj R := hR
      show wbX5_resize_4 (wpX5_resize k) k t li lj (fun t => Q t ∧ R t)
      unfold wbX5_resize_4 at hQ hR ⊢
      exact fun x1 e1 => ⟨(hQ x1 e1), (hR x1 e1)⟩
theorem wjX5_resize {k : Nat} {t : XT} {a1 : Int32} {a2 : Int32} {Q R : XT → Prop} (hQ : wqX5_resize k t a1 a2 Q) (hR : wqX5_resize k t a1 a2 R) : wqX5_resize k t a1 a2 (fun t => Q t ∧ R t) := (wkX5_resizej Q R k).1 t _ _ hQ hR
theorem wiX5_resize {k : Nat} {t : XT} {a1 : Int32} {a2 : Int32} {Q R S : XT → Prop} (hQ : wqX5_resize k t a1 a2 Q) (hR : wqX5_resize k t a1 a2 R) (f : ∀ t, Q t → R t → S t) : wqX5_resize k t a1 a2 S := wmX5_resize (Nat.le_refl k) (fun t h => f t h.1 h.2) (wjX5_resize hQ hR)
set_option maxHeartbeats 4000000 in
set_option maxRecDepth 100000 in
theorem wkX5_putj (Q R : XT → Prop) : ∀ k : Nat, (∀ (t : XT) (li : Nat → Int32) (lj : Nat → Int64), wpX5_put k 0 t li lj Q → wpX5_put k 0 t li lj R → wpX5_put k 0 t li lj (fun t => Q t ∧ R t)) := by
  intro k
  induction k with
  | zero => exact fun _ _ _ hR _ => False.elim hR
  | succ k ih =>
    intro t li lj hQ hR
    have hQ : wbX5_put_0 (wpX5_put k) k t li lj Q := hQ
    have hR : wbX5_put_0 (wpX5_put k) k t li lj R := hR
    show wbX5_put_0 (wpX5_put k) k t li lj (fun t => Q t ∧ R t)
    unfold wbX5_put_0 at hQ hR ⊢
    exact ⟨fun c1 => ⟨(hQ.1 c1), (hR.1 c1)⟩, fun c2 => ⟨fun c3 => ⟨((hQ.2 c2).1 c3), ((hR.2 c2).1 c3)⟩, fun c4 => ⟨fun c5 => ⟨(((hQ.2 c2).2 c4).1 c5), (((hR.2 c2).2 c4).1 c5)⟩, fun c6 => ⟨fun c7 => ⟨((((hQ.2 c2).2 c4).2 c6).1 c7), ((((hR.2 c2).2 c4).2 c6).1 c7)⟩, fun c8 => fun x9 e9 => fun x10 e10 => ⟨((((((hQ.2 c2).2 c4).2 c6).2 c8) x9 e9) x10 e10).1, fun x11 e11 => ⟨(((((((hQ.2 c2).2 c4).2 c6).2 c8) x9 e9) x10 e10).2 x11 e11), (((((((hR.2 c2).2 c4).2 c6).2 c8) x9 e9) x10 e10).2 x11 e11)⟩⟩⟩⟩⟩⟩
theorem wjX5_put {k : Nat} {t : XT} {a1 : Int32} {a2 : Int32} {a3 : Int64} {Q R : XT → Prop} (hQ : wqX5_put k t a1 a2 a3 Q) (hR : wqX5_put k t a1 a2 a3 R) : wqX5_put k t a1 a2 a3 (fun t => Q t ∧ R t) := (wkX5_putj Q R k) t _ _ hQ hR
theorem wiX5_put {k : Nat} {t : XT} {a1 : Int32} {a2 : Int32} {a3 : Int64} {Q R S : XT → Prop} (hQ : wqX5_put k t a1 a2 a3 Q) (hR : wqX5_put k t a1 a2 a3 R) (f : ∀ t, Q t → R t → S t) : wqX5_put k t a1 a2 a3 S := wmX5_put (Nat.le_refl k) (fun t h => f t h.1 h.2) (wjX5_put hQ hR)
set_option maxHeartbeats 4000000 in
set_option maxRecDepth 100000 in
theorem wkX0_fillRowj (Q R : XT → Prop) : ∀ k : Nat, (∀ (t : XT) (li : Nat → Int32) (lj : Nat → Int64), wpX0_fillRow k 0 t li lj Q → wpX0_fillRow k 0 t li lj R → wpX0_fillRow k 0 t li lj (fun t => Q t ∧ R t)) ∧ (∀ (t : XT) (li : Nat → Int32) (lj : Nat → Int64), wpX0_fillRow k 1 t li lj Q → wpX0_fillRow k 1 t li lj R → wpX0_fillRow k 1 t li lj (fun t => Q t ∧ R t)) ∧ (∀ (t : XT) (li : Nat → Int32) (lj : Nat → Int64), wpX0_fillRow k 2 t li lj Q → wpX0_fillRow k 2 t li lj R → wpX0_fillRow k 2 t li lj (fun t => Q t ∧ R t)) ∧ (∀ (t : XT) (li : Nat → Int32) (lj : Nat → Int64), wpX0_fillRow k 3 t li lj Q → wpX0_fillRow k 3 t li lj R → wpX0_fillRow k 3 t li lj (fun t => Q t ∧ R t)) := by
  intro k
  induction k with
  | zero => exact ⟨fun _ _ _ hR _ => False.elim hR, fun _ _ _ hR _ => False.elim hR, fun _ _ _ hR _ => False.elim hR, fun _ _ _ hR _ => False.elim hR⟩
  | succ k ih =>
    refine ⟨?_, ?_, ?_, ?_⟩
    · intro t li lj hQ hR
      have hQ : wbX0_fillRow_0 (wpX0_fillRow k) k t li lj Q := hQ
      have hR : wbX0_fillRow_0 (wpX0_fillRow k) k t li lj R := hR
      show wbX0_fillRow_0 (wpX0_fillRow k) k t li lj (fun t => Q t ∧ R t)
      unfold wbX0_fillRow_0 at hQ hR ⊢
      exact ih.2.1 _ _ _ hQ hR
    · intro t li lj hQ hR
      have hQ : wbX0_fillRow_1 (wpX0_fillRow k) k t li lj Q := hQ
      have hR : wbX0_fillRow_1 (wpX0_fillRow k) k t li lj R := hR
      show wbX0_fillRow_1 (wpX0_fillRow k) k t li lj (fun t => Q t ∧ R t)
      unfold wbX0_fillRow_1 at hQ hR ⊢
      exact ⟨fun c1 => ⟨(hQ.1 c1), (hR.1 c1)⟩, fun c2 => wiX11_isIn (hQ.2 c2) (hR.2 c2) (fun y3_0 h3 i3 => ⟨fun c4 => ih.2.2.2 _ _ _ (h3.1 c4) (i3.1 c4), fun c5 => ⟨fun c6 => wiX9_signOf ((h3.2 c5).1 c6) ((i3.2 c5).1 c6) (fun y7_0 y7_1 h7 i7 => fun x8 e8 => ih.2.2.1 _ _ _ (h7 x8 e8) (i7 x8 e8)), fun c9 => ⟨((h3.2 c5).2 c9).1, fun x10 e10 => ih.2.2.1 _ _ _ (((h3.2 c5).2 c9).2 x10 e10) (((i3.2 c5).2 c9).2 x10 e10)⟩⟩⟩)⟩
    · intro t li lj hQ hR
      have hQ : wbX0_fillRow_2 (wpX0_fillRow k) k t li lj Q := hQ
      have hR : wbX0_fillRow_2 (wpX0_fillRow k) k t li lj R := hR
      show wbX0_fillRow_2 (wpX0_fillRow k) k t li lj (fun t => Q t ∧ R t)
      unfold wbX0_fillRow_2 at hQ hR ⊢
      exact wiX5_put hQ hR (fun y1_0 h1 i1 => fun x2 e2 => ih.2.2.2 _ _ _ (h1 x2 e2) (i1 x2 e2))
    · intro t li lj hQ hR
      have hQ : wbX0_fillRow_3 (wpX0_fillRow k) k t li lj Q := hQ
      have hR : wbX0_fillRow_3 (wpX0_fillRow k) k t li lj R := hR
      show wbX0_fillRow_3 (wpX0_fillRow k) k t li lj (fun t => Q t ∧ R t)
      unfold wbX0_fillRow_3 at hQ hR ⊢
      exact fun x1 e1 => ih.2.1 _ _ _ (hQ x1 e1) (hR x1 e1)
theorem wjX0_fillRow {k : Nat} {t : XT} {a1 : Int32} {a2 : Int32} {a3 : Int64} {a4 : Int32} {Q R : XT → Prop} (hQ : wqX0_fillRow k t a1 a2 a3 a4 Q) (hR : wqX0_fillRow k t a1 a2 a3 a4 R) : wqX0_fillRow k t a1 a2 a3 a4 (fun t => Q t ∧ R t) := (wkX0_fillRowj Q R k).1 t _ _ hQ hR
theorem wiX0_fillRow {k : Nat} {t : XT} {a1 : Int32} {a2 : Int32} {a3 : Int64} {a4 : Int32} {Q R S : XT → Prop} (hQ : wqX0_fillRow k t a1 a2 a3 a4 Q) (hR : wqX0_fillRow k t a1 a2 a3 a4 R) (f : ∀ t, Q t → R t → S t) : wqX0_fillRow k t a1 a2 a3 a4 S := wmX0_fillRow (Nat.le_refl k) (fun t h => f t h.1 h.2) (wjX0_fillRow hQ hR)
