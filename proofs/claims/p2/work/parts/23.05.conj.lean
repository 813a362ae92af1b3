set_option maxHeartbeats 4000000 in
set_option maxRecDepth 100000 in
theorem wkX4_store_c4j (Q R : XT → Prop) : ∀ k : Nat, (∀ (t : XT) (li : Nat → Int32) (lj : Nat → Int64), wpX4_store_c4 k 0 t li lj Q → wpX4_store_c4 k 0 t li lj R → wpX4_store_c4 k 0 t li lj (fun t => Q t ∧ R t)) := by
  intro k
  induction k with
  | zero => exact fun _ _ _ hR _ => False.elim hR
  | succ k ih =>
    intro t li lj hQ hR
    have hQ : wbX4_store_c4_0 (wpX4_store_c4 k) k t li lj Q := hQ
    have hR : wbX4_store_c4_0 (wpX4_store_c4 k) k t li lj R := hR
    show wbX4_store_c4_0 (wpX4_store_c4 k) k t li lj (fun t => Q t ∧ R t)
    unfold wbX4_store_c4_0 at hQ hR ⊢
    exact fun x1 e1 => ⟨(hQ x1 e1).1, (hQ x1 e1).2.1, (hQ x1 e1).2.2.1, (hQ x1 e1).2.2.2.1, (hQ x1 e1).2.2.2.2.1, fun x2 e2 => wiX11_bit ((hQ x1 e1).2.2.2.2.2 x2 e2) ((hR x1 e1).2.2.2.2.2 x2 e2) (fun y3_0 h3 i3 => fun x4 e4 => fun x5 e5 => ⟨((h3 x4 e4) x5 e5), ((i3 x4 e4) x5 e5)⟩)⟩
theorem wjX4_store_c4 {k : Nat} {t : XT} {a1 : Int32} {Q R : XT → Prop} (hQ : wqX4_store_c4 k t a1 Q) (hR : wqX4_store_c4 k t a1 R) : wqX4_store_c4 k t a1 (fun t => Q t ∧ R t) := (wkX4_store_c4j Q R k) t _ _ hQ hR
theorem wiX4_store_c4 {k : Nat} {t : XT} {a1 : Int32} {Q R S : XT → Prop} (hQ : wqX4_store_c4 k t a1 Q) (hR : wqX4_store_c4 k t a1 R) (f : ∀ t, Q t → R t → S t) : wqX4_store_c4 k t a1 S := wmX4_store_c4 (Nat.le_refl k) (fun t h => f t h.1 h.2) (wjX4_store_c4 hQ hR)
set_option maxHeartbeats 4000000 in
set_option maxRecDepth 100000 in
theorem wkX6_howManyj (Q R : Int32 → XT → Prop) : ∀ k : Nat, (∀ (t : XT) (li : Nat → Int32) (lj : Nat → Int64), wpX6_howMany k 0 t li lj Q → wpX6_howMany k 0 t li lj R → wpX6_howMany k 0 t li lj (fun r t => Q r t ∧ R r t)) := by
  intro k
  induction k with
  | zero => exact fun _ _ _ hR _ => False.elim hR
  | succ k ih =>
    intro t li lj hQ hR
    have hQ : wbX6_howMany_0 (wpX6_howMany k) k t li lj Q := hQ
    have hR : wbX6_howMany_0 (wpX6_howMany k) k t li lj R := hR
    show wbX6_howMany_0 (wpX6_howMany k) k t li lj (fun r t => Q r t ∧ R r t)
    unfold wbX6_howMany_0 at hQ hR ⊢
    exact wiJ13_bitCount_95d88 hQ hR (fun y1_0 h1 i1 => ⟨h1, i1⟩)
theorem wjX6_howMany {k : Nat} {t : XT}  {Q R : Int32 → XT → Prop} (hQ : wqX6_howMany k t  Q) (hR : wqX6_howMany k t  R) : wqX6_howMany k t  (fun r t => Q r t ∧ R r t) := (wkX6_howManyj Q R k) t _ _ hQ hR
theorem wiX6_howMany {k : Nat} {t : XT}  {Q R S : Int32 → XT → Prop} (hQ : wqX6_howMany k t  Q) (hR : wqX6_howMany k t  R) (f : ∀ r t, Q r t → R r t → S r t) : wqX6_howMany k t  S := wmX6_howMany (Nat.le_refl k) (fun r t h => f r t h.1 h.2) (wjX6_howMany hQ hR)
set_option maxHeartbeats 4000000 in
set_option maxRecDepth 100000 in
theorem wkX11_keepj (Q R : Int32 → XT → Prop) : ∀ k : Nat, (∀ (t : XT) (li : Nat → Int32) (lj : Nat → Int64), wpX11_keep k 0 t li lj Q → wpX11_keep k 0 t li lj R → wpX11_keep k 0 t li lj (fun r t => Q r t ∧ R r t)) ∧ (∀ (t : XT) (li : Nat → Int32) (lj : Nat → Int64), wpX11_keep k 1 t li lj Q → wpX11_keep k 1 t li lj R → wpX11_keep k 1 t li lj (fun r t => Q r t ∧ R r t)) := by
  intro k
  induction k with
  | zero => exact ⟨fun _ _ _ hR _ => False.elim hR, fun _ _ _ hR _ => False.elim hR⟩
  | succ k ih =>
    refine ⟨?_, ?_⟩
    · intro t li lj hQ hR
      have hQ : wbX11_keep_0 (wpX11_keep k) k t li lj Q := hQ
      have hR : wbX11_keep_0 (wpX11_keep k) k t li lj R := hR
      show wbX11_keep_0 (wpX11_keep k) k t li lj (fun r t => Q r t ∧ R r t)
      unfold wbX11_keep_0 at hQ hR ⊢
      exact ⟨fun c1 => ih.2 _ _ _ (hQ.1 c1) (hR.1 c1), fun c2 => ⟨fun c3 => ih.2 _ _ _ ((hQ.2 c2).1 c3) ((hR.2 c2).1 c3), fun c4 => ⟨fun c5 => wiX4_store_c4 (((hQ.2 c2).2 c4).1 c5) (((hR.2 c2).2 c4).1 c5) (fun y6_0 h6 i6 => wiX6_howMany h6 i6 (fun y7_0 y7_1 h7 i7 => ⟨h7, i7⟩)), fun c8 => ih.2 _ _ _ (((hQ.2 c2).2 c4).2 c8) (((hR.2 c2).2 c4).2 c8)⟩⟩⟩
    · intro t li lj hQ hR
      have hQ : wbX11_keep_1 (wpX11_keep k) k t li lj Q := hQ
      have hR : wbX11_keep_1 (wpX11_keep k) k t li lj R := hR
      show wbX11_keep_1 (wpX11_keep k) k t li lj (fun r t => Q r t ∧ R r t)
      unfold wbX11_keep_1 at hQ hR ⊢
      exact ⟨hQ, hR⟩
theorem wjX11_keep {k : Nat} {t : XT} {a1 : Int32} {Q R : Int32 → XT → Prop} (hQ : wqX11_keep k t a1 Q) (hR : wqX11_keep k t a1 R) : wqX11_keep k t a1 (fun r t => Q r t ∧ R r t) := (wkX11_keepj Q R k).1 t _ _ hQ hR
theorem wiX11_keep {k : Nat} {t : XT} {a1 : Int32} {Q R S : Int32 → XT → Prop} (hQ : wqX11_keep k t a1 Q) (hR : wqX11_keep k t a1 R) (f : ∀ r t, Q r t → R r t → S r t) : wqX11_keep k t a1 S := wmX11_keep (Nat.le_refl k) (fun r t h => f r t h.1 h.2) (wjX11_keep hQ hR)
set_option maxHeartbeats 4000000 in
set_option maxRecDepth 100000 in
theorem wkX4_shared_c4j (Q R : Int32 → XT → Prop) : ∀ k : Nat, (∀ (t : XT) (li : Nat → Int32) (lj : Nat → Int64), wpX4_shared_c4 k 0 t li lj Q → wpX4_shared_c4 k 0 t li lj R → wpX4_shared_c4 k 0 t li lj (fun r t => Q r t ∧ R r t)) ∧ (∀ (t : XT) (li : Nat → Int32) (lj : Nat → Int64), wpX4_shared_c4 k 1 t li lj Q → wpX4_shared_c4 k 1 t li lj R → wpX4_shared_c4 k 1 t li lj (fun r t => Q r t ∧ R r t)) ∧ (∀ (t : XT) (li : Nat → Int32) (lj : Nat → Int64), wpX4_shared_c4 k 2 t li lj Q → wpX4_shared_c4 k 2 t li lj R → wpX4_shared_c4 k 2 t li lj (fun r t => Q r t ∧ R r t)) := by
  intro k
  induction k with
  | zero => exact ⟨fun _ _ _ hR _ => False.elim hR, fun _ _ _ hR _ => False.elim hR, fun _ _ _ hR _ => False.elim hR⟩
  | succ k ih =>
    refine ⟨?_, ?_, ?_⟩
    · intro t li lj hQ hR
      have hQ : wbX4_shared_c4_0 (wpX4_shared_c4 k) k t li lj Q := hQ
      have hR : wbX4_shared_c4_0 (wpX4_shared_c4 k) k t li lj R := hR
      show wbX4_shared_c4_0 (wpX4_shared_c4 k) k t li lj (fun r t => Q r t ∧ R r t)
      unfold wbX4_shared_c4_0 at hQ hR ⊢
      exact ih.2.1 _ _ _ hQ hR
    · intro t li lj hQ hR
      have hQ : wbX4_shared_c4_1 (wpX4_shared_c4 k) k t li lj Q := hQ
      have hR : wbX4_shared_c4_1 (wpX4_shared_c4 k) k t li lj R := hR
      show wbX4_shared_c4_1 (wpX4_shared_c4 k) k t li lj (fun r t => Q r t ∧ R r t)
      unfold wbX4_shared_c4_1 at hQ hR ⊢
      exact ⟨fun c1 => ⟨(hQ.1 c1), (hR.1 c1)⟩, fun c2 => ⟨(hQ.2 c2).1, fun x3 e3 => ⟨fun c4 => ih.2.2 _ _ _ (((hQ.2 c2).2 x3 e3).1 c4) (((hR.2 c2).2 x3 e3).1 c4), fun c5 => ⟨(((hQ.2 c2).2 x3 e3).2 c5).1, fun x6 e6 => fun x7 e7 => fun x8 e8 => ⟨((((((hQ.2 c2).2 x3 e3).2 c5).2 x6 e6) x7 e7) x8 e8).1, fun x9 e9 => ⟨fun c10 => ih.2.2 _ _ _ ((((((((hQ.2 c2).2 x3 e3).2 c5).2 x6 e6) x7 e7) x8 e8).2 x9 e9).1 c10) ((((((((hR.2 c2).2 x3 e3).2 c5).2 x6 e6) x7 e7) x8 e8).2 x9 e9).1 c10), fun c11 => fun x12 e12 => ih.2.2 _ _ _ (((((((((hQ.2 c2).2 x3 e3).2 c5).2 x6 e6) x7 e7) x8 e8).2 x9 e9).2 c11) x12 e12) (((((((((hR.2 c2).2 x3 e3).2 c5).2 x6 e6) x7 e7) x8 e8).2 x9 e9).2 c11) x12 e12)⟩⟩⟩⟩⟩⟩
    · intro t li lj hQ hR
      have hQ : wbX4_shared_c4_2 (wpX4_shared_c4 k) k t li lj Q := hQ
      have hR : wbX4_shared_c4_2 (wpX4_shared_c4 k) k t li lj R := hR
      show wbX4_shared_c4_2 (wpX4_shared_c4 k) k t li lj (fun r t => Q r t ∧ R r t)
      unfold wbX4_shared_c4_2 at hQ hR ⊢
      exact fun x1 e1 => ih.2.1 _ _ _ (hQ x1 e1) (hR x1 e1)
theorem wjX4_shared_c4 {k : Nat} {t : XT} {a1 : Int32} {Q R : Int32 → XT → Prop} (hQ : wqX4_shared_c4 k t a1 Q) (hR : wqX4_shared_c4 k t a1 R) : wqX4_shared_c4 k t a1 (fun r t => Q r t ∧ R r t) := (wkX4_shared_c4j Q R k).1 t _ _ hQ hR
theorem wiX4_shared_c4 {k : Nat} {t : XT} {a1 : Int32} {Q R S : Int32 → XT → Prop} (hQ : wqX4_shared_c4 k t a1 Q) (hR : wqX4_shared_c4 k t a1 R) (f : ∀ r t, Q r t → R r t → S r t) : wqX4_shared_c4 k t a1 S := wmX4_shared_c4 (Nat.le_refl k) (fun r t h => f r t h.1 h.2) (wjX4_shared_c4 hQ hR)
set_option maxHeartbeats 4000000 in
set_option maxRecDepth 100000 in
theorem wkX11_samej (Q R : Int32 → XT → Prop) : ∀ k : Nat, (∀ (t : XT) (li : Nat → Int32) (lj : Nat → Int64), wpX11_same k 0 t li lj Q → wpX11_same k 0 t li lj R → wpX11_same k 0 t li lj (fun r t => Q r t ∧ R r t)) ∧ (∀ (t : XT) (li : Nat → Int32) (lj : Nat → Int64), wpX11_same k 1 t li lj Q → wpX11_same k 1 t li lj R → wpX11_same k 1 t li lj (fun r t => Q r t ∧ R r t)) := by
  intro k
  induction k with
  | zero => exact ⟨fun _ _ _ hR _ => False.elim hR, fun _ _ _ hR _ => False.elim hR⟩
  | succ k ih =>
    refine ⟨?_, ?_⟩
    · intro t li lj hQ hR
      have hQ : wbX11_same_0 (wpX11_same k) k t li lj Q := hQ
      have hR : wbX11_same_0 (wpX11_same k) k t li lj R := hR
      show wbX11_same_0 (wpX11_same k) k t li lj (fun r t => Q r t ∧ R r t)
      unfold wbX11_same_0 at hQ hR ⊢
      exact ⟨fun c1 => ih.2 _ _ _ (hQ.1 c1) (hR.1 c1), fun c2 => ⟨fun c3 => wiX11_isIn ((hQ.2 c2).1 c3) ((hR.2 c2).1 c3) (fun y4_0 h4 i4 => ⟨fun c5 => wiX4_shared_c4 (h4.1 c5) (i4.1 c5) (fun y6_0 y6_1 h6 i6 => ⟨h6, i6⟩), fun c7 => ⟨(h4.2 c7), (i4.2 c7)⟩⟩), fun c8 => ih.2 _ _ _ ((hQ.2 c2).2 c8) ((hR.2 c2).2 c8)⟩⟩
    · intro t li lj hQ hR
      have hQ : wbX11_same_1 (wpX11_same k) k t li lj Q := hQ
      have hR : wbX11_same_1 (wpX11_same k) k t li lj R := hR
      show wbX11_same_1 (wpX11_same k) k t li lj (fun r t => Q r t ∧ R r t)
      unfold wbX11_same_1 at hQ hR ⊢
      exact ⟨hQ, hR⟩
theorem wjX11_same {k : Nat} {t : XT} {a1 : Int32} {Q R : Int32 → XT → Prop} (hQ : wqX11_same k t a1 Q) (hR : wqX11_same k t a1 R) : wqX11_same k t a1 (fun r t => Q r t ∧ R r t) := (wkX11_samej Q R k).1 t _ _ hQ hR
theorem wiX11_same {k : Nat} {t : XT} {a1 : Int32} {Q R S : Int32 → XT → Prop} (hQ : wqX11_same k t a1 Q) (hR : wqX11_same k t a1 R) (f : ∀ r t, Q r t → R r t → S r t) : wqX11_same k t a1 S := wmX11_same (Nat.le_refl k) (fun r t h => f r t h.1 h.2) (wjX11_same hQ hR)
set_option maxHeartbeats 4000000 in
set_option maxRecDepth 100000 in
theorem wkX9_hangingWithj (Q R : Int64 → XT → Prop) : ∀ k : Nat, (∀ (t : XT) (li : Nat → Int32) (lj : Nat → Int64), wpX9_hangingWith k 0 t li lj Q → wpX9_hangingWith k 0 t li lj R → wpX9_hangingWith k 0 t li lj (fun r t => Q r t ∧ R r t)) ∧ (∀ (t : XT) (li : Nat → Int32) (lj : Nat → Int64), wpX9_hangingWith k 1 t li lj Q → wpX9_hangingWith k 1 t li lj R → wpX9_hangingWith k 1 t li lj (fun r t => Q r t ∧ R r t)) ∧ (∀ (t : XT) (li : Nat → Int32) (lj : Nat → Int64), wpX9_hangingWith k 2 t li lj Q → wpX9_hangingWith k 2 t li lj R → wpX9_hangingWith k 2 t li lj (fun r t => Q r t ∧ R r t)) := by
  intro k
  induction k with
  | zero => exact ⟨fun _ _ _ hR _ => False.elim hR, fun _ _ _ hR _ => False.elim hR, fun _ _ _ hR _ => False.elim hR⟩
  | succ k ih =>
    refine ⟨?_, ?_, ?_⟩
    · intro t li lj hQ hR
      have hQ : wbX9_hangingWith_0 (wpX9_hangingWith k) k t li lj Q := hQ
      have hR : wbX9_hangingWith_0 (wpX9_hangingWith k) k t li lj R := hR
      show wbX9_hangingWith_0 (wpX9_hangingWith k) k t li lj (fun r t => Q r t ∧ R r t)
      unfold wbX9_hangingWith_0 at hQ hR ⊢
      exact wiX11_bit hQ hR (fun y1_0 h1 i1 => ih.2.1 _ _ _ h1 i1)
    · intro t li lj hQ hR
      have hQ : wbX9_hangingWith_1 (wpX9_hangingWith k) k t li lj Q := hQ
      have hR : wbX9_hangingWith_1 (wpX9_hangingWith k) k t li lj R := hR
      show wbX9_hangingWith_1 (wpX9_hangingWith k) k t li lj (fun r t => Q r t ∧ R r t)
      unfold wbX9_hangingWith_1 at hQ hR ⊢
      exact ⟨fun c1 => ih.2.2 _ _ _ (hQ.1 c1) (hR.1 c1), fun c2 => fun x3 e3 => ⟨fun c4 => ih.2.2 _ _ _ (((hQ.2 c2) x3 e3).1 c4) (((hR.2 c2) x3 e3).1 c4), fun c5 => wiX11_lowest (((hQ.2 c2) x3 e3).2 c5) (((hR.2 c2) x3 e3).2 c5) (fun y6_0 h6 i6 => ⟨h6.1, fun x7 e7 => ⟨(h6.2 x7 e7).1, fun x8 e8 => fun x9 e9 => fun x10 e10 => fun x11 e11 => fun x12 e12 => fun x13 e13 => fun x14 e14 => wiX11_bit ((((((((h6.2 x7 e7).2 x8 e8) x9 e9) x10 e10) x11 e11) x12 e12) x13 e13) x14 e14) ((((((((i6.2 x7 e7).2 x8 e8) x9 e9) x10 e10) x11 e11) x12 e12) x13 e13) x14 e14) (fun y15_0 h15 i15 => fun x16 e16 => fun x17 e17 => fun x18 e18 => ih.2.1 _ _ _ (((h15 x16 e16) x17 e17) x18 e18) (((i15 x16 e16) x17 e17) x18 e18))⟩⟩)⟩⟩
    · intro t li lj hQ hR
      have hQ : wbX9_hangingWith_2 (wpX9_hangingWith k) k t li lj Q := hQ
      have hR : wbX9_hangingWith_2 (wpX9_hangingWith k) k t li lj R := hR
      show wbX9_hangingWith_2 (wpX9_hangingWith k) k t li lj (fun r t => Q r t ∧ R r t)
      unfold wbX9_hangingWith_2 at hQ hR ⊢
      exact ⟨hQ, hR⟩
theorem wjX9_hangingWith {k : Nat} {t : XT} {a1 : Int32} {a2 : Int64} {Q R : Int64 → XT → Prop} (hQ : wqX9_hangingWith k t a1 a2 Q) (hR : wqX9_hangingWith k t a1 a2 R) : wqX9_hangingWith k t a1 a2 (fun r t => Q r t ∧ R r t) := (wkX9_hangingWithj Q R k).1 t _ _ hQ hR
theorem wiX9_hangingWith {k : Nat} {t : XT} {a1 : Int32} {a2 : Int64} {Q R S : Int64 → XT → Prop} (hQ : wqX9_hangingWith k t a1 a2 Q) (hR : wqX9_hangingWith k t a1 a2 R) (f : ∀ r t, Q r t → R r t → S r t) : wqX9_hangingWith k t a1 a2 S := wmX9_hangingWith (Nat.le_refl k) (fun r t h => f r t h.1 h.2) (wjX9_hangingWith hQ hR)
set_option maxHeartbeats 4000000 in
set_option maxRecDepth 100000 in
theorem wkX9_partsOfj (Q R : Int32 → XT → Prop) : ∀ k : Nat, (∀ (t : XT) (li : Nat → Int32) (lj : Nat → Int64), wpX9_partsOf k 0 t li lj Q → wpX9_partsOf k 0 t li lj R → wpX9_partsOf k 0 t li lj (fun r t => Q r t ∧ R r t)) ∧ (∀ (t : XT) (li : Nat → Int32) (lj : Nat → Int64), wpX9_partsOf k 1 t li lj Q → wpX9_partsOf k 1 t li lj R → wpX9_partsOf k 1 t li lj (fun r t => Q r t ∧ R r t)) ∧ (∀ (t : XT) (li : Nat → Int32) (lj : Nat → Int64), wpX9_partsOf k 2 t li lj Q → wpX9_partsOf k 2 t li lj R → wpX9_partsOf k 2 t li lj (fun r t => Q r t ∧ R r t)) := by
  intro k
  induction k with
  | zero => exact ⟨fun _ _ _ hR _ => False.elim hR, fun _ _ _ hR _ => False.elim hR, fun _ _ _ hR _ => False.elim hR⟩
  | succ k ih =>
    refine ⟨?_, ?_, ?_⟩
    · intro t li lj hQ hR
      have hQ : wbX9_partsOf_0 (wpX9_partsOf k) k t li lj Q := hQ
      have hR : wbX9_partsOf_0 (wpX9_partsOf k) k t li lj R := hR
      show wbX9_partsOf_0 (wpX9_partsOf k) k t li lj (fun r t => Q r t ∧ R r t)
      unfold wbX9_partsOf_0 at hQ hR ⊢
      exact ih.2.1 _ _ _ hQ hR
    · intro t li lj hQ hR
      have hQ : wbX9_partsOf_1 (wpX9_partsOf k) k t li lj Q := hQ
      have hR : wbX9_partsOf_1 (wpX9_partsOf k) k t li lj R := hR
      show wbX9_partsOf_1 (wpX9_partsOf k) k t li lj (fun r t => Q r t ∧ R r t)
      unfold wbX9_partsOf_1 at hQ hR ⊢
      exact fun x1 e1 => ⟨fun c2 => ih.2.2 _ _ _ ((hQ x1 e1).1 c2) ((hR x1 e1).1 c2), fun c3 => ⟨fun c4 => ih.2.2 _ _ _ (((hQ x1 e1).2 c3).1 c4) (((hR x1 e1).2 c3).1 c4), fun c5 => wiX11_lowest (((hQ x1 e1).2 c3).2 c5) (((hR x1 e1).2 c3).2 c5) (fun y6_0 h6 i6 => wiX9_hangingWith h6 i6 (fun y7_0 y7_1 h7 i7 => fun x8 e8 => fun x9 e9 => fun x10 e10 => ih.2.1 _ _ _ (((h7 x8 e8) x9 e9) x10 e10) (((i7 x8 e8) x9 e9) x10 e10)))⟩⟩
    · intro t li lj hQ hR
      have hQ : wbX9_partsOf_2 (wpX9_partsOf k) k t li lj Q := hQ
      have hR : wbX9_partsOf_2 (wpX9_partsOf k) k t li lj R := hR
      show wbX9_partsOf_2 (wpX9_partsOf k) k t li lj (fun r t => Q r t ∧ R r t)
      unfold wbX9_partsOf_2 at hQ hR ⊢
      exact ⟨hQ, hR⟩
theorem wjX9_partsOf {k : Nat} {t : XT} {a1 : Int64} {Q R : Int32 → XT → Prop} (hQ : wqX9_partsOf k t a1 Q) (hR : wqX9_partsOf k t a1 R) : wqX9_partsOf k t a1 (fun r t => Q r t ∧ R r t) := (wkX9_partsOfj Q R k).1 t _ _ hQ hR
theorem wiX9_partsOf {k : Nat} {t : XT} {a1 : Int64} {Q R S : Int32 → XT → Prop} (hQ : wqX9_partsOf k t a1 Q) (hR : wqX9_partsOf k t a1 R) (f : ∀ r t, Q r t → R r t → S r t) : wqX9_partsOf k t a1 S := wmX9_partsOf (Nat.le_refl k) (fun r t h => f r t h.1 h.2) (wjX9_partsOf hQ hR)
set_option maxHeartbeats 4000000 in
set_option maxRecDepth 100000 in
theorem wkX11_countj (Q R : Int32 → XT → Prop) : ∀ k : Nat, (∀ (t : XT) (li : Nat → Int32) (lj : Nat → Int64), wpX11_count k 0 t li lj Q → wpX11_count k 0 t li lj R → wpX11_count k 0 t li lj (fun r t => Q r t ∧ R r t)) := by
  intro k
  induction k with
  | zero => exact fun _ _ _ hR _ => False.elim hR
  | succ k ih =>
    intro t li lj hQ hR
    have hQ : wbX11_count_0 (wpX11_count k) k t li lj Q := hQ
    have hR : wbX11_count_0 (wpX11_count k) k t li lj R := hR
    show wbX11_count_0 (wpX11_count k) k t li lj (fun r t => Q r t ∧ R r t)
    unfold wbX11_count_0 at hQ hR ⊢
    exact ⟨fun c1 => ⟨(hQ.1 c1), (hR.1 c1)⟩, fun c2 => ⟨(hQ.2.1 c2), (hR.2.1 c2)⟩, fun c3 => wiJ13_bitCount_95d88 (hQ.2.2.1 c3) (hR.2.2.1 c3) (fun y4_0 h4 i4 => ⟨h4, i4⟩), fun c5 => wiX9_greatestDim (hQ.2.2.2.1 c5) (hR.2.2.2.1 c5) (fun y6_0 y6_1 h6 i6 => ⟨h6, i6⟩), fun c7 => wiX6_howMany (hQ.2.2.2.2.1 c7) (hR.2.2.2.2.1 c7) (fun y8_0 y8_1 h8 i8 => ⟨h8, i8⟩), fun c9 => wiX11_criticalOnes (hQ.2.2.2.2.2.1 c9) (hR.2.2.2.2.2.1 c9) (fun y10_0 y10_1 h10 i10 => ⟨h10, i10⟩), fun c11 => wiX9_eulerOf (hQ.2.2.2.2.2.2.1 c11) (hR.2.2.2.2.2.2.1 c11) (fun y12_0 y12_1 h12 i12 => ⟨h12, i12⟩), fun c13 => wiX9_partsOf (hQ.2.2.2.2.2.2.2.1 c13) (hR.2.2.2.2.2.2.2.1 c13) (fun y14_0 y14_1 h14 i14 => ⟨h14, i14⟩), fun c15 => ⟨(hQ.2.2.2.2.2.2.2.2.1 c15), (hR.2.2.2.2.2.2.2.2.1 c15)⟩, fun c16 => ⟨(hQ.2.2.2.2.2.2.2.2.2.1 c16), (hR.2.2.2.2.2.2.2.2.2.1 c16)⟩, fun c17 => ⟨(hQ.2.2.2.2.2.2.2.2.2.2 c17), (hR.2.2.2.2.2.2.2.2.2.2 c17)⟩⟩
theorem wjX11_count {k : Nat} {t : XT} {a1 : Int32} {Q R : Int32 → XT → Prop} (hQ : wqX11_count k t a1 Q) (hR : wqX11_count k t a1 R) : wqX11_count k t a1 (fun r t => Q r t ∧ R r t) := (wkX11_countj Q R k) t _ _ hQ hR
theorem wiX11_count {k : Nat} {t : XT} {a1 : Int32} {Q R S : Int32 → XT → Prop} (hQ : wqX11_count k t a1 Q) (hR : wqX11_count k t a1 R) (f : ∀ r t, Q r t → R r t → S r t) : wqX11_count k t a1 S := wmX11_count (Nat.le_refl k) (fun r t h => f r t h.1 h.2) (wjX11_count hQ hR)
