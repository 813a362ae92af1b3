set_option maxHeartbeats 4000000 in
set_option maxRecDepth 100000 in
theorem wkX5_makeDividej (Q R : XT → Prop) : ∀ k : Nat, (∀ (t : XT) (li : Nat → Int32) (lj : Nat → Int64), wpX5_makeDivide k 0 t li lj Q → wpX5_makeDivide k 0 t li lj R → wpX5_makeDivide k 0 t li lj (fun t => Q t ∧ R t)) := by
  intro k
  induction k with
  | zero => exact fun _ _ _ hR _ => False.elim hR
  | succ k ih =>
    intro t li lj hQ hR
    have hQ : wbX5_makeDivide_0 (wpX5_makeDivide k) k t li lj Q := hQ
    have hR : wbX5_makeDivide_0 (wpX5_makeDivide k) k t li lj R := hR
    show wbX5_makeDivide_0 (wpX5_makeDivide k) k t li lj (fun t => Q t ∧ R t)
    unfold wbX5_makeDivide_0 at hQ hR ⊢
    exact ⟨hQ.1, fun x1 e1 => ⟨(hQ.2 x1 e1).1, fun x2 e2 => wiX5_gcd ((hQ.2 x1 e1).2 x2 e2) ((hR.2 x1 e1).2 x2 e2) (fun y3_0 h3 i3 => fun x4 e4 => ⟨fun c5 => ⟨((h3 x4 e4).1 c5), ((i3 x4 e4).1 c5)⟩, fun c6 => ⟨((h3 x4 e4).2 c6).1, fun x7 e7 => ⟨(((h3 x4 e4).2 c6).2 x7 e7).1, fun x8 e8 => ⟨((((h3 x4 e4).2 c6).2 x7 e7).2 x8 e8).1, fun x9 e9 => fun x10 e10 => ⟨((((((h3 x4 e4).2 c6).2 x7 e7).2 x8 e8).2 x9 e9) x10 e10).1, fun x11 e11 => ⟨(((((((h3 x4 e4).2 c6).2 x7 e7).2 x8 e8).2 x9 e9) x10 e10).2 x11 e11).1, fun x12 e12 => ⟨((((((((h3 x4 e4).2 c6).2 x7 e7).2 x8 e8).2 x9 e9) x10 e10).2 x11 e11).2 x12 e12), ((((((((i3 x4 e4).2 c6).2 x7 e7).2 x8 e8).2 x9 e9) x10 e10).2 x11 e11).2 x12 e12)⟩⟩⟩⟩⟩⟩⟩)⟩⟩
theorem wjX5_makeDivide {k : Nat} {t : XT} {a1 : Int32} {a2 : Int32} {Q R : XT → Prop} (hQ : wqX5_makeDivide k t a1 a2 Q) (hR : wqX5_makeDivide k t a1 a2 R) : wqX5_makeDivide k t a1 a2 (fun t => Q t ∧ R t) := (wkX5_makeDividej Q R k) t _ _ hQ hR
theorem wiX5_makeDivide {k : Nat} {t : XT} {a1 : Int32} {a2 : Int32} {Q R S : XT → Prop} (hQ : wqX5_makeDivide k t a1 a2 Q) (hR : wqX5_makeDivide k t a1 a2 R) (f : ∀ t, Q t → R t → S t) : wqX5_makeDivide k t a1 a2 S := wmX5_makeDivide (Nat.le_refl k) (fun t h => f t h.1 h.2) (wjX5_makeDivide hQ hR)
set_option maxHeartbeats 4000000 in
set_option maxRecDepth 100000 in
theorem wkX5_diagonalisej (Q R : XT → Prop) : ∀ k : Nat, (∀ (t : XT) (li : Nat → Int32) (lj : Nat → Int64), wpX5_diagonalise k 0 t li lj Q → wpX5_diagonalise k 0 t li lj R → wpX5_diagonalise k 0 t li lj (fun t => Q t ∧ R t)) ∧ (∀ (t : XT) (li : Nat → Int32) (lj : Nat → Int64), wpX5_diagonalise k 1 t li lj Q → wpX5_diagonalise k 1 t li lj R → wpX5_diagonalise k 1 t li lj (fun t => Q t ∧ R t)) ∧ (∀ (t : XT) (li : Nat → Int32) (lj : Nat → Int64), wpX5_diagonalise k 2 t li lj Q → wpX5_diagonalise k 2 t li lj R → wpX5_diagonalise k 2 t li lj (fun t => Q t ∧ R t)) ∧ (∀ (t : XT) (li : Nat → Int32) (lj : Nat → Int64), wpX5_diagonalise k 3 t li lj Q → wpX5_diagonalise k 3 t li lj R → wpX5_diagonalise k 3 t li lj (fun t => Q t ∧ R t)) ∧ (∀ (t : XT) (li : Nat → Int32) (lj : Nat → Int64), wpX5_diagonalise k 4 t li lj Q → wpX5_diagonalise k 4 t li lj R → wpX5_diagonalise k 4 t li lj (fun t => Q t ∧ R t)) := by
  intro k
  induction k with
  | zero => exact ⟨fun _ _ _ hR _ => False.elim hR, fun _ _ _ hR _ => False.elim hR, fun _ _ _ hR _ => False.elim hR, fun _ _ _ hR _ => False.elim hR, fun _ _ _ hR _ => False.elim hR⟩
  | succ k ih =>
    refine ⟨?_, ?_, ?_, ?_, ?_⟩
    · intro t li lj hQ hR
      have hQ : wbX5_diagonalise_0 (wpX5_diagonalise k) k t li lj Q := hQ
      have hR : wbX5_diagonalise_0 (wpX5_diagonalise k) k t li lj R := hR
      show wbX5_diagonalise_0 (wpX5_diagonalise k) k t li lj (fun t => Q t ∧ R t)
      unfold wbX5_diagonalise_0 at hQ hR ⊢
      exact fun x1 e1 => ih.2.1 _ _ _ (hQ x1 e1) (hR x1 e1)
    · intro t li lj hQ hR
      have hQ : wbX5_diagonalise_1 (wpX5_diagonalise k) k t li lj Q := hQ
      have hR : wbX5_diagonalise_1 (wpX5_diagonalise k) k t li lj R := hR
      show wbX5_diagonalise_1 (wpX5_diagonalise k) k t li lj (fun t => Q t ∧ R t)
      unfold wbX5_diagonalise_1 at hQ hR ⊢
      exact fun x1 e1 => ⟨fun c2 => ih.2.2.1 _ _ _ ((hQ x1 e1).1 c2) ((hR x1 e1).1 c2), fun c3 => ⟨((hQ x1 e1).2 c3).1, fun x4 e4 => wiX5_remainder (((hQ x1 e1).2 c3).2 x4 e4) (((hR x1 e1).2 c3).2 x4 e4) (fun y5_0 y5_1 h5 i5 => ⟨h5.1, fun x6 e6 => fun x7 e7 => ih.2.1 _ _ _ ((h5.2 x6 e6) x7 e7) ((i5.2 x6 e6) x7 e7)⟩)⟩⟩
    · intro t li lj hQ hR
      have hQ : wbX5_diagonalise_2 (wpX5_diagonalise k) k t li lj Q := hQ
      have hR : wbX5_diagonalise_2 (wpX5_diagonalise k) k t li lj R := hR
      show wbX5_diagonalise_2 (wpX5_diagonalise k) k t li lj (fun t => Q t ∧ R t)
      unfold wbX5_diagonalise_2 at hQ hR ⊢
      exact ⟨fun c1 => ih.2.2.2.1 _ _ _ (hQ.1 c1) (hR.1 c1), fun c2 => wiX5_clearCorner (hQ.2 c2) (hR.2 c2) (fun y3_0 y3_1 h3 i3 => ⟨h3.1, fun x4 e4 => fun x5 e5 => ih.2.2.1 _ _ _ ((h3.2 x4 e4) x5 e5) ((i3.2 x4 e4) x5 e5)⟩)⟩
    · intro t li lj hQ hR
      have hQ : wbX5_diagonalise_3 (wpX5_diagonalise k) k t li lj Q := hQ
      have hR : wbX5_diagonalise_3 (wpX5_diagonalise k) k t li lj R := hR
      show wbX5_diagonalise_3 (wpX5_diagonalise k) k t li lj (fun t => Q t ∧ R t)
      unfold wbX5_diagonalise_3 at hQ hR ⊢
      exact ⟨fun c1 => ⟨(hQ.1 c1), (hR.1 c1)⟩, fun c2 => fun x3 e3 => ih.2.2.2.2 _ _ _ ((hQ.2 c2) x3 e3) ((hR.2 c2) x3 e3)⟩
    · intro t li lj hQ hR
      have hQ : wbX5_diagonalise_4 (wpX5_diagonalise k) k t li lj Q := hQ
      have hR : wbX5_diagonalise_4 (wpX5_diagonalise k) k t li lj R := hR
      show wbX5_diagonalise_4 (wpX5_diagonalise k) k t li lj (fun t => Q t ∧ R t)
      unfold wbX5_diagonalise_4 at hQ hR ⊢
      exact ⟨fun c1 => fun x2 e2 => ih.2.2.2.1 _ _ _ ((hQ.1 c1) x2 e2) ((hR.1 c1) x2 e2), fun c3 => wiX5_makeDivide (hQ.2 c3) (hR.2 c3) (fun y4_0 h4 i4 => fun x5 e5 => ih.2.2.2.2 _ _ _ (h4 x5 e5) (i4 x5 e5))⟩
theorem wjX5_diagonalise {k : Nat} {t : XT}  {Q R : XT → Prop} (hQ : wqX5_diagonalise k t  Q) (hR : wqX5_diagonalise k t  R) : wqX5_diagonalise k t  (fun t => Q t ∧ R t) := (wkX5_diagonalisej Q R k).1 t _ _ hQ hR
theorem wiX5_diagonalise {k : Nat} {t : XT}  {Q R S : XT → Prop} (hQ : wqX5_diagonalise k t  Q) (hR : wqX5_diagonalise k t  R) (f : ∀ t, Q t → R t → S t) : wqX5_diagonalise k t  S := wmX5_diagonalise (Nat.le_refl k) (fun t h => f t h.1 h.2) (wjX5_diagonalise hQ hR)
set_option maxHeartbeats 4000000 in
set_option maxRecDepth 100000 in
theorem wkX0_torsionsOfj (Q R : Int32 → XT → Prop) : ∀ k : Nat, (∀ (t : XT) (li : Nat → Int32) (lj : Nat → Int64), wpX0_torsionsOf k 0 t li lj Q → wpX0_torsionsOf k 0 t li lj R → wpX0_torsionsOf k 0 t li lj (fun r t => Q r t ∧ R r t)) ∧ (∀ (t : XT) (li : Nat → Int32) (lj : Nat → Int64), wpX0_torsionsOf k 1 t li lj Q → wpX0_torsionsOf k 1 t li lj R → wpX0_torsionsOf k 1 t li lj (fun r t => Q r t ∧ R r t)) ∧ (∀ (t : XT) (li : Nat → Int32) (lj : Nat → Int64), wpX0_torsionsOf k 2 t li lj Q → wpX0_torsionsOf k 2 t li lj R → wpX0_torsionsOf k 2 t li lj (fun r t => Q r t ∧ R r t)) ∧ (∀ (t : XT) (li : Nat → Int32) (lj : Nat → Int64), wpX0_torsionsOf k 3 t li lj Q → wpX0_torsionsOf k 3 t li lj R → wpX0_torsionsOf k 3 t li lj (fun r t => Q r t ∧ R r t)) ∧ (∀ (t : XT) (li : Nat → Int32) (lj : Nat → Int64), wpX0_torsionsOf k 4 t li lj Q → wpX0_torsionsOf k 4 t li lj R → wpX0_torsionsOf k 4 t li lj (fun r t => Q r t ∧ R r t)) := by
  intro k
  induction k with
  | zero => exact ⟨fun _ _ _ hR _ => False.elim hR, fun _ _ _ hR _ => False.elim hR, fun _ _ _ hR _ => False.elim hR, fun _ _ _ hR _ => False.elim hR, fun _ _ _ hR _ => False.elim hR⟩
  | succ k ih =>
    refine ⟨?_, ?_, ?_, ?_, ?_⟩
    · intro t li lj hQ hR
      have hQ : wbX0_torsionsOf_0 (wpX0_torsionsOf k) k t li lj Q := hQ
      have hR : wbX0_torsionsOf_0 (wpX0_torsionsOf k) k t li lj R := hR
      show wbX0_torsionsOf_0 (wpX0_torsionsOf k) k t li lj (fun r t => Q r t ∧ R r t)
      unfold wbX0_torsionsOf_0 at hQ hR ⊢
      exact fun x1 e1 => wiX0_rankOf (hQ x1 e1) (hR x1 e1) (fun y2_0 y2_1 h2 i2 => ⟨fun c3 => ih.2.1 _ _ _ (h2.1 c3) (i2.1 c3), fun c4 => fun x5 e5 => ⟨fun c6 => wiX5_diagonalise (((h2.2 c4) x5 e5).1 c6) (((i2.2 c4) x5 e5).1 c6) (fun y7_0 h7 i7 => ih.2.2.1 _ _ _ h7 i7), fun c8 => ih.2.1 _ _ _ (((h2.2 c4) x5 e5).2 c8) (((i2.2 c4) x5 e5).2 c8)⟩⟩)
    · intro t li lj hQ hR
      have hQ : wbX0_torsionsOf_1 (wpX0_torsionsOf k) k t li lj Q := hQ
      have hR : wbX0_torsionsOf_1 (wpX0_torsionsOf k) k t li lj R := hR
      show wbX0_torsionsOf_1 (wpX0_torsionsOf k) k t li lj (fun r t => Q r t ∧ R r t)
      unfold wbX0_torsionsOf_1 at hQ hR ⊢
      exact ⟨hQ, hR⟩
    · intro t li lj hQ hR
      have hQ : wbX0_torsionsOf_2 (wpX0_torsionsOf k) k t li lj Q := hQ
      have hR : wbX0_torsionsOf_2 (wpX0_torsionsOf k) k t li lj R := hR
      show wbX0_torsionsOf_2 (wpX0_torsionsOf k) k t li lj (fun r t => Q r t ∧ R r t)
      unfold wbX0_torsionsOf_2 at hQ hR ⊢
      exact ⟨fun c1 => ih.2.2.2.2 _ _ _ (hQ.1 c1) (hR.1 c1), fun c2 => ⟨fun c3 => ih.2.2.2.2 _ _ _ ((hQ.2 c2).1 c3) ((hR.2 c2).1 c3), fun c4 => ⟨((hQ.2 c2).2 c4).1, fun x5 e5 => fun x6 e6 => ⟨fun c7 => ih.2.2.2.1 _ _ _ (((((hQ.2 c2).2 c4).2 x5 e5) x6 e6).1 c7) (((((hR.2 c2).2 c4).2 x5 e5) x6 e6).1 c7), fun c8 => ⟨(((((hQ.2 c2).2 c4).2 x5 e5) x6 e6).2 c8).1, fun x9 e9 => ⟨((((((hQ.2 c2).2 c4).2 x5 e5) x6 e6).2 c8).2 x9 e9).1, fun x10 e10 => fun x11 e11 => ih.2.2.2.1 _ _ _ ((((((((hQ.2 c2).2 c4).2 x5 e5) x6 e6).2 c8).2 x9 e9).2 x10 e10) x11 e11) ((((((((hR.2 c2).2 c4).2 x5 e5) x6 e6).2 c8).2 x9 e9).2 x10 e10) x11 e11)⟩⟩⟩⟩⟩⟩
    · intro t li lj hQ hR
      have hQ : wbX0_torsionsOf_3 (wpX0_torsionsOf k) k t li lj Q := hQ
      have hR : wbX0_torsionsOf_3 (wpX0_torsionsOf k) k t li lj R := hR
      show wbX0_torsionsOf_3 (wpX0_torsionsOf k) k t li lj (fun r t => Q r t ∧ R r t)
      unfold wbX0_torsionsOf_3 at hQ hR ⊢
      exact fun x1 e1 => ih.2.2.1 _ _ _ (hQ x1 e1) (hR x1 e1)
    · intro t li lj hQ hR
      have hQ : wbX0_torsionsOf_4 (wpX0_torsionsOf k) k t li lj Q := hQ
      have hR : wbX0_torsionsOf_4 (wpX0_torsionsOf k) k t li lj R := hR
      show wbX0_torsionsOf_4 (wpX0_torsionsOf k) k t li lj (fun r t => Q r t ∧ R r t)
      unfold wbX0_torsionsOf_4 at hQ hR ⊢
      exact ⟨hQ, hR⟩
theorem wjX0_torsionsOf {k : Nat} {t : XT} {a1 : Int64} {a2 : Int32} {a3 : Int32} {Q R : Int32 → XT → Prop} (hQ : wqX0_torsionsOf k t a1 a2 a3 Q) (hR : wqX0_torsionsOf k t a1 a2 a3 R) : wqX0_torsionsOf k t a1 a2 a3 (fun r t => Q r t ∧ R r t) := (wkX0_torsionsOfj Q R k).1 t _ _ hQ hR
theorem wiX0_torsionsOf {k : Nat} {t : XT} {a1 : Int64} {a2 : Int32} {a3 : Int32} {Q R S : Int32 → XT → Prop} (hQ : wqX0_torsionsOf k t a1 a2 a3 Q) (hR : wqX0_torsionsOf k t a1 a2 a3 R) (f : ∀ r t, Q r t → R r t → S r t) : wqX0_torsionsOf k t a1 a2 a3 S := wmX0_torsionsOf (Nat.le_refl k) (fun r t h => f r t h.1 h.2) (wjX0_torsionsOf hQ hR)
set_option maxHeartbeats 4000000 in
set_option maxRecDepth 100000 in
theorem wkX11_torsionj (Q R : Int64 → XT → Prop) : ∀ k : Nat, (∀ (t : XT) (li : Nat → Int32) (lj : Nat → Int64), wpX11_torsion k 0 t li lj Q → wpX11_torsion k 0 t li lj R → wpX11_torsion k 0 t li lj (fun r t => Q r t ∧ R r t)) ∧ (∀ (t : XT) (li : Nat → Int32) (lj : Nat → Int64), wpX11_torsion k 1 t li lj Q → wpX11_torsion k 1 t li lj R → wpX11_torsion k 1 t li lj (fun r t => Q r t ∧ R r t)) ∧ (∀ (t : XT) (li : Nat → Int32) (lj : Nat → Int64), wpX11_torsion k 2 t li lj Q → wpX11_torsion k 2 t li lj R → wpX11_torsion k 2 t li lj (fun r t => Q r t ∧ R r t)) := by
  intro k
  induction k with
  | zero => exact ⟨fun _ _ _ hR _ => False.elim hR, fun _ _ _ hR _ => False.elim hR, fun _ _ _ hR _ => False.elim hR⟩
  | succ k ih =>
    refine ⟨?_, ?_, ?_⟩
    · intro t li lj hQ hR
      have hQ : wbX11_torsion_0 (wpX11_torsion k) k t li lj Q := hQ
      have hR : wbX11_torsion_0 (wpX11_torsion k) k t li lj R := hR
      show wbX11_torsion_0 (wpX11_torsion k) k t li lj (fun r t => Q r t ∧ R r t)
      unfold wbX11_torsion_0 at hQ hR ⊢
      exact wiX11_isDim hQ hR (fun y1_0 h1 i1 => ⟨fun c2 => ih.2.1 _ _ _ (h1.1 c2) (i1.1 c2), fun c3 => ⟨fun c4 => ih.2.1 _ _ _ ((h1.2 c3).1 c4) ((i1.2 c3).1 c4), fun c5 => ⟨fun c6 => ih.2.1 _ _ _ (((h1.2 c3).2 c5).1 c6) (((i1.2 c3).2 c5).1 c6), fun c7 => ⟨fun c8 => wiX11_basis ((((h1.2 c3).2 c5).2 c7).1 c8) ((((i1.2 c3).2 c5).2 c7).1 c8) (fun y9_0 y9_1 h9 i9 => ⟨fun c10 => ih.2.2 _ _ _ (h9.1 c10) (i9.1 c10), fun c11 => ih.2.2 _ _ _ (h9.2 c11) (i9.2 c11)⟩), fun c12 => ih.2.1 _ _ _ ((((h1.2 c3).2 c5).2 c7).2 c12) ((((i1.2 c3).2 c5).2 c7).2 c12)⟩⟩⟩⟩)
    · intro t li lj hQ hR
      have hQ : wbX11_torsion_1 (wpX11_torsion k) k t li lj Q := hQ
      have hR : wbX11_torsion_1 (wpX11_torsion k) k t li lj R := hR
      show wbX11_torsion_1 (wpX11_torsion k) k t li lj (fun r t => Q r t ∧ R r t)
      unfold wbX11_torsion_1 at hQ hR ⊢
      exact ⟨hQ, hR⟩
    · intro t li lj hQ hR
      have hQ : wbX11_torsion_2 (wpX11_torsion k) k t li lj Q := hQ
      have hR : wbX11_torsion_2 (wpX11_torsion k) k t li lj R := hR
      show wbX11_torsion_2 (wpX11_torsion k) k t li lj (fun r t => Q r t ∧ R r t)
      unfold wbX11_torsion_2 at hQ hR ⊢
      exact wiX0_torsionsOf hQ hR (fun y1_0 y1_1 h1 i1 => ⟨fun c2 => ⟨fun c3 => ⟨((h1.1 c2).1 c3), ((i1.1 c2).1 c3)⟩, fun c4 => ⟨((h1.1 c2).2 c4).1, fun x5 e5 => ⟨(((h1.1 c2).2 c4).2 x5 e5), (((i1.1 c2).2 c4).2 x5 e5)⟩⟩⟩, fun c6 => fun x7 e7 => ⟨((h1.2 c6) x7 e7), ((i1.2 c6) x7 e7)⟩⟩)
theorem wjX11_torsion {k : Nat} {t : XT} {a1 : Int32} {a2 : Int32} {a3 : Int32} {Q R : Int64 → XT → Prop} (hQ : wqX11_torsion k t a1 a2 a3 Q) (hR : wqX11_torsion k t a1 a2 a3 R) : wqX11_torsion k t a1 a2 a3 (fun r t => Q r t ∧ R r t) := (wkX11_torsionj Q R k).1 t _ _ hQ hR
theorem wiX11_torsion {k : Nat} {t : XT} {a1 : Int32} {a2 : Int32} {a3 : Int32} {Q R S : Int64 → XT → Prop} (hQ : wqX11_torsion k t a1 a2 a3 Q) (hR : wqX11_torsion k t a1 a2 a3 R) (f : ∀ r t, Q r t → R r t → S r t) : wqX11_torsion k t a1 a2 a3 S := wmX11_torsion (Nat.le_refl k) (fun r t h => f r t h.1 h.2) (wjX11_torsion hQ hR)
set_option maxHeartbeats 4000000 in
set_option maxRecDepth 100000 in
theorem wkX11_slackj (Q R : Int32 → XT → Prop) : ∀ k : Nat, (∀ (t : XT) (li : Nat → Int32) (lj : Nat → Int64), wpX11_slack k 0 t li lj Q → wpX11_slack k 0 t li lj R → wpX11_slack k 0 t li lj (fun r t => Q r t ∧ R r t)) ∧ (∀ (t : XT) (li : Nat → Int32) (lj : Nat → Int64), wpX11_slack k 1 t li lj Q → wpX11_slack k 1 t li lj R → wpX11_slack k 1 t li lj (fun r t => Q r t ∧ R r t)) := by
  intro k
  induction k with
  | zero => exact ⟨fun _ _ _ hR _ => False.elim hR, fun _ _ _ hR _ => False.elim hR⟩
  | succ k ih =>
    refine ⟨?_, ?_⟩
    · intro t li lj hQ hR
      have hQ : wbX11_slack_0 (wpX11_slack k) k t li lj Q := hQ
      have hR : wbX11_slack_0 (wpX11_slack k) k t li lj R := hR
      show wbX11_slack_0 (wpX11_slack k) k t li lj (fun r t => Q r t ∧ R r t)
      unfold wbX11_slack_0 at hQ hR ⊢
      exact wiX11_isDim hQ hR (fun y1_0 h1 i1 => ⟨fun c2 => ih.2 _ _ _ (h1.1 c2) (i1.1 c2), fun c3 => ⟨(h1.2 c3), (i1.2 c3)⟩⟩)
    · intro t li lj hQ hR
      have hQ : wbX11_slack_1 (wpX11_slack k) k t li lj Q := hQ
      have hR : wbX11_slack_1 (wpX11_slack k) k t li lj R := hR
      show wbX11_slack_1 (wpX11_slack k) k t li lj (fun r t => Q r t ∧ R r t)
      unfold wbX11_slack_1 at hQ hR ⊢
      exact ⟨fun c1 => ⟨(hQ.1 c1), (hR.1 c1)⟩, fun c2 => wiX6_unpaired (hQ.2 c2) (hR.2 c2) (fun y3_0 y3_1 h3 i3 => ⟨h3.1, fun x4 e4 => fun x5 e5 => wiJ13_bitCount_95d88 ((h3.2 x4 e4) x5 e5) ((i3.2 x4 e4) x5 e5) (fun y6_0 h6 i6 => wiX0_bettiOf h6 i6 (fun y7_0 y7_1 h7 i7 => fun x8 e8 => fun x9 e9 => fun x10 e10 => ih.2 _ _ _ (((h7 x8 e8) x9 e9) x10 e10) (((i7 x8 e8) x9 e9) x10 e10)))⟩)⟩
theorem wjX11_slack {k : Nat} {t : XT} {a1 : Int32} {Q R : Int32 → XT → Prop} (hQ : wqX11_slack k t a1 Q) (hR : wqX11_slack k t a1 R) : wqX11_slack k t a1 (fun r t => Q r t ∧ R r t) := (wkX11_slackj Q R k).1 t _ _ hQ hR
theorem wiX11_slack {k : Nat} {t : XT} {a1 : Int32} {Q R S : Int32 → XT → Prop} (hQ : wqX11_slack k t a1 Q) (hR : wqX11_slack k t a1 R) (f : ∀ r t, Q r t → R r t → S r t) : wqX11_slack k t a1 S := wmX11_slack (Nat.le_refl k) (fun r t h => f r t h.1 h.2) (wjX11_slack hQ hR)
set_option maxHeartbeats 4000000 in
set_option maxRecDepth 100000 in
theorem wkX11_freej (Q R : Int32 → XT → Prop) : ∀ k : Nat, (∀ (t : XT) (li : Nat → Int32) (lj : Nat → Int64), wpX11_free k 0 t li lj Q → wpX11_free k 0 t li lj R → wpX11_free k 0 t li lj (fun r t => Q r t ∧ R r t)) ∧ (∀ (t : XT) (li : Nat → Int32) (lj : Nat → Int64), wpX11_free k 1 t li lj Q → wpX11_free k 1 t li lj R → wpX11_free k 1 t li lj (fun r t => Q r t ∧ R r t)) ∧ (∀ (t : XT) (li : Nat → Int32) (lj : Nat → Int64), wpX11_free k 2 t li lj Q → wpX11_free k 2 t li lj R → wpX11_free k 2 t li lj (fun r t => Q r t ∧ R r t)) := by
  intro k
  induction k with
  | zero => exact ⟨fun _ _ _ hR _ => False.elim hR, fun _ _ _ hR _ => False.elim hR, fun _ _ _ hR _ => False.elim hR⟩
  | succ k ih =>
    refine ⟨?_, ?_, ?_⟩
    · intro t li lj hQ hR
      have hQ : wbX11_free_0 (wpX11_free k) k t li lj Q := hQ
      have hR : wbX11_free_0 (wpX11_free k) k t li lj R := hR
      show wbX11_free_0 (wpX11_free k) k t li lj (fun r t => Q r t ∧ R r t)
      unfold wbX11_free_0 at hQ hR ⊢
      exact ⟨fun c1 => ih.2.1 _ _ _ (hQ.1 c1) (hR.1 c1), fun c2 => ⟨(hQ.2 c2), (hR.2 c2)⟩⟩
    · intro t li lj hQ hR
      have hQ : wbX11_free_1 (wpX11_free k) k t li lj Q := hQ
      have hR : wbX11_free_1 (wpX11_free k) k t li lj R := hR
      show wbX11_free_1 (wpX11_free k) k t li lj (fun r t => Q r t ∧ R r t)
      unfold wbX11_free_1 at hQ hR ⊢
      exact ⟨fun c1 => wiX11_listed (hQ.1 c1) (hR.1 c1) (fun y2_0 h2 i2 => ⟨h2, i2⟩), fun c3 => wiX11_isThere (hQ.2 c3) (hR.2 c3) (fun y4_0 y4_1 h4 i4 => ⟨fun c5 => ih.2.2 _ _ _ (h4.1 c5) (i4.1 c5), fun c6 => wiX11_isFree (h4.2 c6) (i4.2 c6) (fun y7_0 y7_1 h7 i7 => ⟨fun c8 => ih.2.2 _ _ _ (h7.1 c8) (i7.1 c8), fun c9 => wiX11_bit (h7.2 c9) (i7.2 c9) (fun y10_0 h10 i10 => fun x11 e11 => ih.2.2 _ _ _ (h10 x11 e11) (i10 x11 e11))⟩)⟩)⟩
    · intro t li lj hQ hR
      have hQ : wbX11_free_2 (wpX11_free k) k t li lj Q := hQ
      have hR : wbX11_free_2 (wpX11_free k) k t li lj R := hR
      show wbX11_free_2 (wpX11_free k) k t li lj (fun r t => Q r t ∧ R r t)
      unfold wbX11_free_2 at hQ hR ⊢
      exact fun x1 e1 => ih.2.1 _ _ _ (hQ x1 e1) (hR x1 e1)
theorem wjX11_free {k : Nat} {t : XT} {a1 : Int32} {Q R : Int32 → XT → Prop} (hQ : wqX11_free k t a1 Q) (hR : wqX11_free k t a1 R) : wqX11_free k t a1 (fun r t => Q r t ∧ R r t) := (wkX11_freej Q R k).1 t _ _ hQ hR
theorem wiX11_free {k : Nat} {t : XT} {a1 : Int32} {Q R S : Int32 → XT → Prop} (hQ : wqX11_free k t a1 Q) (hR : wqX11_free k t a1 R) (f : ∀ r t, Q r t → R r t → S r t) : wqX11_free k t a1 S := wmX11_free (Nat.le_refl k) (fun r t h => f r t h.1 h.2) (wjX11_free hQ hR)
set_option maxHeartbeats 4000000 in
set_option maxRecDepth 100000 in
theorem wkX11_facetj (Q R : Int32 → XT → Prop) : ∀ k : Nat, (∀ (t : XT) (li : Nat → Int32) (lj : Nat → Int64), wpX11_facet k 0 t li lj Q → wpX11_facet k 0 t li lj R → wpX11_facet k 0 t li lj (fun r t => Q r t ∧ R r t)) ∧ (∀ (t : XT) (li : Nat → Int32) (lj : Nat → Int64), wpX11_facet k 1 t li lj Q → wpX11_facet k 1 t li lj R → wpX11_facet k 1 t li lj (fun r t => Q r t ∧ R r t)) ∧ (∀ (t : XT) (li : Nat → Int32) (lj : Nat → Int64), wpX11_facet k 2 t li lj Q → wpX11_facet k 2 t li lj R → wpX11_facet k 2 t li lj (fun r t => Q r t ∧ R r t)) := by
  intro k
  induction k with
  | zero => exact ⟨fun _ _ _ hR _ => False.elim hR, fun _ _ _ hR _ => False.elim hR, fun _ _ _ hR _ => False.elim hR⟩
  | succ k ih =>
    refine ⟨?_, ?_, ?_⟩
    · intro t li lj hQ hR
      have hQ : wbX11_facet_0 (wpX11_facet k) k t li lj Q := hQ
      have hR : wbX11_facet_0 (wpX11_facet k) k t li lj R := hR
      show wbX11_facet_0 (wpX11_facet k) k t li lj (fun r t => Q r t ∧ R r t)
      unfold wbX11_facet_0 at hQ hR ⊢
      exact ⟨fun c1 => ih.2.1 _ _ _ (hQ.1 c1) (hR.1 c1), fun c2 => ⟨(hQ.2 c2), (hR.2 c2)⟩⟩
    · intro t li lj hQ hR
      have hQ : wbX11_facet_1 (wpX11_facet k) k t li lj Q := hQ
      have hR : wbX11_facet_1 (wpX11_facet k) k t li lj R := hR
      show wbX11_facet_1 (wpX11_facet k) k t li lj (fun r t => Q r t ∧ R r t)
      unfold wbX11_facet_1 at hQ hR ⊢
      exact ⟨fun c1 => wiX11_listed (hQ.1 c1) (hR.1 c1) (fun y2_0 h2 i2 => ⟨h2, i2⟩), fun c3 => wiX11_isThere (hQ.2 c3) (hR.2 c3) (fun y4_0 y4_1 h4 i4 => ⟨fun c5 => ih.2.2 _ _ _ (h4.1 c5) (i4.1 c5), fun c6 => ⟨(h4.2 c6).1, fun x7 e7 => fun x8 e8 => fun x9 e9 => ⟨fun c10 => ih.2.2 _ _ _ (((((h4.2 c6).2 x7 e7) x8 e8) x9 e9).1 c10) (((((i4.2 c6).2 x7 e7) x8 e8) x9 e9).1 c10), fun c11 => wiX11_bit (((((h4.2 c6).2 x7 e7) x8 e8) x9 e9).2 c11) (((((i4.2 c6).2 x7 e7) x8 e8) x9 e9).2 c11) (fun y12_0 h12 i12 => fun x13 e13 => ih.2.2 _ _ _ (h12 x13 e13) (i12 x13 e13))⟩⟩⟩)⟩
    · intro t li lj hQ hR
      have hQ : wbX11_facet_2 (wpX11_facet k) k t li lj Q := hQ
      have hR : wbX11_facet_2 (wpX11_facet k) k t li lj R := hR
      show wbX11_facet_2 (wpX11_facet k) k t li lj (fun r t => Q r t ∧ R r t)
      unfold wbX11_facet_2 at hQ hR ⊢
      exact fun x1 e1 => ih.2.1 _ _ _ (hQ x1 e1) (hR x1 e1)
theorem wjX11_facet {k : Nat} {t : XT} {a1 : Int32} {Q R : Int32 → XT → Prop} (hQ : wqX11_facet k t a1 Q) (hR : wqX11_facet k t a1 R) : wqX11_facet k t a1 (fun r t => Q r t ∧ R r t) := (wkX11_facetj Q R k).1 t _ _ hQ hR
theorem wiX11_facet {k : Nat} {t : XT} {a1 : Int32} {Q R S : Int32 → XT → Prop} (hQ : wqX11_facet k t a1 Q) (hR : wqX11_facet k t a1 R) (f : ∀ r t, Q r t → R r t → S r t) : wqX11_facet k t a1 S := wmX11_facet (Nat.le_refl k) (fun r t h => f r t h.1 h.2) (wjX11_facet hQ hR)
set_option maxHeartbeats 4000000 in
set_option maxRecDepth 100000 in
theorem wkX11_linkOfj (Q R : Int64 → XT → Prop) : ∀ k : Nat, (∀ (t : XT) (li : Nat → Int32) (lj : Nat → Int64), wpX11_linkOf k 0 t li lj Q → wpX11_linkOf k 0 t li lj R → wpX11_linkOf k 0 t li lj (fun r t => Q r t ∧ R r t)) ∧ (∀ (t : XT) (li : Nat → Int32) (lj : Nat → Int64), wpX11_linkOf k 1 t li lj Q → wpX11_linkOf k 1 t li lj R → wpX11_linkOf k 1 t li lj (fun r t => Q r t ∧ R r t)) ∧ (∀ (t : XT) (li : Nat → Int32) (lj : Nat → Int64), wpX11_linkOf k 2 t li lj Q → wpX11_linkOf k 2 t li lj R → wpX11_linkOf k 2 t li lj (fun r t => Q r t ∧ R r t)) ∧ (∀ (t : XT) (li : Nat → Int32) (lj : Nat → Int64), wpX11_linkOf k 3 t li lj Q → wpX11_linkOf k 3 t li lj R → wpX11_linkOf k 3 t li lj (fun r t => Q r t ∧ R r t)) := by
  intro k
  induction k with
  | zero => exact ⟨fun _ _ _ hR _ => False.elim hR, fun _ _ _ hR _ => False.elim hR, fun _ _ _ hR _ => False.elim hR, fun _ _ _ hR _ => False.elim hR⟩
  | succ k ih =>
    refine ⟨?_, ?_, ?_, ?_⟩
    · intro t li lj hQ hR
      have hQ : wbX11_linkOf_0 (wpX11_linkOf k) k t li lj Q := hQ
      have hR : wbX11_linkOf_0 (wpX11_linkOf k) k t li lj R := hR
      show wbX11_linkOf_0 (wpX11_linkOf k) k t li lj (fun r t => Q r t ∧ R r t)
      unfold wbX11_linkOf_0 at hQ hR ⊢
      exact ih.2.1 _ _ _ hQ hR
    · intro t li lj hQ hR
      have hQ : wbX11_linkOf_1 (wpX11_linkOf k) k t li lj Q := hQ
      have hR : wbX11_linkOf_1 (wpX11_linkOf k) k t li lj R := hR
      show wbX11_linkOf_1 (wpX11_linkOf k) k t li lj (fun r t => Q r t ∧ R r t)
      unfold wbX11_linkOf_1 at hQ hR ⊢
      exact ⟨fun c1 => ⟨(hQ.1 c1), (hR.1 c1)⟩, fun c2 => ⟨(hQ.2 c2).1, fun x3 e3 => ⟨((hQ.2 c2).2 x3 e3).1, fun x4 e4 => fun x5 e5 => ⟨((((hQ.2 c2).2 x3 e3).2 x4 e4) x5 e5).1, fun x6 e6 => ⟨(((((hQ.2 c2).2 x3 e3).2 x4 e4) x5 e5).2 x6 e6).1, fun x7 e7 => fun x8 e8 => ⟨fun c9 => ih.2.2.1 _ _ _ ((((((((hQ.2 c2).2 x3 e3).2 x4 e4) x5 e5).2 x6 e6).2 x7 e7) x8 e8).1 c9) ((((((((hR.2 c2).2 x3 e3).2 x4 e4) x5 e5).2 x6 e6).2 x7 e7) x8 e8).1 c9), fun c10 => ih.2.2.1 _ _ _ ((((((((hQ.2 c2).2 x3 e3).2 x4 e4) x5 e5).2 x6 e6).2 x7 e7) x8 e8).2 c10) ((((((((hR.2 c2).2 x3 e3).2 x4 e4) x5 e5).2 x6 e6).2 x7 e7) x8 e8).2 c10)⟩⟩⟩⟩⟩⟩
    · intro t li lj hQ hR
      have hQ : wbX11_linkOf_2 (wpX11_linkOf k) k t li lj Q := hQ
      have hR : wbX11_linkOf_2 (wpX11_linkOf k) k t li lj R := hR
      show wbX11_linkOf_2 (wpX11_linkOf k) k t li lj (fun r t => Q r t ∧ R r t)
      unfold wbX11_linkOf_2 at hQ hR ⊢
      exact wiX11_number hQ hR (fun y1_0 y1_1 h1 i1 => ⟨fun c2 => ih.2.2.2 _ _ _ (h1.1 c2) (i1.1 c2), fun c3 => wiX11_isThere (h1.2 c3) (i1.2 c3) (fun y4_0 y4_1 h4 i4 => ⟨fun c5 => ih.2.2.2 _ _ _ (h4.1 c5) (i4.1 c5), fun c6 => wiX11_isThere (h4.2 c6) (i4.2 c6) (fun y7_0 y7_1 h7 i7 => ⟨fun c8 => ih.2.2.2 _ _ _ (h7.1 c8) (i7.1 c8), fun c9 => wiX11_bit (h7.2 c9) (i7.2 c9) (fun y10_0 h10 i10 => fun x11 e11 => ih.2.2.2 _ _ _ (h10 x11 e11) (i10 x11 e11))⟩)⟩)⟩)
    · intro t li lj hQ hR
      have hQ : wbX11_linkOf_3 (wpX11_linkOf k) k t li lj Q := hQ
      have hR : wbX11_linkOf_3 (wpX11_linkOf k) k t li lj R := hR
      show wbX11_linkOf_3 (wpX11_linkOf k) k t li lj (fun r t => Q r t ∧ R r t)
      unfold wbX11_linkOf_3 at hQ hR ⊢
      exact fun x1 e1 => ih.2.1 _ _ _ (hQ x1 e1) (hR x1 e1)
theorem wjX11_linkOf {k : Nat} {t : XT} {a1 : Int32} {Q R : Int64 → XT → Prop} (hQ : wqX11_linkOf k t a1 Q) (hR : wqX11_linkOf k t a1 R) : wqX11_linkOf k t a1 (fun r t => Q r t ∧ R r t) := (wkX11_linkOfj Q R k).1 t _ _ hQ hR
theorem wiX11_linkOf {k : Nat} {t : XT} {a1 : Int32} {Q R S : Int64 → XT → Prop} (hQ : wqX11_linkOf k t a1 Q) (hR : wqX11_linkOf k t a1 R) (f : ∀ r t, Q r t → R r t → S r t) : wqX11_linkOf k t a1 S := wmX11_linkOf (Nat.le_refl k) (fun r t h => f r t h.1 h.2) (wjX11_linkOf hQ hR)
set_option maxHeartbeats 4000000 in
set_option maxRecDepth 100000 in
theorem wkX9_eulerOfj (Q R : Int32 → XT → Prop) : ∀ k : Nat, (∀ (t : XT) (li : Nat → Int32) (lj : Nat → Int64), wpX9_eulerOf k 0 t li lj Q → wpX9_eulerOf k 0 t li lj R → wpX9_eulerOf k 0 t li lj (fun r t => Q r t ∧ R r t)) ∧ (∀ (t : XT) (li : Nat → Int32) (lj : Nat → Int64), wpX9_eulerOf k 1 t li lj Q → wpX9_eulerOf k 1 t li lj R → wpX9_eulerOf k 1 t li lj (fun r t => Q r t ∧ R r t)) ∧ (∀ (t : XT) (li : Nat → Int32) (lj : Nat → Int64), wpX9_eulerOf k 2 t li lj Q → wpX9_eulerOf k 2 t li lj R → wpX9_eulerOf k 2 t li lj (fun r t => Q r t ∧ R r t)) := by
  intro k
  induction k with
  | zero => exact ⟨fun _ _ _ hR _ => False.elim hR, fun _ _ _ hR _ => False.elim hR, fun _ _ _ hR _ => False.elim hR⟩
  | succ k ih =>
    refine ⟨?_, ?_, ?_⟩
    · intro t li lj hQ hR
      have hQ : wbX9_eulerOf_0 (wpX9_eulerOf k) k t li lj Q := hQ
      have hR : wbX9_eulerOf_0 (wpX9_eulerOf k) k t li lj R := hR
      show wbX9_eulerOf_0 (wpX9_eulerOf k) k t li lj (fun r t => Q r t ∧ R r t)
      unfold wbX9_eulerOf_0 at hQ hR ⊢
      exact ih.2.1 _ _ _ hQ hR
    · intro t li lj hQ hR
      have hQ : wbX9_eulerOf_1 (wpX9_eulerOf k) k t li lj Q := hQ
      have hR : wbX9_eulerOf_1 (wpX9_eulerOf k) k t li lj R := hR
      show wbX9_eulerOf_1 (wpX9_eulerOf k) k t li lj (fun r t => Q r t ∧ R r t)
      unfold wbX9_eulerOf_1 at hQ hR ⊢
      exact ⟨fun c1 => ⟨(hQ.1 c1), (hR.1 c1)⟩, fun c2 => ⟨(hQ.2 c2).1, fun x3 e3 => fun x4 e4 => wiJ13_bitCount_95d88 (((hQ.2 c2).2 x3 e3) x4 e4) (((hR.2 c2).2 x3 e3) x4 e4) (fun y5_0 h5 i5 => fun x6 e6 => ⟨fun c7 => fun x8 e8 => ih.2.2 _ _ _ (((h5 x6 e6).1 c7) x8 e8) (((i5 x6 e6).1 c7) x8 e8), fun c9 => ih.2.2 _ _ _ ((h5 x6 e6).2 c9) ((i5 x6 e6).2 c9)⟩)⟩⟩
    · intro t li lj hQ hR
      have hQ : wbX9_eulerOf_2 (wpX9_eulerOf k) k t li lj Q := hQ
      have hR : wbX9_eulerOf_2 (wpX9_eulerOf k) k t li lj R := hR
      show wbX9_eulerOf_2 (wpX9_eulerOf k) k t li lj (fun r t => Q r t ∧ R r t)
      unfold wbX9_eulerOf_2 at hQ hR ⊢
      exact fun x1 e1 => fun x2 e2 => ih.2.1 _ _ _ ((hQ x1 e1) x2 e2) ((hR x1 e1) x2 e2)
theorem wjX9_eulerOf {k : Nat} {t : XT} {a1 : Int64} {Q R : Int32 → XT → Prop} (hQ : wqX9_eulerOf k t a1 Q) (hR : wqX9_eulerOf k t a1 R) : wqX9_eulerOf k t a1 (fun r t => Q r t ∧ R r t) := (wkX9_eulerOfj Q R k).1 t _ _ hQ hR
theorem wiX9_eulerOf {k : Nat} {t : XT} {a1 : Int64} {Q R S : Int32 → XT → Prop} (hQ : wqX9_eulerOf k t a1 Q) (hR : wqX9_eulerOf k t a1 R) (f : ∀ r t, Q r t → R r t → S r t) : wqX9_eulerOf k t a1 S := wmX9_eulerOf (Nat.le_refl k) (fun r t h => f r t h.1 h.2) (wjX9_eulerOf hQ hR)
set_option maxHeartbeats 4000000 in
set_option maxRecDepth 100000 in
theorem wkX11_linkj (Q R : Int32 → XT → Prop) : ∀ k : Nat, (∀ (t : XT) (li : Nat → Int32) (lj : Nat → Int64), wpX11_link k 0 t li lj Q → wpX11_link k 0 t li lj R → wpX11_link k 0 t li lj (fun r t => Q r t ∧ R r t)) ∧ (∀ (t : XT) (li : Nat → Int32) (lj : Nat → Int64), wpX11_link k 1 t li lj Q → wpX11_link k 1 t li lj R → wpX11_link k 1 t li lj (fun r t => Q r t ∧ R r t)) := by
  intro k
  induction k with
  | zero => exact ⟨fun _ _ _ hR _ => False.elim hR, fun _ _ _ hR _ => False.elim hR⟩
  | succ k ih =>
    refine ⟨?_, ?_⟩
    · intro t li lj hQ hR
      have hQ : wbX11_link_0 (wpX11_link k) k t li lj Q := hQ
      have hR : wbX11_link_0 (wpX11_link k) k t li lj R := hR
      show wbX11_link_0 (wpX11_link k) k t li lj (fun r t => Q r t ∧ R r t)
      unfold wbX11_link_0 at hQ hR ⊢
      exact wiX11_isThere hQ hR (fun y1_0 y1_1 h1 i1 => ⟨fun c2 => ih.2 _ _ _ (h1.1 c2) (i1.1 c2), fun c3 => ⟨fun c4 => ih.2 _ _ _ ((h1.2 c3).1 c4) ((i1.2 c3).1 c4), fun c5 => ⟨fun c6 => wiX11_linkOf (((h1.2 c3).2 c5).1 c6) (((i1.2 c3).2 c5).1 c6) (fun y7_0 y7_1 h7 i7 => ⟨fun c8 => wiX9_eulerOf (h7.1 c8) (i7.1 c8) (fun y9_0 y9_1 h9 i9 => ⟨h9, i9⟩), fun c10 => wiJ13_bitCount_95d88 (h7.2 c10) (i7.2 c10) (fun y11_0 h11 i11 => ⟨h11, i11⟩)⟩), fun c12 => ih.2 _ _ _ (((h1.2 c3).2 c5).2 c12) (((i1.2 c3).2 c5).2 c12)⟩⟩⟩)
    · intro t li lj hQ hR
      have hQ : wbX11_link_1 (wpX11_link k) k t li lj Q := hQ
      have hR : wbX11_link_1 (wpX11_link k) k t li lj R := hR
      show wbX11_link_1 (wpX11_link k) k t li lj (fun r t => Q r t ∧ R r t)
      unfold wbX11_link_1 at hQ hR ⊢
      exact ⟨hQ, hR⟩
theorem wjX11_link {k : Nat} {t : XT} {a1 : Int32} {a2 : Int32} {Q R : Int32 → XT → Prop} (hQ : wqX11_link k t a1 a2 Q) (hR : wqX11_link k t a1 a2 R) : wqX11_link k t a1 a2 (fun r t => Q r t ∧ R r t) := (wkX11_linkj Q R k).1 t _ _ hQ hR
theorem wiX11_link {k : Nat} {t : XT} {a1 : Int32} {a2 : Int32} {Q R S : Int32 → XT → Prop} (hQ : wqX11_link k t a1 a2 Q) (hR : wqX11_link k t a1 a2 R) (f : ∀ r t, Q r t → R r t → S r t) : wqX11_link k t a1 a2 S := wmX11_link (Nat.le_refl k) (fun r t h => f r t h.1 h.2) (wjX11_link hQ hR)
set_option maxHeartbeats 4000000 in
set_option maxRecDepth 100000 in
theorem wkX11_roomAbovej (Q R : Int32 → XT → Prop) : ∀ k : Nat, (∀ (t : XT) (li : Nat → Int32) (lj : Nat → Int64), wpX11_roomAbove k 0 t li lj Q → wpX11_roomAbove k 0 t li lj R → wpX11_roomAbove k 0 t li lj (fun r t => Q r t ∧ R r t)) ∧ (∀ (t : XT) (li : Nat → Int32) (lj : Nat → Int64), wpX11_roomAbove k 1 t li lj Q → wpX11_roomAbove k 1 t li lj R → wpX11_roomAbove k 1 t li lj (fun r t => Q r t ∧ R r t)) ∧ (∀ (t : XT) (li : Nat → Int32) (lj : Nat → Int64), wpX11_roomAbove k 2 t li lj Q → wpX11_roomAbove k 2 t li lj R → wpX11_roomAbove k 2 t li lj (fun r t => Q r t ∧ R r t)) := by
  intro k
  induction k with
  | zero => exact ⟨fun _ _ _ hR _ => False.elim hR, fun _ _ _ hR _ => False.elim hR, fun _ _ _ hR _ => False.elim hR⟩
  | succ k ih =>
    refine ⟨?_, ?_, ?_⟩
    · intro t li lj hQ hR
      have hQ : wbX11_roomAbove_0 (wpX11_roomAbove k) k t li lj Q := hQ
      have hR : wbX11_roomAbove_0 (wpX11_roomAbove k) k t li lj R := hR
      show wbX11_roomAbove_0 (wpX11_roomAbove k) k t li lj (fun r t => Q r t ∧ R r t)
      unfold wbX11_roomAbove_0 at hQ hR ⊢
      exact fun x1 e1 => ih.2.1 _ _ _ (hQ x1 e1) (hR x1 e1)
    · intro t li lj hQ hR
      have hQ : wbX11_roomAbove_1 (wpX11_roomAbove k) k t li lj Q := hQ
      have hR : wbX11_roomAbove_1 (wpX11_roomAbove k) k t li lj R := hR
      show wbX11_roomAbove_1 (wpX11_roomAbove k) k t li lj (fun r t => Q r t ∧ R r t)
      unfold wbX11_roomAbove_1 at hQ hR ⊢
      exact ⟨fun c1 => ⟨(hQ.1 c1), (hR.1 c1)⟩, fun c2 => wiX11_isIn (hQ.2 c2) (hR.2 c2) (fun y3_0 h3 i3 => ⟨fun c4 => ih.2.2 _ _ _ (h3.1 c4) (i3.1 c4), fun c5 => wiX6_staysAcyclic (h3.2 c5) (i3.2 c5) (fun y6_0 y6_1 h6 i6 => ⟨fun c7 => ih.2.2 _ _ _ (h6.1 c7) (i6.1 c7), fun c8 => fun x9 e9 => ih.2.2 _ _ _ ((h6.2 c8) x9 e9) ((i6.2 c8) x9 e9)⟩)⟩)⟩
    · intro t li lj hQ hR
      have hQ : wbX11_roomAbove_2 (wpX11_roomAbove k) k t li lj Q := hQ
      have hR : wbX11_roomAbove_2 (wpX11_roomAbove k) k t li lj R := hR
      show wbX11_roomAbove_2 (wpX11_roomAbove k) k t li lj (fun r t => Q r t ∧ R r t)
      unfold wbX11_roomAbove_2 at hQ hR ⊢
      exact fun x1 e1 => ih.2.1 _ _ _ (hQ x1 e1) (hR x1 e1)
theorem wjX11_roomAbove {k : Nat} {t : XT} {a1 : Int32} {a2 : Int64} {Q R : Int32 → XT → Prop} (hQ : wqX11_roomAbove k t a1 a2 Q) (hR : wqX11_roomAbove k t a1 a2 R) : wqX11_roomAbove k t a1 a2 (fun r t => Q r t ∧ R r t) := (wkX11_roomAbovej Q R k).1 t _ _ hQ hR
theorem wiX11_roomAbove {k : Nat} {t : XT} {a1 : Int32} {a2 : Int64} {Q R S : Int32 → XT → Prop} (hQ : wqX11_roomAbove k t a1 a2 Q) (hR : wqX11_roomAbove k t a1 a2 R) (f : ∀ r t, Q r t → R r t → S r t) : wqX11_roomAbove k t a1 a2 S := wmX11_roomAbove (Nat.le_refl k) (fun r t h => f r t h.1 h.2) (wjX11_roomAbove hQ hR)
set_option maxHeartbeats 4000000 in
set_option maxRecDepth 100000 in
theorem wkX11_roomj (Q R : Int32 → XT → Prop) : ∀ k : Nat, (∀ (t : XT) (li : Nat → Int32) (lj : Nat → Int64), wpX11_room k 0 t li lj Q → wpX11_room k 0 t li lj R → wpX11_room k 0 t li lj (fun r t => Q r t ∧ R r t)) ∧ (∀ (t : XT) (li : Nat → Int32) (lj : Nat → Int64), wpX11_room k 1 t li lj Q → wpX11_room k 1 t li lj R → wpX11_room k 1 t li lj (fun r t => Q r t ∧ R r t)) ∧ (∀ (t : XT) (li : Nat → Int32) (lj : Nat → Int64), wpX11_room k 2 t li lj Q → wpX11_room k 2 t li lj R → wpX11_room k 2 t li lj (fun r t => Q r t ∧ R r t)) := by
  intro k
  induction k with
  | zero => exact ⟨fun _ _ _ hR _ => False.elim hR, fun _ _ _ hR _ => False.elim hR, fun _ _ _ hR _ => False.elim hR⟩
  | succ k ih =>
    refine ⟨?_, ?_, ?_⟩
    · intro t li lj hQ hR
      have hQ : wbX11_room_0 (wpX11_room k) k t li lj Q := hQ
      have hR : wbX11_room_0 (wpX11_room k) k t li lj R := hR
      show wbX11_room_0 (wpX11_room k) k t li lj (fun r t => Q r t ∧ R r t)
      unfold wbX11_room_0 at hQ hR ⊢
      exact wiX11_isDim hQ hR (fun y1_0 h1 i1 => ⟨fun c2 => wiX6_unpaired (h1.1 c2) (i1.1 c2) (fun y3_0 y3_1 h3 i3 => ih.2.1 _ _ _ h3 i3), fun c4 => ⟨(h1.2 c4), (i1.2 c4)⟩⟩)
    · intro t li lj hQ hR
      have hQ : wbX11_room_1 (wpX11_room k) k t li lj Q := hQ
      have hR : wbX11_room_1 (wpX11_room k) k t li lj R := hR
      show wbX11_room_1 (wpX11_room k) k t li lj (fun r t => Q r t ∧ R r t)
      unfold wbX11_room_1 at hQ hR ⊢
      exact ⟨fun c1 => ⟨(hQ.1 c1), (hR.1 c1)⟩, fun c2 => wiX11_isIn (hQ.2 c2) (hR.2 c2) (fun y3_0 h3 i3 => ⟨fun c4 => ih.2.2 _ _ _ (h3.1 c4) (i3.1 c4), fun c5 => ⟨(h3.2 c5).1, fun x6 e6 => ⟨fun c7 => ih.2.2 _ _ _ (((h3.2 c5).2 x6 e6).1 c7) (((i3.2 c5).2 x6 e6).1 c7), fun c8 => ⟨(((h3.2 c5).2 x6 e6).2 c8).1, fun x9 e9 => fun x10 e10 => wiX11_roomAbove (((((h3.2 c5).2 x6 e6).2 c8).2 x9 e9) x10 e10) (((((i3.2 c5).2 x6 e6).2 c8).2 x9 e9) x10 e10) (fun y11_0 y11_1 h11 i11 => fun x12 e12 => ih.2.2 _ _ _ (h11 x12 e12) (i11 x12 e12))⟩⟩⟩⟩)⟩
    · intro t li lj hQ hR
      have hQ : wbX11_room_2 (wpX11_room k) k t li lj Q := hQ
      have hR : wbX11_room_2 (wpX11_room k) k t li lj R := hR
      show wbX11_room_2 (wpX11_room k) k t li lj (fun r t => Q r t ∧ R r t)
      unfold wbX11_room_2 at hQ hR ⊢
      exact fun x1 e1 => ih.2.1 _ _ _ (hQ x1 e1) (hR x1 e1)
theorem wjX11_room {k : Nat} {t : XT} {a1 : Int32} {Q R : Int32 → XT → Prop} (hQ : wqX11_room k t a1 Q) (hR : wqX11_room k t a1 R) : wqX11_room k t a1 (fun r t => Q r t ∧ R r t) := (wkX11_roomj Q R k).1 t _ _ hQ hR
theorem wiX11_room {k : Nat} {t : XT} {a1 : Int32} {Q R S : Int32 → XT → Prop} (hQ : wqX11_room k t a1 Q) (hR : wqX11_room k t a1 R) (f : ∀ r t, Q r t → R r t → S r t) : wqX11_room k t a1 S := wmX11_room (Nat.le_refl k) (fun r t h => f r t h.1 h.2) (wjX11_room hQ hR)
set_option maxHeartbeats 4000000 in
set_option maxRecDepth 100000 in
theorem wkX11_drawsj (Q R : Int32 → XT → Prop) : ∀ k : Nat, (∀ (t : XT) (li : Nat → Int32) (lj : Nat → Int64), wpX11_draws k 0 t li lj Q → wpX11_draws k 0 t li lj R → wpX11_draws k 0 t li lj (fun r t => Q r t ∧ R r t)) := by
  intro k
  induction k with
  | zero => exact fun _ _ _ hR _ => False.elim hR
  | succ k ih =>
    intro t li lj hQ hR
    have hQ : wbX11_draws_0 (wpX11_draws k) k t li lj Q := hQ
    have hR : wbX11_draws_0 (wpX11_draws k) k t li lj R := hR
    show wbX11_draws_0 (wpX11_draws k) k t li lj (fun r t => Q r t ∧ R r t)
    unfold wbX11_draws_0 at hQ hR ⊢
    exact ⟨fun c1 => fun x2 e2 => ⟨((hQ.1 c1) x2 e2), ((hR.1 c1) x2 e2)⟩, fun c3 => ⟨(hQ.2 c3), (hR.2 c3)⟩⟩
theorem wjX11_draws {k : Nat} {t : XT} {a1 : Int32} {Q R : Int32 → XT → Prop} (hQ : wqX11_draws k t a1 Q) (hR : wqX11_draws k t a1 R) : wqX11_draws k t a1 (fun r t => Q r t ∧ R r t) := (wkX11_drawsj Q R k) t _ _ hQ hR
theorem wiX11_draws {k : Nat} {t : XT} {a1 : Int32} {Q R S : Int32 → XT → Prop} (hQ : wqX11_draws k t a1 Q) (hR : wqX11_draws k t a1 R) (f : ∀ r t, Q r t → R r t → S r t) : wqX11_draws k t a1 S := wmX11_draws (Nat.le_refl k) (fun r t h => f r t h.1 h.2) (wjX11_draws hQ hR)
set_option maxHeartbeats 4000000 in
set_option maxRecDepth 100000 in
theorem wkX9_greatestDimj (Q R : Int32 → XT → Prop) : ∀ k : Nat, (∀ (t : XT) (li : Nat → Int32) (lj : Nat → Int64), wpX9_greatestDim k 0 t li lj Q → wpX9_greatestDim k 0 t li lj R → wpX9_greatestDim k 0 t li lj (fun r t => Q r t ∧ R r t)) ∧ (∀ (t : XT) (li : Nat → Int32) (lj : Nat → Int64), wpX9_greatestDim k 1 t li lj Q → wpX9_greatestDim k 1 t li lj R → wpX9_greatestDim k 1 t li lj (fun r t => Q r t ∧ R r t)) ∧ (∀ (t : XT) (li : Nat → Int32) (lj : Nat → Int64), wpX9_greatestDim k 2 t li lj Q → wpX9_greatestDim k 2 t li lj R → wpX9_greatestDim k 2 t li lj (fun r t => Q r t ∧ R r t)) := by
  intro k
  induction k with
  | zero => exact ⟨fun _ _ _ hR _ => False.elim hR, fun _ _ _ hR _ => False.elim hR, fun _ _ _ hR _ => False.elim hR⟩
  | succ k ih =>
    refine ⟨?_, ?_, ?_⟩
    · intro t li lj hQ hR
      have hQ : wbX9_greatestDim_0 (wpX9_greatestDim k) k t li lj Q := hQ
      have hR : wbX9_greatestDim_0 (wpX9_greatestDim k) k t li lj R := hR
      show wbX9_greatestDim_0 (wpX9_greatestDim k) k t li lj (fun r t => Q r t ∧ R r t)
      unfold wbX9_greatestDim_0 at hQ hR ⊢
      exact ih.2.1 _ _ _ hQ hR
    · intro t li lj hQ hR
      have hQ : wbX9_greatestDim_1 (wpX9_greatestDim k) k t li lj Q := hQ
      have hR : wbX9_greatestDim_1 (wpX9_greatestDim k) k t li lj R := hR
      show wbX9_greatestDim_1 (wpX9_greatestDim k) k t li lj (fun r t => Q r t ∧ R r t)
      unfold wbX9_greatestDim_1 at hQ hR ⊢
      exact ⟨fun c1 => ⟨(hQ.1 c1), (hR.1 c1)⟩, fun c2 => ⟨(hQ.2 c2).1, fun x3 e3 => fun x4 e4 => fun x5 e5 => ⟨fun c6 => ih.2.2 _ _ _ (((((hQ.2 c2).2 x3 e3) x4 e4) x5 e5).1 c6) (((((hR.2 c2).2 x3 e3) x4 e4) x5 e5).1 c6), fun c7 => ih.2.2 _ _ _ (((((hQ.2 c2).2 x3 e3) x4 e4) x5 e5).2 c7) (((((hR.2 c2).2 x3 e3) x4 e4) x5 e5).2 c7)⟩⟩⟩
    · intro t li lj hQ hR
      have hQ : wbX9_greatestDim_2 (wpX9_greatestDim k) k t li lj Q := hQ
      have hR : wbX9_greatestDim_2 (wpX9_greatestDim k) k t li lj R := hR
      show wbX9_greatestDim_2 (wpX9_greatestDim k) k t li lj (fun r t => Q r t ∧ R r t)
      unfold wbX9_greatestDim_2 at hQ hR ⊢
      exact fun x1 e1 => ih.2.1 _ _ _ (hQ x1 e1) (hR x1 e1)
theorem wjX9_greatestDim {k : Nat} {t : XT} {a1 : Int64} {Q R : Int32 → XT → Prop} (hQ : wqX9_greatestDim k t a1 Q) (hR : wqX9_greatestDim k t a1 R) : wqX9_greatestDim k t a1 (fun r t => Q r t ∧ R r t) := (wkX9_greatestDimj Q R k).1 t _ _ hQ hR
theorem wiX9_greatestDim {k : Nat} {t : XT} {a1 : Int64} {Q R S : Int32 → XT → Prop} (hQ : wqX9_greatestDim k t a1 Q) (hR : wqX9_greatestDim k t a1 R) (f : ∀ r t, Q r t → R r t → S r t) : wqX9_greatestDim k t a1 S := wmX9_greatestDim (Nat.le_refl k) (fun r t h => f r t h.1 h.2) (wjX9_greatestDim hQ hR)
set_option maxHeartbeats 4000000 in
set_option maxRecDepth 100000 in
theorem wkX7_greatestj (Q R : Int64 → XT → Prop) : ∀ k : Nat, (∀ (t : XT) (li : Nat → Int32) (lj : Nat → Int64), wpX7_greatest k 0 t li lj Q → wpX7_greatest k 0 t li lj R → wpX7_greatest k 0 t li lj (fun r t => Q r t ∧ R r t)) := by
  intro k
  induction k with
  | zero => exact fun _ _ _ hR _ => False.elim hR
  | succ k ih =>
    intro t li lj hQ hR
    have hQ : wbX7_greatest_0 (wpX7_greatest k) k t li lj Q := hQ
    have hR : wbX7_greatest_0 (wpX7_greatest k) k t li lj R := hR
    show wbX7_greatest_0 (wpX7_greatest k) k t li lj (fun r t => Q r t ∧ R r t)
    unfold wbX7_greatest_0 at hQ hR ⊢
    exact wiX9_greatestDim hQ hR (fun y1_0 y1_1 h1 i1 => wiX11_isDim h1 i1 (fun y2_0 h2 i2 => ⟨fun c3 => ⟨(h2.1 c3), (i2.1 c3)⟩, fun c4 => ⟨(h2.2 c4).1, fun x5 e5 => fun x6 e6 => ⟨(((h2.2 c4).2 x5 e5) x6 e6), (((i2.2 c4).2 x5 e5) x6 e6)⟩⟩⟩))
theorem wjX7_greatest {k : Nat} {t : XT}  {Q R : Int64 → XT → Prop} (hQ : wqX7_greatest k t  Q) (hR : wqX7_greatest k t  R) : wqX7_greatest k t  (fun r t => Q r t ∧ R r t) := (wkX7_greatestj Q R k) t _ _ hQ hR
theorem wiX7_greatest {k : Nat} {t : XT}  {Q R S : Int64 → XT → Prop} (hQ : wqX7_greatest k t  Q) (hR : wqX7_greatest k t  R) (f : ∀ r t, Q r t → R r t → S r t) : wqX7_greatest k t  S := wmX7_greatest (Nat.le_refl k) (fun r t h => f r t h.1 h.2) (wjX7_greatest hQ hR)
set_option maxHeartbeats 4000000 in
set_option maxRecDepth 100000 in
theorem wkX11_drawFromj (Q R : Int32 → XT → Prop) : ∀ k : Nat, (∀ (t : XT) (li : Nat → Int32) (lj : Nat → Int64), wpX11_drawFrom k 0 t li lj Q → wpX11_drawFrom k 0 t li lj R → wpX11_drawFrom k 0 t li lj (fun r t => Q r t ∧ R r t)) := by
  intro k
  induction k with
  | zero => exact fun _ _ _ hR _ => False.elim hR
  | succ k ih =>
    intro t li lj hQ hR
    have hQ : wbX11_drawFrom_0 (wpX11_drawFrom k) k t li lj Q := hQ
    have hR : wbX11_drawFrom_0 (wpX11_drawFrom k) k t li lj R := hR
    show wbX11_drawFrom_0 (wpX11_drawFrom k) k t li lj (fun r t => Q r t ∧ R r t)
    unfold wbX11_drawFrom_0 at hQ hR ⊢
    exact wiJ13_bitCount_95d88 hQ hR (fun y1_0 h1 i1 => fun x2 e2 => fun x3 e3 => fun x4 e4 => ⟨(((h1 x2 e2) x3 e3) x4 e4).1, fun x5 e5 => fun x6 e6 => fun x7 e7 => ⟨fun c8 => ⟨(((((((h1 x2 e2) x3 e3) x4 e4).2 x5 e5) x6 e6) x7 e7).1 c8), (((((((i1 x2 e2) x3 e3) x4 e4).2 x5 e5) x6 e6) x7 e7).1 c8)⟩, fun c9 => ⟨(((((((h1 x2 e2) x3 e3) x4 e4).2 x5 e5) x6 e6) x7 e7).2 c9).1, fun x10 e10 => ⟨((((((((h1 x2 e2) x3 e3) x4 e4).2 x5 e5) x6 e6) x7 e7).2 c9).2 x10 e10).1, fun x11 e11 => wiX11_nth (((((((((h1 x2 e2) x3 e3) x4 e4).2 x5 e5) x6 e6) x7 e7).2 c9).2 x10 e10).2 x11 e11) (((((((((i1 x2 e2) x3 e3) x4 e4).2 x5 e5) x6 e6) x7 e7).2 c9).2 x10 e10).2 x11 e11) (fun y12_0 h12 i12 => ⟨h12, i12⟩)⟩⟩⟩⟩)
theorem wjX11_drawFrom {k : Nat} {t : XT} {a1 : Int64} {Q R : Int32 → XT → Prop} (hQ : wqX11_drawFrom k t a1 Q) (hR : wqX11_drawFrom k t a1 R) : wqX11_drawFrom k t a1 (fun r t => Q r t ∧ R r t) := (wkX11_drawFromj Q R k) t _ _ hQ hR
theorem wiX11_drawFrom {k : Nat} {t : XT} {a1 : Int64} {Q R S : Int32 → XT → Prop} (hQ : wqX11_drawFrom k t a1 Q) (hR : wqX11_drawFrom k t a1 R) (f : ∀ r t, Q r t → R r t → S r t) : wqX11_drawFrom k t a1 S := wmX11_drawFrom (Nat.le_refl k) (fun r t h => f r t h.1 h.2) (wjX11_drawFrom hQ hR)
set_option maxHeartbeats 4000000 in
set_option maxRecDepth 100000 in
theorem wkX11_peelByDrawsj (Q R : Int32 → XT → Prop) : ∀ k : Nat, (∀ (t : XT) (li : Nat → Int32) (lj : Nat → Int64), wpX11_peelByDraws k 0 t li lj Q → wpX11_peelByDraws k 0 t li lj R → wpX11_peelByDraws k 0 t li lj (fun r t => Q r t ∧ R r t)) ∧ (∀ (t : XT) (li : Nat → Int32) (lj : Nat → Int64), wpX11_peelByDraws k 1 t li lj Q → wpX11_peelByDraws k 1 t li lj R → wpX11_peelByDraws k 1 t li lj (fun r t => Q r t ∧ R r t)) ∧ (∀ (t : XT) (li : Nat → Int32) (lj : Nat → Int64), wpX11_peelByDraws k 2 t li lj Q → wpX11_peelByDraws k 2 t li lj R → wpX11_peelByDraws k 2 t li lj (fun r t => Q r t ∧ R r t)) ∧ (∀ (t : XT) (li : Nat → Int32) (lj : Nat → Int64), wpX11_peelByDraws k 3 t li lj Q → wpX11_peelByDraws k 3 t li lj R → wpX11_peelByDraws k 3 t li lj (fun r t => Q r t ∧ R r t)) := by
  intro k
  induction k with
  | zero => exact ⟨fun _ _ _ hR _ => False.elim hR, fun _ _ _ hR _ => False.elim hR, fun _ _ _ hR _ => False.elim hR, fun _ _ _ hR _ => False.elim hR⟩
  | succ k ih =>
    refine ⟨?_, ?_, ?_, ?_⟩
    · intro t li lj hQ hR
      have hQ : wbX11_peelByDraws_0 (wpX11_peelByDraws k) k t li lj Q := hQ
      have hR : wbX11_peelByDraws_0 (wpX11_peelByDraws k) k t li lj R := hR
      show wbX11_peelByDraws_0 (wpX11_peelByDraws k) k t li lj (fun r t => Q r t ∧ R r t)
      unfold wbX11_peelByDraws_0 at hQ hR ⊢
      exact wiX7_begin hQ hR (fun y1_0 h1 i1 => ih.2.1 _ _ _ h1 i1)
    · intro t li lj hQ hR
      have hQ : wbX11_peelByDraws_1 (wpX11_peelByDraws k) k t li lj Q := hQ
      have hR : wbX11_peelByDraws_1 (wpX11_peelByDraws k) k t li lj R := hR
      show wbX11_peelByDraws_1 (wpX11_peelByDraws k) k t li lj (fun r t => Q r t ∧ R r t)
      unfold wbX11_peelByDraws_1 at hQ hR ⊢
      exact ⟨fun c1 => ih.2.2.2 _ _ _ (hQ.1 c1) (hR.1 c1), fun c2 => fun x3 e3 => ⟨fun c4 => ih.2.2.2 _ _ _ (((hQ.2 c2) x3 e3).1 c4) (((hR.2 c2) x3 e3).1 c4), fun c5 => fun x6 e6 => ⟨fun c7 => wiX7_greatest (((((hQ.2 c2) x3 e3).2 c5) x6 e6).1 c7) (((((hR.2 c2) x3 e3).2 c5) x6 e6).1 c7) (fun y8_0 y8_1 h8 i8 => wiX11_drawFrom h8 i8 (fun y9_0 y9_1 h9 i9 => wiX7_close h9 i9 (fun y10_0 h10 i10 => fun x11 e11 => ih.2.2.1 _ _ _ (h10 x11 e11) (i10 x11 e11)))), fun c12 => wiX11_drawFrom (((((hQ.2 c2) x3 e3).2 c5) x6 e6).2 c12) (((((hR.2 c2) x3 e3).2 c5) x6 e6).2 c12) (fun y13_0 y13_1 h13 i13 => wiX7_above h13 i13 (fun y14_0 y14_1 h14 i14 => wiX7_close h14 i14 (fun y15_0 h15 i15 => wiX7_close h15 i15 (fun y16_0 h16 i16 => ih.2.2.1 _ _ _ h16 i16))))⟩⟩⟩
    · intro t li lj hQ hR
      have hQ : wbX11_peelByDraws_2 (wpX11_peelByDraws k) k t li lj Q := hQ
      have hR : wbX11_peelByDraws_2 (wpX11_peelByDraws k) k t li lj R := hR
      show wbX11_peelByDraws_2 (wpX11_peelByDraws k) k t li lj (fun r t => Q r t ∧ R r t)
      unfold wbX11_peelByDraws_2 at hQ hR ⊢
      exact fun x1 e1 => ih.2.1 _ _ _ (hQ x1 e1) (hR x1 e1)
    · intro t li lj hQ hR
      have hQ : wbX11_peelByDraws_3 (wpX11_peelByDraws k) k t li lj Q := hQ
      have hR : wbX11_peelByDraws_3 (wpX11_peelByDraws k) k t li lj R := hR
      show wbX11_peelByDraws_3 (wpX11_peelByDraws k) k t li lj (fun r t => Q r t ∧ R r t)
      unfold wbX11_peelByDraws_3 at hQ hR ⊢
      exact ⟨hQ, hR⟩
theorem wjX11_peelByDraws {k : Nat} {t : XT}  {Q R : Int32 → XT → Prop} (hQ : wqX11_peelByDraws k t  Q) (hR : wqX11_peelByDraws k t  R) : wqX11_peelByDraws k t  (fun r t => Q r t ∧ R r t) := (wkX11_peelByDrawsj Q R k).1 t _ _ hQ hR
theorem wiX11_peelByDraws {k : Nat} {t : XT}  {Q R S : Int32 → XT → Prop} (hQ : wqX11_peelByDraws k t  Q) (hR : wqX11_peelByDraws k t  R) (f : ∀ r t, Q r t → R r t → S r t) : wqX11_peelByDraws k t  S := wmX11_peelByDraws (Nat.le_refl k) (fun r t h => f r t h.1 h.2) (wjX11_peelByDraws hQ hR)
set_option maxHeartbeats 4000000 in
set_option maxRecDepth 100000 in
theorem wkX11_drawnj (Q R : Int32 → XT → Prop) : ∀ k : Nat, (∀ (t : XT) (li : Nat → Int32) (lj : Nat → Int64), wpX11_drawn k 0 t li lj Q → wpX11_drawn k 0 t li lj R → wpX11_drawn k 0 t li lj (fun r t => Q r t ∧ R r t)) ∧ (∀ (t : XT) (li : Nat → Int32) (lj : Nat → Int64), wpX11_drawn k 1 t li lj Q → wpX11_drawn k 1 t li lj R → wpX11_drawn k 1 t li lj (fun r t => Q r t ∧ R r t)) ∧ (∀ (t : XT) (li : Nat → Int32) (lj : Nat → Int64), wpX11_drawn k 2 t li lj Q → wpX11_drawn k 2 t li lj R → wpX11_drawn k 2 t li lj (fun r t => Q r t ∧ R r t)) ∧ (∀ (t : XT) (li : Nat → Int32) (lj : Nat → Int64), wpX11_drawn k 3 t li lj Q → wpX11_drawn k 3 t li lj R → wpX11_drawn k 3 t li lj (fun r t => Q r t ∧ R r t)) ∧ (∀ (t : XT) (li : Nat → Int32) (lj : Nat → Int64), wpX11_drawn k 4 t li lj Q → wpX11_drawn k 4 t li lj R → wpX11_drawn k 4 t li lj (fun r t => Q r t ∧ R r t)) := by
  intro k
  induction k with
  | zero => exact ⟨fun _ _ _ hR _ => False.elim hR, fun _ _ _ hR _ => False.elim hR, fun _ _ _ hR _ => False.elim hR, fun _ _ _ hR _ => False.elim hR, fun _ _ _ hR _ => False.elim hR⟩
  | succ k ih =>
    refine ⟨?_, ?_, ?_, ?_, ?_⟩
    · intro t li lj hQ hR
      have hQ : wbX11_drawn_0 (wpX11_drawn k) k t li lj Q := hQ
      have hR : wbX11_drawn_0 (wpX11_drawn k) k t li lj R := hR
      show wbX11_drawn_0 (wpX11_drawn k) k t li lj (fun r t => Q r t ∧ R r t)
      unfold wbX11_drawn_0 at hQ hR ⊢
      exact ⟨fun c1 => ih.2.1 _ _ _ (hQ.1 c1) (hR.1 c1), fun c2 => ⟨fun c3 => ih.2.1 _ _ _ ((hQ.2 c2).1 c3) ((hR.2 c2).1 c3), fun c4 => ⟨fun c5 => ih.2.1 _ _ _ (((hQ.2 c2).2 c4).1 c5) (((hR.2 c2).2 c4).1 c5), fun c6 => ⟨fun c7 => ih.2.1 _ _ _ ((((hQ.2 c2).2 c4).2 c6).1 c7) ((((hR.2 c2).2 c4).2 c6).1 c7), fun c8 => ⟨fun c9 => ih.2.2.1 _ _ _ (((((hQ.2 c2).2 c4).2 c6).2 c8).1 c9) (((((hR.2 c2).2 c4).2 c6).2 c8).1 c9), fun c10 => ih.2.1 _ _ _ (((((hQ.2 c2).2 c4).2 c6).2 c8).2 c10) (((((hR.2 c2).2 c4).2 c6).2 c8).2 c10)⟩⟩⟩⟩⟩
    · intro t li lj hQ hR
      have hQ : wbX11_drawn_1 (wpX11_drawn k) k t li lj Q := hQ
      have hR : wbX11_drawn_1 (wpX11_drawn k) k t li lj R := hR
      show wbX11_drawn_1 (wpX11_drawn k) k t li lj (fun r t => Q r t ∧ R r t)
      unfold wbX11_drawn_1 at hQ hR ⊢
      exact ⟨hQ, hR⟩
    · intro t li lj hQ hR
      have hQ : wbX11_drawn_2 (wpX11_drawn k) k t li lj Q := hQ
      have hR : wbX11_drawn_2 (wpX11_drawn k) k t li lj R := hR
      show wbX11_drawn_2 (wpX11_drawn k) k t li lj (fun r t => Q r t ∧ R r t)
      unfold wbX11_drawn_2 at hQ hR ⊢
      exact ⟨fun c1 => fun x2 e2 => ⟨fun c3 => ⟨fun c4 => ⟨((((hQ.1 c1) x2 e2).1 c3).1 c4), ((((hR.1 c1) x2 e2).1 c3).1 c4)⟩, fun c5 => ⟨((((hQ.1 c1) x2 e2).1 c3).2 c5), ((((hR.1 c1) x2 e2).1 c3).2 c5)⟩⟩, fun c6 => ⟨(((hQ.1 c1) x2 e2).2 c6), (((hR.1 c1) x2 e2).2 c6)⟩⟩, fun c7 => wiX11_peelByDraws (hQ.2 c7) (hR.2 c7) (fun y8_0 y8_1 h8 i8 => fun x9 e9 => ⟨fun c10 => ih.2.2.2.1 _ _ _ ((h8 x9 e9).1 c10) ((i8 x9 e9).1 c10), fun c11 => ih.2.2.2.1 _ _ _ ((h8 x9 e9).2 c11) ((i8 x9 e9).2 c11)⟩)⟩
    · intro t li lj hQ hR
      have hQ : wbX11_drawn_3 (wpX11_drawn k) k t li lj Q := hQ
      have hR : wbX11_drawn_3 (wpX11_drawn k) k t li lj R := hR
      show wbX11_drawn_3 (wpX11_drawn k) k t li lj (fun r t => Q r t ∧ R r t)
      unfold wbX11_drawn_3 at hQ hR ⊢
      exact ⟨fun c1 => ih.2.2.2.2 _ _ _ (hQ.1 c1) (hR.1 c1), fun c2 => fun x3 e3 => ih.2.2.2.2 _ _ _ ((hQ.2 c2) x3 e3) ((hR.2 c2) x3 e3)⟩
    · intro t li lj hQ hR
      have hQ : wbX11_drawn_4 (wpX11_drawn k) k t li lj Q := hQ
      have hR : wbX11_drawn_4 (wpX11_drawn k) k t li lj R := hR
      show wbX11_drawn_4 (wpX11_drawn k) k t li lj (fun r t => Q r t ∧ R r t)
      unfold wbX11_drawn_4 at hQ hR ⊢
      exact fun x1 e1 => ih.2.2.1 _ _ _ (hQ x1 e1) (hR x1 e1)
theorem wjX11_drawn {k : Nat} {t : XT} {a1 : Int32} {a2 : Int32} {Q R : Int32 → XT → Prop} (hQ : wqX11_drawn k t a1 a2 Q) (hR : wqX11_drawn k t a1 a2 R) : wqX11_drawn k t a1 a2 (fun r t => Q r t ∧ R r t) := (wkX11_drawnj Q R k).1 t _ _ hQ hR
theorem wiX11_drawn {k : Nat} {t : XT} {a1 : Int32} {a2 : Int32} {Q R S : Int32 → XT → Prop} (hQ : wqX11_drawn k t a1 a2 Q) (hR : wqX11_drawn k t a1 a2 R) (f : ∀ r t, Q r t → R r t → S r t) : wqX11_drawn k t a1 a2 S := wmX11_drawn (Nat.le_refl k) (fun r t h => f r t h.1 h.2) (wjX11_drawn hQ hR)
set_option maxHeartbeats 4000000 in
set_option maxRecDepth 100000 in
theorem wkX2_upToj (Q R : Int64 → XT → Prop) : ∀ k : Nat, (∀ (t : XT) (li : Nat → Int32) (lj : Nat → Int64), wpX2_upTo k 0 t li lj Q → wpX2_upTo k 0 t li lj R → wpX2_upTo k 0 t li lj (fun r t => Q r t ∧ R r t)) ∧ (∀ (t : XT) (li : Nat → Int32) (lj : Nat → Int64), wpX2_upTo k 1 t li lj Q → wpX2_upTo k 1 t li lj R → wpX2_upTo k 1 t li lj (fun r t => Q r t ∧ R r t)) ∧ (∀ (t : XT) (li : Nat → Int32) (lj : Nat → Int64), wpX2_upTo k 2 t li lj Q → wpX2_upTo k 2 t li lj R → wpX2_upTo k 2 t li lj (fun r t => Q r t ∧ R r t)) := by
  intro k
  induction k with
  | zero => exact ⟨fun _ _ _ hR _ => False.elim hR, fun _ _ _ hR _ => False.elim hR, fun _ _ _ hR _ => False.elim hR⟩
  | succ k ih =>
    refine ⟨?_, ?_, ?_⟩
    · intro t li lj hQ hR
      have hQ : wbX2_upTo_0 (wpX2_upTo k) k t li lj Q := hQ
      have hR : wbX2_upTo_0 (wpX2_upTo k) k t li lj R := hR
      show wbX2_upTo_0 (wpX2_upTo k) k t li lj (fun r t => Q r t ∧ R r t)
      unfold wbX2_upTo_0 at hQ hR ⊢
      exact wiX2_measure hQ hR (fun y1_0 h1 i1 => ih.2.1 _ _ _ h1 i1)
    · intro t li lj hQ hR
      have hQ : wbX2_upTo_1 (wpX2_upTo k) k t li lj Q := hQ
      have hR : wbX2_upTo_1 (wpX2_upTo k) k t li lj R := hR
      show wbX2_upTo_1 (wpX2_upTo k) k t li lj (fun r t => Q r t ∧ R r t)
      unfold wbX2_upTo_1 at hQ hR ⊢
      exact ⟨fun c1 => ⟨(hQ.1 c1), (hR.1 c1)⟩, fun c2 => ⟨(hQ.2 c2).1, fun x3 e3 => ⟨((hQ.2 c2).2 x3 e3).1, fun x4 e4 => ⟨fun c5 => ih.2.2 _ _ _ ((((hQ.2 c2).2 x3 e3).2 x4 e4).1 c5) ((((hR.2 c2).2 x3 e3).2 x4 e4).1 c5), fun c6 => ⟨((((hQ.2 c2).2 x3 e3).2 x4 e4).2 c6).1, fun x7 e7 => wiX11_bit (((((hQ.2 c2).2 x3 e3).2 x4 e4).2 c6).2 x7 e7) (((((hR.2 c2).2 x3 e3).2 x4 e4).2 c6).2 x7 e7) (fun y8_0 h8 i8 => fun x9 e9 => ih.2.2 _ _ _ (h8 x9 e9) (i8 x9 e9))⟩⟩⟩⟩⟩
    · intro t li lj hQ hR
      have hQ : wbX2_upTo_2 (wpX2_upTo k) k t li lj Q := hQ
      have hR : wbX2_upTo_2 (wpX2_upTo k) k t li lj R := hR
      show wbX2_upTo_2 (wpX2_upTo k) k t li lj (fun r t => Q r t ∧ R r t)
      unfold wbX2_upTo_2 at hQ hR ⊢
      exact fun x1 e1 => ih.2.1 _ _ _ (hQ x1 e1) (hR x1 e1)
theorem wjX2_upTo {k : Nat} {t : XT} {a1 : Int32} {Q R : Int64 → XT → Prop} (hQ : wqX2_upTo k t a1 Q) (hR : wqX2_upTo k t a1 R) : wqX2_upTo k t a1 (fun r t => Q r t ∧ R r t) := (wkX2_upToj Q R k).1 t _ _ hQ hR
theorem wiX2_upTo {k : Nat} {t : XT} {a1 : Int32} {Q R S : Int64 → XT → Prop} (hQ : wqX2_upTo k t a1 Q) (hR : wqX2_upTo k t a1 R) (f : ∀ r t, Q r t → R r t → S r t) : wqX2_upTo k t a1 S := wmX2_upTo (Nat.le_refl k) (fun r t h => f r t h.1 h.2) (wjX2_upTo hQ hR)
set_option maxHeartbeats 4000000 in
set_option maxRecDepth 100000 in
theorem wkX11_levelj (Q R : Int32 → XT → Prop) : ∀ k : Nat, (∀ (t : XT) (li : Nat → Int32) (lj : Nat → Int64), wpX11_level k 0 t li lj Q → wpX11_level k 0 t li lj R → wpX11_level k 0 t li lj (fun r t => Q r t ∧ R r t)) ∧ (∀ (t : XT) (li : Nat → Int32) (lj : Nat → Int64), wpX11_level k 1 t li lj Q → wpX11_level k 1 t li lj R → wpX11_level k 1 t li lj (fun r t => Q r t ∧ R r t)) := by
  intro k
  induction k with
  | zero => exact ⟨fun _ _ _ hR _ => False.elim hR, fun _ _ _ hR _ => False.elim hR⟩
  | succ k ih =>
    refine ⟨?_, ?_⟩
    · intro t li lj hQ hR
      have hQ : wbX11_level_0 (wpX11_level k) k t li lj Q := hQ
      have hR : wbX11_level_0 (wpX11_level k) k t li lj R := hR
      show wbX11_level_0 (wpX11_level k) k t li lj (fun r t => Q r t ∧ R r t)
      unfold wbX11_level_0 at hQ hR ⊢
      exact ⟨fun c1 => ih.2 _ _ _ (hQ.1 c1) (hR.1 c1), fun c2 => ⟨fun c3 => ih.2 _ _ _ ((hQ.2 c2).1 c3) ((hR.2 c2).1 c3), fun c4 => ⟨fun c5 => wiX2_upTo (((hQ.2 c2).2 c4).1 c5) (((hR.2 c2).2 c4).1 c5) (fun y6_0 y6_1 h6 i6 => ⟨fun c7 => wiX9_eulerOf (h6.1 c7) (i6.1 c7) (fun y8_0 y8_1 h8 i8 => ⟨h8, i8⟩), fun c9 => wiJ13_bitCount_95d88 (h6.2 c9) (i6.2 c9) (fun y10_0 h10 i10 => ⟨h10, i10⟩)⟩), fun c11 => ih.2 _ _ _ (((hQ.2 c2).2 c4).2 c11) (((hR.2 c2).2 c4).2 c11)⟩⟩⟩
    · intro t li lj hQ hR
      have hQ : wbX11_level_1 (wpX11_level k) k t li lj Q := hQ
      have hR : wbX11_level_1 (wpX11_level k) k t li lj R := hR
      show wbX11_level_1 (wpX11_level k) k t li lj (fun r t => Q r t ∧ R r t)
      unfold wbX11_level_1 at hQ hR ⊢
      exact ⟨hQ, hR⟩
theorem wjX11_level {k : Nat} {t : XT} {a1 : Int32} {a2 : Int32} {Q R : Int32 → XT → Prop} (hQ : wqX11_level k t a1 a2 Q) (hR : wqX11_level k t a1 a2 R) : wqX11_level k t a1 a2 (fun r t => Q r t ∧ R r t) := (wkX11_levelj Q R k).1 t _ _ hQ hR
theorem wiX11_level {k : Nat} {t : XT} {a1 : Int32} {a2 : Int32} {Q R S : Int32 → XT → Prop} (hQ : wqX11_level k t a1 a2 Q) (hR : wqX11_level k t a1 a2 R) (f : ∀ r t, Q r t → R r t → S r t) : wqX11_level k t a1 a2 S := wmX11_level (Nat.le_refl k) (fun r t h => f r t h.1 h.2) (wjX11_level hQ hR)
set_option maxHeartbeats 4000000 in
set_option maxRecDepth 100000 in
theorem wkX9_withFacesj (Q R : Int64 → XT → Prop) : ∀ k : Nat, (∀ (t : XT) (li : Nat → Int32) (lj : Nat → Int64), wpX9_withFaces k 0 t li lj Q → wpX9_withFaces k 0 t li lj R → wpX9_withFaces k 0 t li lj (fun r t => Q r t ∧ R r t)) ∧ (∀ (t : XT) (li : Nat → Int32) (lj : Nat → Int64), wpX9_withFaces k 1 t li lj Q → wpX9_withFaces k 1 t li lj R → wpX9_withFaces k 1 t li lj (fun r t => Q r t ∧ R r t)) ∧ (∀ (t : XT) (li : Nat → Int32) (lj : Nat → Int64), wpX9_withFaces k 2 t li lj Q → wpX9_withFaces k 2 t li lj R → wpX9_withFaces k 2 t li lj (fun r t => Q r t ∧ R r t)) := by
  intro k
  induction k with
  | zero => exact ⟨fun _ _ _ hR _ => False.elim hR, fun _ _ _ hR _ => False.elim hR, fun _ _ _ hR _ => False.elim hR⟩
  | succ k ih =>
    refine ⟨?_, ?_, ?_⟩
    · intro t li lj hQ hR
      have hQ : wbX9_withFaces_0 (wpX9_withFaces k) k t li lj Q := hQ
      have hR : wbX9_withFaces_0 (wpX9_withFaces k) k t li lj R := hR
      show wbX9_withFaces_0 (wpX9_withFaces k) k t li lj (fun r t => Q r t ∧ R r t)
      unfold wbX9_withFaces_0 at hQ hR ⊢
      exact fun x1 e1 => ih.2.1 _ _ _ (hQ x1 e1) (hR x1 e1)
    · intro t li lj hQ hR
      have hQ : wbX9_withFaces_1 (wpX9_withFaces k) k t li lj Q := hQ
      have hR : wbX9_withFaces_1 (wpX9_withFaces k) k t li lj R := hR
      show wbX9_withFaces_1 (wpX9_withFaces k) k t li lj (fun r t => Q r t ∧ R r t)
      unfold wbX9_withFaces_1 at hQ hR ⊢
      exact ⟨fun c1 => ⟨(hQ.1 c1), (hR.1 c1)⟩, fun c2 => wiX11_isIn (hQ.2 c2) (hR.2 c2) (fun y3_0 h3 i3 => ⟨fun c4 => ih.2.2 _ _ _ (h3.1 c4) (i3.1 c4), fun c5 => ⟨(h3.2 c5).1, fun x6 e6 => fun x7 e7 => ih.2.2 _ _ _ (((h3.2 c5).2 x6 e6) x7 e7) (((i3.2 c5).2 x6 e6) x7 e7)⟩⟩)⟩
    · intro t li lj hQ hR
      have hQ : wbX9_withFaces_2 (wpX9_withFaces k) k t li lj Q := hQ
      have hR : wbX9_withFaces_2 (wpX9_withFaces k) k t li lj R := hR
      show wbX9_withFaces_2 (wpX9_withFaces k) k t li lj (fun r t => Q r t ∧ R r t)
      unfold wbX9_withFaces_2 at hQ hR ⊢
      exact fun x1 e1 => ih.2.1 _ _ _ (hQ x1 e1) (hR x1 e1)
theorem wjX9_withFaces {k : Nat} {t : XT} {a1 : Int64} {Q R : Int64 → XT → Prop} (hQ : wqX9_withFaces k t a1 Q) (hR : wqX9_withFaces k t a1 R) : wqX9_withFaces k t a1 (fun r t => Q r t ∧ R r t) := (wkX9_withFacesj Q R k).1 t _ _ hQ hR
theorem wiX9_withFaces {k : Nat} {t : XT} {a1 : Int64} {Q R S : Int64 → XT → Prop} (hQ : wqX9_withFaces k t a1 Q) (hR : wqX9_withFaces k t a1 R) (f : ∀ r t, Q r t → R r t → S r t) : wqX9_withFaces k t a1 S := wmX9_withFaces (Nat.le_refl k) (fun r t h => f r t h.1 h.2) (wjX9_withFaces hQ hR)
set_option maxHeartbeats 4000000 in
set_option maxRecDepth 100000 in
theorem wkX11_levelBettij (Q R : Int32 → XT → Prop) : ∀ k : Nat, (∀ (t : XT) (li : Nat → Int32) (lj : Nat → Int64), wpX11_levelBetti k 0 t li lj Q → wpX11_levelBetti k 0 t li lj R → wpX11_levelBetti k 0 t li lj (fun r t => Q r t ∧ R r t)) ∧ (∀ (t : XT) (li : Nat → Int32) (lj : Nat → Int64), wpX11_levelBetti k 1 t li lj Q → wpX11_levelBetti k 1 t li lj R → wpX11_levelBetti k 1 t li lj (fun r t => Q r t ∧ R r t)) := by
  intro k
  induction k with
  | zero => exact ⟨fun _ _ _ hR _ => False.elim hR, fun _ _ _ hR _ => False.elim hR⟩
  | succ k ih =>
    refine ⟨?_, ?_⟩
    · intro t li lj hQ hR
      have hQ : wbX11_levelBetti_0 (wpX11_levelBetti k) k t li lj Q := hQ
      have hR : wbX11_levelBetti_0 (wpX11_levelBetti k) k t li lj R := hR
      show wbX11_levelBetti_0 (wpX11_levelBetti k) k t li lj (fun r t => Q r t ∧ R r t)
      unfold wbX11_levelBetti_0 at hQ hR ⊢
      exact ⟨fun c1 => ih.2 _ _ _ (hQ.1 c1) (hR.1 c1), fun c2 => wiX11_isDim (hQ.2 c2) (hR.2 c2) (fun y3_0 h3 i3 => ⟨fun c4 => wiX2_upTo (h3.1 c4) (i3.1 c4) (fun y5_0 y5_1 h5 i5 => wiX9_withFaces h5 i5 (fun y6_0 y6_1 h6 i6 => wiX0_bettiOf h6 i6 (fun y7_0 y7_1 h7 i7 => ⟨h7, i7⟩))), fun c8 => ih.2 _ _ _ (h3.2 c8) (i3.2 c8)⟩)⟩
    · intro t li lj hQ hR
      have hQ : wbX11_levelBetti_1 (wpX11_levelBetti k) k t li lj Q := hQ
      have hR : wbX11_levelBetti_1 (wpX11_levelBetti k) k t li lj R := hR
      show wbX11_levelBetti_1 (wpX11_levelBetti k) k t li lj (fun r t => Q r t ∧ R r t)
      unfold wbX11_levelBetti_1 at hQ hR ⊢
      exact ⟨hQ, hR⟩
theorem wjX11_levelBetti {k : Nat} {t : XT} {a1 : Int32} {a2 : Int32} {Q R : Int32 → XT → Prop} (hQ : wqX11_levelBetti k t a1 a2 Q) (hR : wqX11_levelBetti k t a1 a2 R) : wqX11_levelBetti k t a1 a2 (fun r t => Q r t ∧ R r t) := (wkX11_levelBettij Q R k).1 t _ _ hQ hR
theorem wiX11_levelBetti {k : Nat} {t : XT} {a1 : Int32} {a2 : Int32} {Q R S : Int32 → XT → Prop} (hQ : wqX11_levelBetti k t a1 a2 Q) (hR : wqX11_levelBetti k t a1 a2 R) (f : ∀ r t, Q r t → R r t → S r t) : wqX11_levelBetti k t a1 a2 S := wmX11_levelBetti (Nat.le_refl k) (fun r t h => f r t h.1 h.2) (wjX11_levelBetti hQ hR)
