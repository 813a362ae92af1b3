set_option maxHeartbeats 4000000 in
set_option maxRecDepth 100000 in
theorem wkX12_signOfj (Q R : Int32 → XT → Prop) : ∀ k : Nat, (∀ (t : XT) (li : Nat → Int32) (lj : Nat → Int64), wpX12_signOf k 0 t li lj Q → wpX12_signOf k 0 t li lj R → wpX12_signOf k 0 t li lj (fun r t => Q r t ∧ R r t)) := by
  intro k
  induction k with
  | zero => exact fun _ _ _ hR _ => False.elim hR
  | succ k ih =>
    intro t li lj hQ hR
    have hQ : wbX12_signOf_0 (wpX12_signOf k) k t li lj Q := hQ
    have hR : wbX12_signOf_0 (wpX12_signOf k) k t li lj R := hR
    show wbX12_signOf_0 (wpX12_signOf k) k t li lj (fun r t => Q r t ∧ R r t)
    unfold wbX12_signOf_0 at hQ hR ⊢
    exact ⟨hQ.1, fun x1 e1 => ⟨(hQ.2 x1 e1).1, fun x2 e2 => fun x3 e3 => fun x4 e4 => ⟨((((hQ.2 x1 e1).2 x2 e2) x3 e3) x4 e4).1, fun x5 e5 => fun x6 e6 => fun x7 e7 => wiJ6_bitCount_0f7a4 (((((((hQ.2 x1 e1).2 x2 e2) x3 e3) x4 e4).2 x5 e5) x6 e6) x7 e7) (((((((hR.2 x1 e1).2 x2 e2) x3 e3) x4 e4).2 x5 e5) x6 e6) x7 e7) (fun y8_0 h8 i8 => ⟨h8.1, fun x9 e9 => ⟨fun c10 => ⟨((h8.2 x9 e9).1 c10), ((i8.2 x9 e9).1 c10)⟩, fun c11 => ⟨((h8.2 x9 e9).2 c11), ((i8.2 x9 e9).2 c11)⟩⟩⟩)⟩⟩⟩
theorem wjX12_signOf {k : Nat} {t : XT} {a1 : Int32} {a2 : Int32} {Q R : Int32 → XT → Prop} (hQ : wqX12_signOf k t a1 a2 Q) (hR : wqX12_signOf k t a1 a2 R) : wqX12_signOf k t a1 a2 (fun r t => Q r t ∧ R r t) := (wkX12_signOfj Q R k) t _ _ hQ hR
theorem wiX12_signOf {k : Nat} {t : XT} {a1 : Int32} {a2 : Int32} {Q R S : Int32 → XT → Prop} (hQ : wqX12_signOf k t a1 a2 Q) (hR : wqX12_signOf k t a1 a2 R) (f : ∀ r t, Q r t → R r t → S r t) : wqX12_signOf k t a1 a2 S := wmX12_signOf (Nat.le_refl k) (fun r t h => f r t h.1 h.2) (wjX12_signOf hQ hR)
set_option maxHeartbeats 4000000 in
set_option maxRecDepth 100000 in
theorem wkX12_signj (Q R : Int32 → XT → Prop) : ∀ k : Nat, (∀ (t : XT) (li : Nat → Int32) (lj : Nat → Int64), wpX12_sign k 0 t li lj Q → wpX12_sign k 0 t li lj R → wpX12_sign k 0 t li lj (fun r t => Q r t ∧ R r t)) ∧ (∀ (t : XT) (li : Nat → Int32) (lj : Nat → Int64), wpX12_sign k 1 t li lj Q → wpX12_sign k 1 t li lj R → wpX12_sign k 1 t li lj (fun r t => Q r t ∧ R r t)) := by
  intro k
  induction k with
  | zero => exact ⟨fun _ _ _ hR _ => False.elim hR, fun _ _ _ hR _ => False.elim hR⟩
  | succ k ih =>
    refine ⟨?_, ?_⟩
    · intro t li lj hQ hR
      have hQ : wbX12_sign_0 (wpX12_sign k) k t li lj Q := hQ
      have hR : wbX12_sign_0 (wpX12_sign k) k t li lj R := hR
      show wbX12_sign_0 (wpX12_sign k) k t li lj (fun r t => Q r t ∧ R r t)
      unfold wbX12_sign_0 at hQ hR ⊢
      exact wiX12_isSimplex hQ hR (fun y1_0 y1_1 h1 i1 => ⟨fun c2 => ih.2 _ _ _ (h1.1 c2) (i1.1 c2), fun c3 => wiX12_isSimplex (h1.2 c3) (i1.2 c3) (fun y4_0 y4_1 h4 i4 => ⟨fun c5 => wiX12_isFace (h4.1 c5) (i4.1 c5) (fun y6_0 y6_1 h6 i6 => ⟨fun c7 => ⟨(h6.1 c7), (i6.1 c7)⟩, fun c8 => wiX12_signOf (h6.2 c8) (i6.2 c8) (fun y9_0 y9_1 h9 i9 => ⟨h9, i9⟩)⟩), fun c10 => ih.2 _ _ _ (h4.2 c10) (i4.2 c10)⟩)⟩)
    · intro t li lj hQ hR
      have hQ : wbX12_sign_1 (wpX12_sign k) k t li lj Q := hQ
      have hR : wbX12_sign_1 (wpX12_sign k) k t li lj R := hR
      show wbX12_sign_1 (wpX12_sign k) k t li lj (fun r t => Q r t ∧ R r t)
      unfold wbX12_sign_1 at hQ hR ⊢
      exact ⟨hQ, hR⟩
theorem wjX12_sign {k : Nat} {t : XT} {a1 : Int32} {a2 : Int32} {Q R : Int32 → XT → Prop} (hQ : wqX12_sign k t a1 a2 Q) (hR : wqX12_sign k t a1 a2 R) : wqX12_sign k t a1 a2 (fun r t => Q r t ∧ R r t) := (wkX12_signj Q R k).1 t _ _ hQ hR
theorem wiX12_sign {k : Nat} {t : XT} {a1 : Int32} {a2 : Int32} {Q R S : Int32 → XT → Prop} (hQ : wqX12_sign k t a1 a2 Q) (hR : wqX12_sign k t a1 a2 R) (f : ∀ r t, Q r t → R r t → S r t) : wqX12_sign k t a1 a2 S := wmX12_sign (Nat.le_refl k) (fun r t h => f r t h.1 h.2) (wjX12_sign hQ hR)
set_option maxHeartbeats 4000000 in
set_option maxRecDepth 100000 in
theorem wkX12_isTherej (Q R : Int32 → XT → Prop) : ∀ k : Nat, (∀ (t : XT) (li : Nat → Int32) (lj : Nat → Int64), wpX12_isThere k 0 t li lj Q → wpX12_isThere k 0 t li lj R → wpX12_isThere k 0 t li lj (fun r t => Q r t ∧ R r t)) ∧ (∀ (t : XT) (li : Nat → Int32) (lj : Nat → Int64), wpX12_isThere k 1 t li lj Q → wpX12_isThere k 1 t li lj R → wpX12_isThere k 1 t li lj (fun r t => Q r t ∧ R r t)) := by
  intro k
  induction k with
  | zero => exact ⟨fun _ _ _ hR _ => False.elim hR, fun _ _ _ hR _ => False.elim hR⟩
  | succ k ih =>
    refine ⟨?_, ?_⟩
    · intro t li lj hQ hR
      have hQ : wbX12_isThere_0 (wpX12_isThere k) k t li lj Q := hQ
      have hR : wbX12_isThere_0 (wpX12_isThere k) k t li lj R := hR
      show wbX12_isThere_0 (wpX12_isThere k) k t li lj (fun r t => Q r t ∧ R r t)
      unfold wbX12_isThere_0 at hQ hR ⊢
      exact wiX12_isSimplex hQ hR (fun y1_0 y1_1 h1 i1 => ⟨fun c2 => ih.2 _ _ _ (h1.1 c2) (i1.1 c2), fun c3 => ⟨(h1.2 c3).1, fun x4 e4 => ⟨fun c5 => ih.2 _ _ _ (((h1.2 c3).2 x4 e4).1 c5) (((i1.2 c3).2 x4 e4).1 c5), fun c6 => ⟨(((h1.2 c3).2 x4 e4).2 c6), (((i1.2 c3).2 x4 e4).2 c6)⟩⟩⟩⟩)
    · intro t li lj hQ hR
      have hQ : wbX12_isThere_1 (wpX12_isThere k) k t li lj Q := hQ
      have hR : wbX12_isThere_1 (wpX12_isThere k) k t li lj R := hR
      show wbX12_isThere_1 (wpX12_isThere k) k t li lj (fun r t => Q r t ∧ R r t)
      unfold wbX12_isThere_1 at hQ hR ⊢
      exact ⟨hQ, hR⟩
theorem wjX12_isThere {k : Nat} {t : XT} {a1 : Int32} {Q R : Int32 → XT → Prop} (hQ : wqX12_isThere k t a1 Q) (hR : wqX12_isThere k t a1 R) : wqX12_isThere k t a1 (fun r t => Q r t ∧ R r t) := (wkX12_isTherej Q R k).1 t _ _ hQ hR
theorem wiX12_isThere {k : Nat} {t : XT} {a1 : Int32} {Q R S : Int32 → XT → Prop} (hQ : wqX12_isThere k t a1 Q) (hR : wqX12_isThere k t a1 R) (f : ∀ r t, Q r t → R r t → S r t) : wqX12_isThere k t a1 S := wmX12_isThere (Nat.le_refl k) (fun r t h => f r t h.1 h.2) (wjX12_isThere hQ hR)
set_option maxHeartbeats 4000000 in
set_option maxRecDepth 100000 in
theorem wkX12_isFreej (Q R : Int32 → XT → Prop) : ∀ k : Nat, (∀ (t : XT) (li : Nat → Int32) (lj : Nat → Int64), wpX12_isFree k 0 t li lj Q → wpX12_isFree k 0 t li lj R → wpX12_isFree k 0 t li lj (fun r t => Q r t ∧ R r t)) ∧ (∀ (t : XT) (li : Nat → Int32) (lj : Nat → Int64), wpX12_isFree k 1 t li lj Q → wpX12_isFree k 1 t li lj R → wpX12_isFree k 1 t li lj (fun r t => Q r t ∧ R r t)) := by
  intro k
  induction k with
  | zero => exact ⟨fun _ _ _ hR _ => False.elim hR, fun _ _ _ hR _ => False.elim hR⟩
  | succ k ih =>
    refine ⟨?_, ?_⟩
    · intro t li lj hQ hR
      have hQ : wbX12_isFree_0 (wpX12_isFree k) k t li lj Q := hQ
      have hR : wbX12_isFree_0 (wpX12_isFree k) k t li lj R := hR
      show wbX12_isFree_0 (wpX12_isFree k) k t li lj (fun r t => Q r t ∧ R r t)
      unfold wbX12_isFree_0 at hQ hR ⊢
      exact ⟨hQ.1, fun x1 e1 => ⟨fun c2 => ih.2 _ _ _ ((hQ.2 x1 e1).1 c2) ((hR.2 x1 e1).1 c2), fun c3 => ⟨((hQ.2 x1 e1).2 c3).1, fun x4 e4 => ⟨fun c5 => ih.2 _ _ _ ((((hQ.2 x1 e1).2 c3).2 x4 e4).1 c5) ((((hR.2 x1 e1).2 c3).2 x4 e4).1 c5), fun c6 => ⟨((((hQ.2 x1 e1).2 c3).2 x4 e4).2 c6), ((((hR.2 x1 e1).2 c3).2 x4 e4).2 c6)⟩⟩⟩⟩⟩
    · intro t li lj hQ hR
      have hQ : wbX12_isFree_1 (wpX12_isFree k) k t li lj Q := hQ
      have hR : wbX12_isFree_1 (wpX12_isFree k) k t li lj R := hR
      show wbX12_isFree_1 (wpX12_isFree k) k t li lj (fun r t => Q r t ∧ R r t)
      unfold wbX12_isFree_1 at hQ hR ⊢
      exact ⟨hQ, hR⟩
theorem wjX12_isFree {k : Nat} {t : XT} {a1 : Int32} {a2 : Int32} {Q R : Int32 → XT → Prop} (hQ : wqX12_isFree k t a1 a2 Q) (hR : wqX12_isFree k t a1 a2 R) : wqX12_isFree k t a1 a2 (fun r t => Q r t ∧ R r t) := (wkX12_isFreej Q R k).1 t _ _ hQ hR
theorem wiX12_isFree {k : Nat} {t : XT} {a1 : Int32} {a2 : Int32} {Q R S : Int32 → XT → Prop} (hQ : wqX12_isFree k t a1 a2 Q) (hR : wqX12_isFree k t a1 a2 R) (f : ∀ r t, Q r t → R r t → S r t) : wqX12_isFree k t a1 a2 S := wmX12_isFree (Nat.le_refl k) (fun r t h => f r t h.1 h.2) (wjX12_isFree hQ hR)
set_option maxHeartbeats 4000000 in
set_option maxRecDepth 100000 in
theorem wkX12_leadsOnj (Q R : Int32 → XT → Prop) : ∀ k : Nat, (∀ (t : XT) (li : Nat → Int32) (lj : Nat → Int64), wpX12_leadsOn k 0 t li lj Q → wpX12_leadsOn k 0 t li lj R → wpX12_leadsOn k 0 t li lj (fun r t => Q r t ∧ R r t)) ∧ (∀ (t : XT) (li : Nat → Int32) (lj : Nat → Int64), wpX12_leadsOn k 1 t li lj Q → wpX12_leadsOn k 1 t li lj R → wpX12_leadsOn k 1 t li lj (fun r t => Q r t ∧ R r t)) ∧ (∀ (t : XT) (li : Nat → Int32) (lj : Nat → Int64), wpX12_leadsOn k 2 t li lj Q → wpX12_leadsOn k 2 t li lj R → wpX12_leadsOn k 2 t li lj (fun r t => Q r t ∧ R r t)) := by
  intro k
  induction k with
  | zero => exact ⟨fun _ _ _ hR _ => False.elim hR, fun _ _ _ hR _ => False.elim hR, fun _ _ _ hR _ => False.elim hR⟩
  | succ k ih =>
    refine ⟨?_, ?_, ?_⟩
    · intro t li lj hQ hR
      have hQ : wbX12_leadsOn_0 (wpX12_leadsOn k) k t li lj Q := hQ
      have hR : wbX12_leadsOn_0 (wpX12_leadsOn k) k t li lj R := hR
      show wbX12_leadsOn_0 (wpX12_leadsOn k) k t li lj (fun r t => Q r t ∧ R r t)
      unfold wbX12_leadsOn_0 at hQ hR ⊢
      exact ih.2.1 _ _ _ hQ hR
    · intro t li lj hQ hR
      have hQ : wbX12_leadsOn_1 (wpX12_leadsOn k) k t li lj Q := hQ
      have hR : wbX12_leadsOn_1 (wpX12_leadsOn k) k t li lj R := hR
      show wbX12_leadsOn_1 (wpX12_leadsOn k) k t li lj (fun r t => Q r t ∧ R r t)
      unfold wbX12_leadsOn_1 at hQ hR ⊢
      exact ⟨fun c1 => ⟨(hQ.1 c1), (hR.1 c1)⟩, fun c2 => ⟨fun c3 => ih.2.2 _ _ _ ((hQ.2 c2).1 c3) ((hR.2 c2).1 c3), fun c4 => ⟨((hQ.2 c2).2 c4).1, fun x5 e5 => ⟨fun c6 => ih.2.2 _ _ _ ((((hQ.2 c2).2 c4).2 x5 e5).1 c6) ((((hR.2 c2).2 c4).2 x5 e5).1 c6), fun c7 => ⟨((((hQ.2 c2).2 c4).2 x5 e5).2 c7).1, fun x8 e8 => wiX12_isFace (((((hQ.2 c2).2 c4).2 x5 e5).2 c7).2 x8 e8) (((((hR.2 c2).2 c4).2 x5 e5).2 c7).2 x8 e8) (fun y9_0 y9_1 h9 i9 => ⟨fun c10 => ih.2.2 _ _ _ (h9.1 c10) (i9.1 c10), fun c11 => ⟨(h9.2 c11), (i9.2 c11)⟩⟩)⟩⟩⟩⟩⟩
    · intro t li lj hQ hR
      have hQ : wbX12_leadsOn_2 (wpX12_leadsOn k) k t li lj Q := hQ
      have hR : wbX12_leadsOn_2 (wpX12_leadsOn k) k t li lj R := hR
      show wbX12_leadsOn_2 (wpX12_leadsOn k) k t li lj (fun r t => Q r t ∧ R r t)
      unfold wbX12_leadsOn_2 at hQ hR ⊢
      exact fun x1 e1 => ih.2.1 _ _ _ (hQ x1 e1) (hR x1 e1)
theorem wjX12_leadsOn {k : Nat} {t : XT} {a1 : Int32} {Q R : Int32 → XT → Prop} (hQ : wqX12_leadsOn k t a1 Q) (hR : wqX12_leadsOn k t a1 R) : wqX12_leadsOn k t a1 (fun r t => Q r t ∧ R r t) := (wkX12_leadsOnj Q R k).1 t _ _ hQ hR
theorem wiX12_leadsOn {k : Nat} {t : XT} {a1 : Int32} {Q R S : Int32 → XT → Prop} (hQ : wqX12_leadsOn k t a1 Q) (hR : wqX12_leadsOn k t a1 R) (f : ∀ r t, Q r t → R r t → S r t) : wqX12_leadsOn k t a1 S := wmX12_leadsOn (Nat.le_refl k) (fun r t h => f r t h.1 h.2) (wjX12_leadsOn hQ hR)
set_option maxHeartbeats 4000000 in
set_option maxRecDepth 100000 in
theorem wkX12_isAcyclicj (Q R : Int32 → XT → Prop) : ∀ k : Nat, (∀ (t : XT) (li : Nat → Int32) (lj : Nat → Int64), wpX12_isAcyclic k 0 t li lj Q → wpX12_isAcyclic k 0 t li lj R → wpX12_isAcyclic k 0 t li lj (fun r t => Q r t ∧ R r t)) ∧ (∀ (t : XT) (li : Nat → Int32) (lj : Nat → Int64), wpX12_isAcyclic k 1 t li lj Q → wpX12_isAcyclic k 1 t li lj R → wpX12_isAcyclic k 1 t li lj (fun r t => Q r t ∧ R r t)) ∧ (∀ (t : XT) (li : Nat → Int32) (lj : Nat → Int64), wpX12_isAcyclic k 2 t li lj Q → wpX12_isAcyclic k 2 t li lj R → wpX12_isAcyclic k 2 t li lj (fun r t => Q r t ∧ R r t)) ∧ (∀ (t : XT) (li : Nat → Int32) (lj : Nat → Int64), wpX12_isAcyclic k 3 t li lj Q → wpX12_isAcyclic k 3 t li lj R → wpX12_isAcyclic k 3 t li lj (fun r t => Q r t ∧ R r t)) ∧ (∀ (t : XT) (li : Nat → Int32) (lj : Nat → Int64), wpX12_isAcyclic k 4 t li lj Q → wpX12_isAcyclic k 4 t li lj R → wpX12_isAcyclic k 4 t li lj (fun r t => Q r t ∧ R r t)) ∧ (∀ (t : XT) (li : Nat → Int32) (lj : Nat → Int64), wpX12_isAcyclic k 5 t li lj Q → wpX12_isAcyclic k 5 t li lj R → wpX12_isAcyclic k 5 t li lj (fun r t => Q r t ∧ R r t)) := by
  intro k
  induction k with
  | zero => exact ⟨fun _ _ _ hR _ => False.elim hR, fun _ _ _ hR _ => False.elim hR, fun _ _ _ hR _ => False.elim hR, fun _ _ _ hR _ => False.elim hR, fun _ _ _ hR _ => False.elim hR, fun _ _ _ hR _ => False.elim hR⟩
  | succ k ih =>
    refine ⟨?_, ?_, ?_, ?_, ?_, ?_⟩
    · intro t li lj hQ hR
      have hQ : wbX12_isAcyclic_0 (wpX12_isAcyclic k) k t li lj Q := hQ
      have hR : wbX12_isAcyclic_0 (wpX12_isAcyclic k) k t li lj R := hR
      show wbX12_isAcyclic_0 (wpX12_isAcyclic k) k t li lj (fun r t => Q r t ∧ R r t)
      unfold wbX12_isAcyclic_0 at hQ hR ⊢
      exact ih.2.1 _ _ _ hQ hR
    · intro t li lj hQ hR
      have hQ : wbX12_isAcyclic_1 (wpX12_isAcyclic k) k t li lj Q := hQ
      have hR : wbX12_isAcyclic_1 (wpX12_isAcyclic k) k t li lj R := hR
      show wbX12_isAcyclic_1 (wpX12_isAcyclic k) k t li lj (fun r t => Q r t ∧ R r t)
      unfold wbX12_isAcyclic_1 at hQ hR ⊢
      exact ⟨fun c1 => ih.2.2.1 _ _ _ (hQ.1 c1) (hR.1 c1), fun c2 => wiX12_isLower (hQ.2 c2) (hR.2 c2) (fun y3_0 y3_1 h3 i3 => wiX12_truth h3 i3 (fun y4_0 h4 i4 => ⟨h4.1, fun x5 e5 => fun x6 e6 => ih.2.1 _ _ _ ((h4.2 x5 e5) x6 e6) ((i4.2 x5 e5) x6 e6)⟩))⟩
    · intro t li lj hQ hR
      have hQ : wbX12_isAcyclic_2 (wpX12_isAcyclic k) k t li lj Q := hQ
      have hR : wbX12_isAcyclic_2 (wpX12_isAcyclic k) k t li lj R := hR
      show wbX12_isAcyclic_2 (wpX12_isAcyclic k) k t li lj (fun r t => Q r t ∧ R r t)
      unfold wbX12_isAcyclic_2 at hQ hR ⊢
      exact ⟨fun c1 => ih.2.2.2.2.2 _ _ _ (hQ.1 c1) (hR.1 c1), fun c2 => ih.2.2.2.1 _ _ _ (hQ.2 c2) (hR.2 c2)⟩
    · intro t li lj hQ hR
      have hQ : wbX12_isAcyclic_3 (wpX12_isAcyclic k) k t li lj Q := hQ
      have hR : wbX12_isAcyclic_3 (wpX12_isAcyclic k) k t li lj R := hR
      show wbX12_isAcyclic_3 (wpX12_isAcyclic k) k t li lj (fun r t => Q r t ∧ R r t)
      unfold wbX12_isAcyclic_3 at hQ hR ⊢
      exact ⟨fun c1 => ih.2.2.1 _ _ _ (hQ.1 c1) (hR.1 c1), fun c2 => ⟨(hQ.2 c2).1, fun x3 e3 => ⟨fun c4 => ih.2.2.2.2.1 _ _ _ (((hQ.2 c2).2 x3 e3).1 c4) (((hR.2 c2).2 x3 e3).1 c4), fun c5 => wiX12_leadsOn (((hQ.2 c2).2 x3 e3).2 c5) (((hR.2 c2).2 x3 e3).2 c5) (fun y6_0 y6_1 h6 i6 => ⟨fun c7 => ih.2.2.2.2.1 _ _ _ (h6.1 c7) (i6.1 c7), fun c8 => ⟨(h6.2 c8).1, fun x9 e9 => ih.2.2.2.2.1 _ _ _ ((h6.2 c8).2 x9 e9) ((i6.2 c8).2 x9 e9)⟩⟩)⟩⟩⟩
    · intro t li lj hQ hR
      have hQ : wbX12_isAcyclic_4 (wpX12_isAcyclic k) k t li lj Q := hQ
      have hR : wbX12_isAcyclic_4 (wpX12_isAcyclic k) k t li lj R := hR
      show wbX12_isAcyclic_4 (wpX12_isAcyclic k) k t li lj (fun r t => Q r t ∧ R r t)
      unfold wbX12_isAcyclic_4 at hQ hR ⊢
      exact fun x1 e1 => ih.2.2.2.1 _ _ _ (hQ x1 e1) (hR x1 e1)
    · intro t li lj hQ hR
      have hQ : wbX12_isAcyclic_5 (wpX12_isAcyclic k) k t li lj Q := hQ
      have hR : wbX12_isAcyclic_5 (wpX12_isAcyclic k) k t li lj R := hR
      show wbX12_isAcyclic_5 (wpX12_isAcyclic k) k t li lj (fun r t => Q r t ∧ R r t)
      unfold wbX12_isAcyclic_5 at hQ hR ⊢
      exact ⟨fun c1 => ⟨(hQ.1 c1), (hR.1 c1)⟩, fun c2 => ⟨(hQ.2 c2).1, fun x3 e3 => ⟨fun c4 => fun x5 e5 => ih.2.2.2.2.2 _ _ _ ((((hQ.2 c2).2 x3 e3).1 c4) x5 e5) ((((hR.2 c2).2 x3 e3).1 c4) x5 e5), fun c6 => ⟨(((hQ.2 c2).2 x3 e3).2 c6), (((hR.2 c2).2 x3 e3).2 c6)⟩⟩⟩⟩
theorem wjX12_isAcyclic {k : Nat} {t : XT}  {Q R : Int32 → XT → Prop} (hQ : wqX12_isAcyclic k t  Q) (hR : wqX12_isAcyclic k t  R) : wqX12_isAcyclic k t  (fun r t => Q r t ∧ R r t) := (wkX12_isAcyclicj Q R k).1 t _ _ hQ hR
theorem wiX12_isAcyclic {k : Nat} {t : XT}  {Q R S : Int32 → XT → Prop} (hQ : wqX12_isAcyclic k t  Q) (hR : wqX12_isAcyclic k t  R) (f : ∀ r t, Q r t → R r t → S r t) : wqX12_isAcyclic k t  S := wmX12_isAcyclic (Nat.le_refl k) (fun r t h => f r t h.1 h.2) (wjX12_isAcyclic hQ hR)
set_option maxHeartbeats 4000000 in
set_option maxRecDepth 100000 in
theorem wkX12_couplesj (Q R : Int32 → XT → Prop) : ∀ k : Nat, (∀ (t : XT) (li : Nat → Int32) (lj : Nat → Int64), wpX12_couples k 0 t li lj Q → wpX12_couples k 0 t li lj R → wpX12_couples k 0 t li lj (fun r t => Q r t ∧ R r t)) := by
  intro k
  induction k with
  | zero => exact fun _ _ _ hR _ => False.elim hR
  | succ k ih =>
    intro t li lj hQ hR
    have hQ : wbX12_couples_0 (wpX12_couples k) k t li lj Q := hQ
    have hR : wbX12_couples_0 (wpX12_couples k) k t li lj R := hR
    show wbX12_couples_0 (wpX12_couples k) k t li lj (fun r t => Q r t ∧ R r t)
    unfold wbX12_couples_0 at hQ hR ⊢
    exact ⟨hQ.1, fun x1 e1 => ⟨(hQ.2 x1 e1).1, fun x2 e2 => wiX12_isAcyclic ((hQ.2 x1 e1).2 x2 e2) ((hR.2 x1 e1).2 x2 e2) (fun y3_0 y3_1 h3 i3 => ⟨fun c4 => ⟨(h3.1 c4).1, fun x5 e5 => ⟨((h3.1 c4).2 x5 e5).1, fun x6 e6 => ⟨(((h3.1 c4).2 x5 e5).2 x6 e6), (((i3.1 c4).2 x5 e5).2 x6 e6)⟩⟩⟩, fun c7 => ⟨(h3.2 c7), (i3.2 c7)⟩⟩)⟩⟩
theorem wjX12_couples {k : Nat} {t : XT} {a1 : Int32} {a2 : Int32} {Q R : Int32 → XT → Prop} (hQ : wqX12_couples k t a1 a2 Q) (hR : wqX12_couples k t a1 a2 R) : wqX12_couples k t a1 a2 (fun r t => Q r t ∧ R r t) := (wkX12_couplesj Q R k) t _ _ hQ hR
theorem wiX12_couples {k : Nat} {t : XT} {a1 : Int32} {a2 : Int32} {Q R S : Int32 → XT → Prop} (hQ : wqX12_couples k t a1 a2 Q) (hR : wqX12_couples k t a1 a2 R) (f : ∀ r t, Q r t → R r t → S r t) : wqX12_couples k t a1 a2 S := wmX12_couples (Nat.le_refl k) (fun r t h => f r t h.1 h.2) (wjX12_couples hQ hR)
set_option maxHeartbeats 4000000 in
set_option maxRecDepth 100000 in
theorem wkX12_freesj (Q R : XT → Prop) : ∀ k : Nat, (∀ (t : XT) (li : Nat → Int32) (lj : Nat → Int64), wpX12_frees k 0 t li lj Q → wpX12_frees k 0 t li lj R → wpX12_frees k 0 t li lj (fun t => Q t ∧ R t)) := by
  intro k
  induction k with
  | zero => exact fun _ _ _ hR _ => False.elim hR
  | succ k ih =>
    intro t li lj hQ hR
    have hQ : wbX12_frees_0 (wpX12_frees k) k t li lj Q := hQ
    have hR : wbX12_frees_0 (wpX12_frees k) k t li lj R := hR
    show wbX12_frees_0 (wpX12_frees k) k t li lj (fun t => Q t ∧ R t)
    unfold wbX12_frees_0 at hQ hR ⊢
    exact ⟨hQ.1, fun x1 e1 => ⟨fun c2 => ⟨((hQ.2 x1 e1).1 c2), ((hR.2 x1 e1).1 c2)⟩, fun c3 => ⟨((hQ.2 x1 e1).2 c3).1, fun x4 e4 => ⟨(((hQ.2 x1 e1).2 c3).2 x4 e4).1, fun x5 e5 => ⟨((((hQ.2 x1 e1).2 c3).2 x4 e4).2 x5 e5), ((((hR.2 x1 e1).2 c3).2 x4 e4).2 x5 e5)⟩⟩⟩⟩⟩
theorem wjX12_frees {k : Nat} {t : XT} {a1 : Int32} {Q R : XT → Prop} (hQ : wqX12_frees k t a1 Q) (hR : wqX12_frees k t a1 R) : wqX12_frees k t a1 (fun t => Q t ∧ R t) := (wkX12_freesj Q R k) t _ _ hQ hR
theorem wiX12_frees {k : Nat} {t : XT} {a1 : Int32} {Q R S : XT → Prop} (hQ : wqX12_frees k t a1 Q) (hR : wqX12_frees k t a1 R) (f : ∀ t, Q t → R t → S t) : wqX12_frees k t a1 S := wmX12_frees (Nat.le_refl k) (fun t h => f t h.1 h.2) (wjX12_frees hQ hR)
set_option maxHeartbeats 4000000 in
set_option maxRecDepth 100000 in
theorem wkX12_remembersj (Q R : XT → Prop) : ∀ k : Nat, (∀ (t : XT) (li : Nat → Int32) (lj : Nat → Int64), wpX12_remembers k 0 t li lj Q → wpX12_remembers k 0 t li lj R → wpX12_remembers k 0 t li lj (fun t => Q t ∧ R t)) ∧ (∀ (t : XT) (li : Nat → Int32) (lj : Nat → Int64), wpX12_remembers k 1 t li lj Q → wpX12_remembers k 1 t li lj R → wpX12_remembers k 1 t li lj (fun t => Q t ∧ R t)) ∧ (∀ (t : XT) (li : Nat → Int32) (lj : Nat → Int64), wpX12_remembers k 2 t li lj Q → wpX12_remembers k 2 t li lj R → wpX12_remembers k 2 t li lj (fun t => Q t ∧ R t)) ∧ (∀ (t : XT) (li : Nat → Int32) (lj : Nat → Int64), wpX12_remembers k 3 t li lj Q → wpX12_remembers k 3 t li lj R → wpX12_remembers k 3 t li lj (fun t => Q t ∧ R t)) := by
  intro k
  induction k with
  | zero => exact ⟨fun _ _ _ hR _ => False.elim hR, fun _ _ _ hR _ => False.elim hR, fun _ _ _ hR _ => False.elim hR, fun _ _ _ hR _ => False.elim hR⟩
  | succ k ih =>
    refine ⟨?_, ?_, ?_, ?_⟩
    · intro t li lj hQ hR
      have hQ : wbX12_remembers_0 (wpX12_remembers k) k t li lj Q := hQ
      have hR : wbX12_remembers_0 (wpX12_remembers k) k t li lj R := hR
      show wbX12_remembers_0 (wpX12_remembers k) k t li lj (fun t => Q t ∧ R t)
      unfold wbX12_remembers_0 at hQ hR ⊢
      exact ⟨fun c1 => ih.2.2.1 _ _ _ (hQ.1 c1) (hR.1 c1), fun c2 => ih.2.1 _ _ _ (hQ.2 c2) (hR.2 c2)⟩
    · intro t li lj hQ hR
      have hQ : wbX12_remembers_1 (wpX12_remembers k) k t li lj Q := hQ
      have hR : wbX12_remembers_1 (wpX12_remembers k) k t li lj R := hR
      show wbX12_remembers_1 (wpX12_remembers k) k t li lj (fun t => Q t ∧ R t)
      unfold wbX12_remembers_1 at hQ hR ⊢
      exact ⟨fun c1 => fun x2 e2 => fun x3 e3 => ih.2.2.1 _ _ _ (((hQ.1 c1) x2 e2) x3 e3) (((hR.1 c1) x2 e2) x3 e3), fun c4 => fun x5 e5 => ⟨((hQ.2 c4) x5 e5).1, fun x6 e6 => ⟨(((hQ.2 c4) x5 e5).2 x6 e6).1, fun x7 e7 => fun x8 e8 => ih.2.1 _ _ _ (((((hQ.2 c4) x5 e5).2 x6 e6).2 x7 e7) x8 e8) (((((hR.2 c4) x5 e5).2 x6 e6).2 x7 e7) x8 e8)⟩⟩⟩
    · intro t li lj hQ hR
      have hQ : wbX12_remembers_2 (wpX12_remembers k) k t li lj Q := hQ
      have hR : wbX12_remembers_2 (wpX12_remembers k) k t li lj R := hR
      show wbX12_remembers_2 (wpX12_remembers k) k t li lj (fun t => Q t ∧ R t)
      unfold wbX12_remembers_2 at hQ hR ⊢
      exact fun x1 e1 => ih.2.2.2 _ _ _ (hQ x1 e1) (hR x1 e1)
    · intro t li lj hQ hR
      have hQ : wbX12_remembers_3 (wpX12_remembers k) k t li lj Q := hQ
      have hR : wbX12_remembers_3 (wpX12_remembers k) k t li lj R := hR
      show wbX12_remembers_3 (wpX12_remembers k) k t li lj (fun t => Q t ∧ R t)
      unfold wbX12_remembers_3 at hQ hR ⊢
      exact ⟨fun c1 => fun x2 e2 => fun x3 e3 => ⟨(((hQ.1 c1) x2 e2) x3 e3), (((hR.1 c1) x2 e2) x3 e3)⟩, fun c4 => fun x5 e5 => ⟨((hQ.2 c4) x5 e5).1, fun x6 e6 => ⟨(((hQ.2 c4) x5 e5).2 x6 e6).1, fun x7 e7 => fun x8 e8 => fun x9 e9 => ⟨((((((hQ.2 c4) x5 e5).2 x6 e6).2 x7 e7) x8 e8) x9 e9).1, fun x10 e10 => wiX12_truth (((((((hQ.2 c4) x5 e5).2 x6 e6).2 x7 e7) x8 e8) x9 e9).2 x10 e10) (((((((hR.2 c4) x5 e5).2 x6 e6).2 x7 e7) x8 e8) x9 e9).2 x10 e10) (fun y11_0 h11 i11 => ⟨h11.1, fun x12 e12 => fun x13 e13 => ih.2.2.2 _ _ _ ((h11.2 x12 e12) x13 e13) ((i11.2 x12 e12) x13 e13)⟩)⟩⟩⟩⟩
theorem wjX12_remembers {k : Nat} {t : XT}  {Q R : XT → Prop} (hQ : wqX12_remembers k t  Q) (hR : wqX12_remembers k t  R) : wqX12_remembers k t  (fun t => Q t ∧ R t) := (wkX12_remembersj Q R k).1 t _ _ hQ hR
theorem wiX12_remembers {k : Nat} {t : XT}  {Q R S : XT → Prop} (hQ : wqX12_remembers k t  Q) (hR : wqX12_remembers k t  R) (f : ∀ t, Q t → R t → S t) : wqX12_remembers k t  S := wmX12_remembers (Nat.le_refl k) (fun t h => f t h.1 h.2) (wjX12_remembers hQ hR)
set_option maxHeartbeats 4000000 in
set_option maxRecDepth 100000 in
theorem wkX12_isCriticalj (Q R : Int32 → XT → Prop) : ∀ k : Nat, (∀ (t : XT) (li : Nat → Int32) (lj : Nat → Int64), wpX12_isCritical k 0 t li lj Q → wpX12_isCritical k 0 t li lj R → wpX12_isCritical k 0 t li lj (fun r t => Q r t ∧ R r t)) ∧ (∀ (t : XT) (li : Nat → Int32) (lj : Nat → Int64), wpX12_isCritical k 1 t li lj Q → wpX12_isCritical k 1 t li lj R → wpX12_isCritical k 1 t li lj (fun r t => Q r t ∧ R r t)) := by
  intro k
  induction k with
  | zero => exact ⟨fun _ _ _ hR _ => False.elim hR, fun _ _ _ hR _ => False.elim hR⟩
  | succ k ih =>
    refine ⟨?_, ?_⟩
    · intro t li lj hQ hR
      have hQ : wbX12_isCritical_0 (wpX12_isCritical k) k t li lj Q := hQ
      have hR : wbX12_isCritical_0 (wpX12_isCritical k) k t li lj R := hR
      show wbX12_isCritical_0 (wpX12_isCritical k) k t li lj (fun r t => Q r t ∧ R r t)
      unfold wbX12_isCritical_0 at hQ hR ⊢
      exact wiX12_isThere hQ hR (fun y1_0 y1_1 h1 i1 => ⟨fun c2 => ih.2 _ _ _ (h1.1 c2) (i1.1 c2), fun c3 => ⟨(h1.2 c3).1, fun x4 e4 => ⟨fun c5 => ih.2 _ _ _ (((h1.2 c3).2 x4 e4).1 c5) (((i1.2 c3).2 x4 e4).1 c5), fun c6 => ⟨(((h1.2 c3).2 x4 e4).2 c6), (((i1.2 c3).2 x4 e4).2 c6)⟩⟩⟩⟩)
    · intro t li lj hQ hR
      have hQ : wbX12_isCritical_1 (wpX12_isCritical k) k t li lj Q := hQ
      have hR : wbX12_isCritical_1 (wpX12_isCritical k) k t li lj R := hR
      show wbX12_isCritical_1 (wpX12_isCritical k) k t li lj (fun r t => Q r t ∧ R r t)
      unfold wbX12_isCritical_1 at hQ hR ⊢
      exact ⟨hQ, hR⟩
theorem wjX12_isCritical {k : Nat} {t : XT} {a1 : Int32} {Q R : Int32 → XT → Prop} (hQ : wqX12_isCritical k t a1 Q) (hR : wqX12_isCritical k t a1 R) : wqX12_isCritical k t a1 (fun r t => Q r t ∧ R r t) := (wkX12_isCriticalj Q R k).1 t _ _ hQ hR
theorem wiX12_isCritical {k : Nat} {t : XT} {a1 : Int32} {Q R S : Int32 → XT → Prop} (hQ : wqX12_isCritical k t a1 Q) (hR : wqX12_isCritical k t a1 R) (f : ∀ r t, Q r t → R r t → S r t) : wqX12_isCritical k t a1 S := wmX12_isCritical (Nat.le_refl k) (fun r t h => f r t h.1 h.2) (wjX12_isCritical hQ hR)
set_option maxHeartbeats 4000000 in
set_option maxRecDepth 100000 in
theorem wkX12_criticalManyj (Q R : Int32 → XT → Prop) : ∀ k : Nat, (∀ (t : XT) (li : Nat → Int32) (lj : Nat → Int64), wpX12_criticalMany k 0 t li lj Q → wpX12_criticalMany k 0 t li lj R → wpX12_criticalMany k 0 t li lj (fun r t => Q r t ∧ R r t)) ∧ (∀ (t : XT) (li : Nat → Int32) (lj : Nat → Int64), wpX12_criticalMany k 1 t li lj Q → wpX12_criticalMany k 1 t li lj R → wpX12_criticalMany k 1 t li lj (fun r t => Q r t ∧ R r t)) := by
  intro k
  induction k with
  | zero => exact ⟨fun _ _ _ hR _ => False.elim hR, fun _ _ _ hR _ => False.elim hR⟩
  | succ k ih =>
    refine ⟨?_, ?_⟩
    · intro t li lj hQ hR
      have hQ : wbX12_criticalMany_0 (wpX12_criticalMany k) k t li lj Q := hQ
      have hR : wbX12_criticalMany_0 (wpX12_criticalMany k) k t li lj R := hR
      show wbX12_criticalMany_0 (wpX12_criticalMany k) k t li lj (fun r t => Q r t ∧ R r t)
      unfold wbX12_criticalMany_0 at hQ hR ⊢
      exact ih.2 _ _ _ hQ hR
    · intro t li lj hQ hR
      have hQ : wbX12_criticalMany_1 (wpX12_criticalMany k) k t li lj Q := hQ
      have hR : wbX12_criticalMany_1 (wpX12_criticalMany k) k t li lj R := hR
      show wbX12_criticalMany_1 (wpX12_criticalMany k) k t li lj (fun r t => Q r t ∧ R r t)
      unfold wbX12_criticalMany_1 at hQ hR ⊢
      exact ⟨fun c1 => ⟨(hQ.1 c1), (hR.1 c1)⟩, fun c2 => wiX12_isCritical (hQ.2 c2) (hR.2 c2) (fun y3_0 y3_1 h3 i3 => wiX12_truth h3 i3 (fun y4_0 h4 i4 => fun x5 e5 => fun x6 e6 => ih.2 _ _ _ ((h4 x5 e5) x6 e6) ((i4 x5 e5) x6 e6)))⟩
theorem wjX12_criticalMany {k : Nat} {t : XT}  {Q R : Int32 → XT → Prop} (hQ : wqX12_criticalMany k t  Q) (hR : wqX12_criticalMany k t  R) : wqX12_criticalMany k t  (fun r t => Q r t ∧ R r t) := (wkX12_criticalManyj Q R k).1 t _ _ hQ hR
theorem wiX12_criticalMany {k : Nat} {t : XT}  {Q R S : Int32 → XT → Prop} (hQ : wqX12_criticalMany k t  Q) (hR : wqX12_criticalMany k t  R) (f : ∀ r t, Q r t → R r t → S r t) : wqX12_criticalMany k t  S := wmX12_criticalMany (Nat.le_refl k) (fun r t h => f r t h.1 h.2) (wjX12_criticalMany hQ hR)
set_option maxHeartbeats 4000000 in
set_option maxRecDepth 100000 in
theorem wkX12_pairj (Q R : Int32 → XT → Prop) : ∀ k : Nat, (∀ (t : XT) (li : Nat → Int32) (lj : Nat → Int64), wpX12_pair k 0 t li lj Q → wpX12_pair k 0 t li lj R → wpX12_pair k 0 t li lj (fun r t => Q r t ∧ R r t)) ∧ (∀ (t : XT) (li : Nat → Int32) (lj : Nat → Int64), wpX12_pair k 1 t li lj Q → wpX12_pair k 1 t li lj R → wpX12_pair k 1 t li lj (fun r t => Q r t ∧ R r t)) := by
  intro k
  induction k with
  | zero => exact ⟨fun _ _ _ hR _ => False.elim hR, fun _ _ _ hR _ => False.elim hR⟩
  | succ k ih =>
    refine ⟨?_, ?_⟩
    · intro t li lj hQ hR
      have hQ : wbX12_pair_0 (wpX12_pair k) k t li lj Q := hQ
      have hR : wbX12_pair_0 (wpX12_pair k) k t li lj R := hR
      show wbX12_pair_0 (wpX12_pair k) k t li lj (fun r t => Q r t ∧ R r t)
      unfold wbX12_pair_0 at hQ hR ⊢
      exact wiX12_isThere hQ hR (fun y1_0 y1_1 h1 i1 => ⟨fun c2 => ih.2 _ _ _ (h1.1 c2) (i1.1 c2), fun c3 => wiX12_isThere (h1.2 c3) (i1.2 c3) (fun y4_0 y4_1 h4 i4 => ⟨fun c5 => ih.2 _ _ _ (h4.1 c5) (i4.1 c5), fun c6 => wiX12_isFace (h4.2 c6) (i4.2 c6) (fun y7_0 y7_1 h7 i7 => ⟨fun c8 => ih.2 _ _ _ (h7.1 c8) (i7.1 c8), fun c9 => wiX12_isFree (h7.2 c9) (i7.2 c9) (fun y10_0 y10_1 h10 i10 => ⟨fun c11 => wiX12_couples (h10.1 c11) (i10.1 c11) (fun y12_0 y12_1 h12 i12 => ⟨fun c13 => wiX12_frees (h12.1 c13) (i12.1 c13) (fun y14_0 h14 i14 => wiX12_remembers h14 i14 (fun y15_0 h15 i15 => ⟨h15.1, fun x16 e16 => ⟨(h15.2 x16 e16).1, fun x17 e17 => wiX12_criticalMany ((h15.2 x16 e16).2 x17 e17) ((i15.2 x16 e16).2 x17 e17) (fun y18_0 y18_1 h18 i18 => ⟨h18, i18⟩)⟩⟩)), fun c19 => ⟨(h12.2 c19), (i12.2 c19)⟩⟩), fun c20 => ih.2 _ _ _ (h10.2 c20) (i10.2 c20)⟩)⟩)⟩)⟩)
    · intro t li lj hQ hR
      have hQ : wbX12_pair_1 (wpX12_pair k) k t li lj Q := hQ
      have hR : wbX12_pair_1 (wpX12_pair k) k t li lj R := hR
      show wbX12_pair_1 (wpX12_pair k) k t li lj (fun r t => Q r t ∧ R r t)
      unfold wbX12_pair_1 at hQ hR ⊢
      exact ⟨hQ, hR⟩
theorem wjX12_pair {k : Nat} {t : XT} {a1 : Int32} {a2 : Int32} {Q R : Int32 → XT → Prop} (hQ : wqX12_pair k t a1 a2 Q) (hR : wqX12_pair k t a1 a2 R) : wqX12_pair k t a1 a2 (fun r t => Q r t ∧ R r t) := (wkX12_pairj Q R k).1 t _ _ hQ hR
theorem wiX12_pair {k : Nat} {t : XT} {a1 : Int32} {a2 : Int32} {Q R S : Int32 → XT → Prop} (hQ : wqX12_pair k t a1 a2 Q) (hR : wqX12_pair k t a1 a2 R) (f : ∀ r t, Q r t → R r t → S r t) : wqX12_pair k t a1 a2 S := wmX12_pair (Nat.le_refl k) (fun r t h => f r t h.1 h.2) (wjX12_pair hQ hR)
set_option maxHeartbeats 4000000 in
set_option maxRecDepth 100000 in
theorem wkX12_partj (Q R : Int32 → XT → Prop) : ∀ k : Nat, (∀ (t : XT) (li : Nat → Int32) (lj : Nat → Int64), wpX12_part k 0 t li lj Q → wpX12_part k 0 t li lj R → wpX12_part k 0 t li lj (fun r t => Q r t ∧ R r t)) ∧ (∀ (t : XT) (li : Nat → Int32) (lj : Nat → Int64), wpX12_part k 1 t li lj Q → wpX12_part k 1 t li lj R → wpX12_part k 1 t li lj (fun r t => Q r t ∧ R r t)) := by
  intro k
  induction k with
  | zero => exact ⟨fun _ _ _ hR _ => False.elim hR, fun _ _ _ hR _ => False.elim hR⟩
  | succ k ih =>
    refine ⟨?_, ?_⟩
    · intro t li lj hQ hR
      have hQ : wbX12_part_0 (wpX12_part k) k t li lj Q := hQ
      have hR : wbX12_part_0 (wpX12_part k) k t li lj R := hR
      show wbX12_part_0 (wpX12_part k) k t li lj (fun r t => Q r t ∧ R r t)
      unfold wbX12_part_0 at hQ hR ⊢
      exact wiX12_isSimplex hQ hR (fun y1_0 y1_1 h1 i1 => ⟨fun c2 => ih.2 _ _ _ (h1.1 c2) (i1.1 c2), fun c3 => ⟨(h1.2 c3).1, fun x4 e4 => ⟨fun c5 => wiX12_remembers (((h1.2 c3).2 x4 e4).1 c5) (((i1.2 c3).2 x4 e4).1 c5) (fun y6_0 h6 i6 => wiX12_frees h6 i6 (fun y7_0 h7 i7 => wiX12_criticalMany h7 i7 (fun y8_0 y8_1 h8 i8 => ⟨h8, i8⟩))), fun c9 => ih.2 _ _ _ (((h1.2 c3).2 x4 e4).2 c9) (((i1.2 c3).2 x4 e4).2 c9)⟩⟩⟩)
    · intro t li lj hQ hR
      have hQ : wbX12_part_1 (wpX12_part k) k t li lj Q := hQ
      have hR : wbX12_part_1 (wpX12_part k) k t li lj R := hR
      show wbX12_part_1 (wpX12_part k) k t li lj (fun r t => Q r t ∧ R r t)
      unfold wbX12_part_1 at hQ hR ⊢
      exact ⟨hQ, hR⟩
theorem wjX12_part {k : Nat} {t : XT} {a1 : Int32} {Q R : Int32 → XT → Prop} (hQ : wqX12_part k t a1 Q) (hR : wqX12_part k t a1 R) : wqX12_part k t a1 (fun r t => Q r t ∧ R r t) := (wkX12_partj Q R k).1 t _ _ hQ hR
theorem wiX12_part {k : Nat} {t : XT} {a1 : Int32} {Q R S : Int32 → XT → Prop} (hQ : wqX12_part k t a1 Q) (hR : wqX12_part k t a1 R) (f : ∀ r t, Q r t → R r t → S r t) : wqX12_part k t a1 S := wmX12_part (Nat.le_refl k) (fun r t h => f r t h.1 h.2) (wjX12_part hQ hR)
set_option maxHeartbeats 4000000 in
set_option maxRecDepth 100000 in
theorem wkX12_clearsPairsj (Q R : XT → Prop) : ∀ k : Nat, (∀ (t : XT) (li : Nat → Int32) (lj : Nat → Int64), wpX12_clearsPairs k 0 t li lj Q → wpX12_clearsPairs k 0 t li lj R → wpX12_clearsPairs k 0 t li lj (fun t => Q t ∧ R t)) ∧ (∀ (t : XT) (li : Nat → Int32) (lj : Nat → Int64), wpX12_clearsPairs k 1 t li lj Q → wpX12_clearsPairs k 1 t li lj R → wpX12_clearsPairs k 1 t li lj (fun t => Q t ∧ R t)) := by
  intro k
  induction k with
  | zero => exact ⟨fun _ _ _ hR _ => False.elim hR, fun _ _ _ hR _ => False.elim hR⟩
  | succ k ih =>
    refine ⟨?_, ?_⟩
    · intro t li lj hQ hR
      have hQ : wbX12_clearsPairs_0 (wpX12_clearsPairs k) k t li lj Q := hQ
      have hR : wbX12_clearsPairs_0 (wpX12_clearsPairs k) k t li lj R := hR
      show wbX12_clearsPairs_0 (wpX12_clearsPairs k) k t li lj (fun t => Q t ∧ R t)
      unfold wbX12_clearsPairs_0 at hQ hR ⊢
      exact ih.2 _ _ _ hQ hR
    · intro t li lj hQ hR
      have hQ : wbX12_clearsPairs_1 (wpX12_clearsPairs k) k t li lj Q := hQ
      have hR : wbX12_clearsPairs_1 (wpX12_clearsPairs k) k t li lj R := hR
      show wbX12_clearsPairs_1 (wpX12_clearsPairs k) k t li lj (fun t => Q t ∧ R t)
      unfold wbX12_clearsPairs_1 at hQ hR ⊢
      exact ⟨fun c1 => ⟨(hQ.1 c1), (hR.1 c1)⟩, fun c2 => ⟨(hQ.2 c2).1, fun x3 e3 => fun x4 e4 => ih.2 _ _ _ (((hQ.2 c2).2 x3 e3) x4 e4) (((hR.2 c2).2 x3 e3) x4 e4)⟩⟩
theorem wjX12_clearsPairs {k : Nat} {t : XT}  {Q R : XT → Prop} (hQ : wqX12_clearsPairs k t  Q) (hR : wqX12_clearsPairs k t  R) : wqX12_clearsPairs k t  (fun t => Q t ∧ R t) := (wkX12_clearsPairsj Q R k).1 t _ _ hQ hR
theorem wiX12_clearsPairs {k : Nat} {t : XT}  {Q R S : XT → Prop} (hQ : wqX12_clearsPairs k t  Q) (hR : wqX12_clearsPairs k t  R) (f : ∀ t, Q t → R t → S t) : wqX12_clearsPairs k t  S := wmX12_clearsPairs (Nat.le_refl k) (fun t h => f t h.1 h.2) (wjX12_clearsPairs hQ hR)
set_option maxHeartbeats 4000000 in
set_option maxRecDepth 100000 in
theorem wkX12_opensAllj (Q R : XT → Prop) : ∀ k : Nat, (∀ (t : XT) (li : Nat → Int32) (lj : Nat → Int64), wpX12_opensAll k 0 t li lj Q → wpX12_opensAll k 0 t li lj R → wpX12_opensAll k 0 t li lj (fun t => Q t ∧ R t)) ∧ (∀ (t : XT) (li : Nat → Int32) (lj : Nat → Int64), wpX12_opensAll k 1 t li lj Q → wpX12_opensAll k 1 t li lj R → wpX12_opensAll k 1 t li lj (fun t => Q t ∧ R t)) ∧ (∀ (t : XT) (li : Nat → Int32) (lj : Nat → Int64), wpX12_opensAll k 2 t li lj Q → wpX12_opensAll k 2 t li lj R → wpX12_opensAll k 2 t li lj (fun t => Q t ∧ R t)) := by
  intro k
  induction k with
  | zero => exact ⟨fun _ _ _ hR _ => False.elim hR, fun _ _ _ hR _ => False.elim hR, fun _ _ _ hR _ => False.elim hR⟩
  | succ k ih =>
    refine ⟨?_, ?_, ?_⟩
    · intro t li lj hQ hR
      have hQ : wbX12_opensAll_0 (wpX12_opensAll k) k t li lj Q := hQ
      have hR : wbX12_opensAll_0 (wpX12_opensAll k) k t li lj R := hR
      show wbX12_opensAll_0 (wpX12_opensAll k) k t li lj (fun t => Q t ∧ R t)
      unfold wbX12_opensAll_0 at hQ hR ⊢
      exact wiX12_clearsPairs hQ hR (fun y1_0 h1 i1 => ih.2.1 _ _ _ h1 i1)
    · intro t li lj hQ hR
      have hQ : wbX12_opensAll_1 (wpX12_opensAll k) k t li lj Q := hQ
      have hR : wbX12_opensAll_1 (wpX12_opensAll k) k t li lj R := hR
      show wbX12_opensAll_1 (wpX12_opensAll k) k t li lj (fun t => Q t ∧ R t)
      unfold wbX12_opensAll_1 at hQ hR ⊢
      exact ⟨fun c1 => ⟨(hQ.1 c1), (hR.1 c1)⟩, fun c2 => ⟨(hQ.2 c2).1, fun x3 e3 => ⟨fun c4 => ih.2.2 _ _ _ (((hQ.2 c2).2 x3 e3).1 c4) (((hR.2 c2).2 x3 e3).1 c4), fun c5 => ih.2.2 _ _ _ (((hQ.2 c2).2 x3 e3).2 c5) (((hR.2 c2).2 x3 e3).2 c5)⟩⟩⟩
    · intro t li lj hQ hR
      have hQ : wbX12_opensAll_2 (wpX12_opensAll k) k t li lj Q := hQ
      have hR : wbX12_opensAll_2 (wpX12_opensAll k) k t li lj R := hR
      show wbX12_opensAll_2 (wpX12_opensAll k) k t li lj (fun t => Q t ∧ R t)
      unfold wbX12_opensAll_2 at hQ hR ⊢
      exact ⟨hQ.1, fun x1 e1 => fun x2 e2 => ih.2.1 _ _ _ ((hQ.2 x1 e1) x2 e2) ((hR.2 x1 e1) x2 e2)⟩
theorem wjX12_opensAll {k : Nat} {t : XT}  {Q R : XT → Prop} (hQ : wqX12_opensAll k t  Q) (hR : wqX12_opensAll k t  R) : wqX12_opensAll k t  (fun t => Q t ∧ R t) := (wkX12_opensAllj Q R k).1 t _ _ hQ hR
theorem wiX12_opensAll {k : Nat} {t : XT}  {Q R S : XT → Prop} (hQ : wqX12_opensAll k t  Q) (hR : wqX12_opensAll k t  R) (f : ∀ t, Q t → R t → S t) : wqX12_opensAll k t  S := wmX12_opensAll (Nat.le_refl k) (fun t h => f t h.1 h.2) (wjX12_opensAll hQ hR)
set_option maxHeartbeats 4000000 in
set_option maxRecDepth 100000 in
theorem wkX12_onlyOverj (Q R : Int32 → XT → Prop) : ∀ k : Nat, (∀ (t : XT) (li : Nat → Int32) (lj : Nat → Int64), wpX12_onlyOver k 0 t li lj Q → wpX12_onlyOver k 0 t li lj R → wpX12_onlyOver k 0 t li lj (fun r t => Q r t ∧ R r t)) ∧ (∀ (t : XT) (li : Nat → Int32) (lj : Nat → Int64), wpX12_onlyOver k 1 t li lj Q → wpX12_onlyOver k 1 t li lj R → wpX12_onlyOver k 1 t li lj (fun r t => Q r t ∧ R r t)) ∧ (∀ (t : XT) (li : Nat → Int32) (lj : Nat → Int64), wpX12_onlyOver k 2 t li lj Q → wpX12_onlyOver k 2 t li lj R → wpX12_onlyOver k 2 t li lj (fun r t => Q r t ∧ R r t)) := by
  intro k
  induction k with
  | zero => exact ⟨fun _ _ _ hR _ => False.elim hR, fun _ _ _ hR _ => False.elim hR, fun _ _ _ hR _ => False.elim hR⟩
  | succ k ih =>
    refine ⟨?_, ?_, ?_⟩
    · intro t li lj hQ hR
      have hQ : wbX12_onlyOver_0 (wpX12_onlyOver k) k t li lj Q := hQ
      have hR : wbX12_onlyOver_0 (wpX12_onlyOver k) k t li lj R := hR
      show wbX12_onlyOver_0 (wpX12_onlyOver k) k t li lj (fun r t => Q r t ∧ R r t)
      unfold wbX12_onlyOver_0 at hQ hR ⊢
      exact ih.2.1 _ _ _ hQ hR
    · intro t li lj hQ hR
      have hQ : wbX12_onlyOver_1 (wpX12_onlyOver k) k t li lj Q := hQ
      have hR : wbX12_onlyOver_1 (wpX12_onlyOver k) k t li lj R := hR
      show wbX12_onlyOver_1 (wpX12_onlyOver k) k t li lj (fun r t => Q r t ∧ R r t)
      unfold wbX12_onlyOver_1 at hQ hR ⊢
      exact ⟨fun c1 => ⟨(hQ.1 c1), (hR.1 c1)⟩, fun c2 => ⟨(hQ.2 c2).1, fun x3 e3 => ⟨fun c4 => ih.2.2 _ _ _ (((hQ.2 c2).2 x3 e3).1 c4) (((hR.2 c2).2 x3 e3).1 c4), fun c5 => wiX12_isFace (((hQ.2 c2).2 x3 e3).2 c5) (((hR.2 c2).2 x3 e3).2 c5) (fun y6_0 y6_1 h6 i6 => ⟨fun c7 => ih.2.2 _ _ _ (h6.1 c7) (i6.1 c7), fun c8 => ⟨fun c9 => ih.2.2 _ _ _ ((h6.2 c8).1 c9) ((i6.2 c8).1 c9), fun c10 => ⟨((h6.2 c8).2 c10), ((i6.2 c8).2 c10)⟩⟩⟩)⟩⟩⟩
    · intro t li lj hQ hR
      have hQ : wbX12_onlyOver_2 (wpX12_onlyOver k) k t li lj Q := hQ
      have hR : wbX12_onlyOver_2 (wpX12_onlyOver k) k t li lj R := hR
      show wbX12_onlyOver_2 (wpX12_onlyOver k) k t li lj (fun r t => Q r t ∧ R r t)
      unfold wbX12_onlyOver_2 at hQ hR ⊢
      exact fun x1 e1 => ih.2.1 _ _ _ (hQ x1 e1) (hR x1 e1)
theorem wjX12_onlyOver {k : Nat} {t : XT} {a1 : Int32} {Q R : Int32 → XT → Prop} (hQ : wqX12_onlyOver k t a1 Q) (hR : wqX12_onlyOver k t a1 R) : wqX12_onlyOver k t a1 (fun r t => Q r t ∧ R r t) := (wkX12_onlyOverj Q R k).1 t _ _ hQ hR
theorem wiX12_onlyOver {k : Nat} {t : XT} {a1 : Int32} {Q R S : Int32 → XT → Prop} (hQ : wqX12_onlyOver k t a1 Q) (hR : wqX12_onlyOver k t a1 R) (f : ∀ r t, Q r t → R r t → S r t) : wqX12_onlyOver k t a1 S := wmX12_onlyOver (Nat.le_refl k) (fun r t h => f r t h.1 h.2) (wjX12_onlyOver hQ hR)
set_option maxHeartbeats 4000000 in
set_option maxRecDepth 100000 in
theorem wkX12_closesj (Q R : XT → Prop) : ∀ k : Nat, (∀ (t : XT) (li : Nat → Int32) (lj : Nat → Int64), wpX12_closes k 0 t li lj Q → wpX12_closes k 0 t li lj R → wpX12_closes k 0 t li lj (fun t => Q t ∧ R t)) := by
  intro k
  induction k with
  | zero => exact fun _ _ _ hR _ => False.elim hR
  | succ k ih =>
    intro t li lj hQ hR
    have hQ : wbX12_closes_0 (wpX12_closes k) k t li lj Q := hQ
    have hR : wbX12_closes_0 (wpX12_closes k) k t li lj R := hR
    show wbX12_closes_0 (wpX12_closes k) k t li lj (fun t => Q t ∧ R t)
    unfold wbX12_closes_0 at hQ hR ⊢
    exact ⟨hQ.1, fun x1 e1 => ⟨(hQ.2 x1 e1).1, fun x2 e2 => ⟨((hQ.2 x1 e1).2 x2 e2).1, fun x3 e3 => ⟨(((hQ.2 x1 e1).2 x2 e2).2 x3 e3).1, fun x4 e4 => ⟨((((hQ.2 x1 e1).2 x2 e2).2 x3 e3).2 x4 e4), ((((hR.2 x1 e1).2 x2 e2).2 x3 e3).2 x4 e4)⟩⟩⟩⟩⟩
theorem wjX12_closes {k : Nat} {t : XT} {a1 : Int32} {a2 : Int32} {Q R : XT → Prop} (hQ : wqX12_closes k t a1 a2 Q) (hR : wqX12_closes k t a1 a2 R) : wqX12_closes k t a1 a2 (fun t => Q t ∧ R t) := (wkX12_closesj Q R k) t _ _ hQ hR
theorem wiX12_closes {k : Nat} {t : XT} {a1 : Int32} {a2 : Int32} {Q R S : XT → Prop} (hQ : wqX12_closes k t a1 a2 Q) (hR : wqX12_closes k t a1 a2 R) (f : ∀ t, Q t → R t → S t) : wqX12_closes k t a1 a2 S := wmX12_closes (Nat.le_refl k) (fun t h => f t h.1 h.2) (wjX12_closes hQ hR)
set_option maxHeartbeats 4000000 in
set_option maxRecDepth 100000 in
theorem wkX12_auto2j (Q R : XT → Prop) : ∀ k : Nat, (∀ (t : XT) (li : Nat → Int32) (lj : Nat → Int64), wpX12_auto2 k 0 t li lj Q → wpX12_auto2 k 0 t li lj R → wpX12_auto2 k 0 t li lj (fun t => Q t ∧ R t)) ∧ (∀ (t : XT) (li : Nat → Int32) (lj : Nat → Int64), wpX12_auto2 k 1 t li lj Q → wpX12_auto2 k 1 t li lj R → wpX12_auto2 k 1 t li lj (fun t => Q t ∧ R t)) ∧ (∀ (t : XT) (li : Nat → Int32) (lj : Nat → Int64), wpX12_auto2 k 2 t li lj Q → wpX12_auto2 k 2 t li lj R → wpX12_auto2 k 2 t li lj (fun t => Q t ∧ R t)) ∧ (∀ (t : XT) (li : Nat → Int32) (lj : Nat → Int64), wpX12_auto2 k 3 t li lj Q → wpX12_auto2 k 3 t li lj R → wpX12_auto2 k 3 t li lj (fun t => Q t ∧ R t)) ∧ (∀ (t : XT) (li : Nat → Int32) (lj : Nat → Int64), wpX12_auto2 k 4 t li lj Q → wpX12_auto2 k 4 t li lj R → wpX12_auto2 k 4 t li lj (fun t => Q t ∧ R t)) ∧ (∀ (t : XT) (li : Nat → Int32) (lj : Nat → Int64), wpX12_auto2 k 5 t li lj Q → wpX12_auto2 k 5 t li lj R → wpX12_auto2 k 5 t li lj (fun t => Q t ∧ R t)) := by
  intro k
  induction k with
  | zero => exact ⟨fun _ _ _ hR _ => False.elim hR, fun _ _ _ hR _ => False.elim hR, fun _ _ _ hR _ => False.elim hR, fun _ _ _ hR _ => False.elim hR, fun _ _ _ hR _ => False.elim hR, fun _ _ _ hR _ => False.elim hR⟩
  | succ k ih =>
    refine ⟨?_, ?_, ?_, ?_, ?_, ?_⟩
    · intro t li lj hQ hR
      have hQ : wbX12_auto2_0 (wpX12_auto2 k) k t li lj Q := hQ
      have hR : wbX12_auto2_0 (wpX12_auto2 k) k t li lj R := hR
      show wbX12_auto2_0 (wpX12_auto2 k) k t li lj (fun t => Q t ∧ R t)
      unfold wbX12_auto2_0 at hQ hR ⊢
      exact wiX12_opensAll hQ hR (fun y1_0 h1 i1 => ih.2.1 _ _ _ h1 i1)
    · intro t li lj hQ hR
      have hQ : wbX12_auto2_1 (wpX12_auto2 k) k t li lj Q := hQ
      have hR : wbX12_auto2_1 (wpX12_auto2 k) k t li lj R := hR
      show wbX12_auto2_1 (wpX12_auto2 k) k t li lj (fun t => Q t ∧ R t)
      unfold wbX12_auto2_1 at hQ hR ⊢
      exact ⟨fun c1 => ⟨(hQ.1 c1), (hR.1 c1)⟩, fun c2 => ih.2.2.1 _ _ _ (hQ.2 c2) (hR.2 c2)⟩
    · intro t li lj hQ hR
      have hQ : wbX12_auto2_2 (wpX12_auto2 k) k t li lj Q := hQ
      have hR : wbX12_auto2_2 (wpX12_auto2 k) k t li lj R := hR
      show wbX12_auto2_2 (wpX12_auto2 k) k t li lj (fun t => Q t ∧ R t)
      unfold wbX12_auto2_2 at hQ hR ⊢
      exact ⟨fun c1 => ih.2.2.2.2.1 _ _ _ (hQ.1 c1) (hR.1 c1), fun c2 => ⟨fun c3 => ih.2.2.2.2.1 _ _ _ ((hQ.2 c2).1 c3) ((hR.2 c2).1 c3), fun c4 => ⟨((hQ.2 c2).2 c4).1, fun x5 e5 => ⟨fun c6 => ih.2.2.2.1 _ _ _ ((((hQ.2 c2).2 c4).2 x5 e5).1 c6) ((((hR.2 c2).2 c4).2 x5 e5).1 c6), fun c7 => wiX12_onlyOver ((((hQ.2 c2).2 c4).2 x5 e5).2 c7) ((((hR.2 c2).2 c4).2 x5 e5).2 c7) (fun y8_0 y8_1 h8 i8 => ⟨fun c9 => ih.2.2.2.1 _ _ _ (h8.1 c9) (i8.1 c9), fun c10 => wiX12_closes (h8.2 c10) (i8.2 c10) (fun y11_0 h11 i11 => ih.2.2.2.1 _ _ _ h11 i11)⟩)⟩⟩⟩⟩
    · intro t li lj hQ hR
      have hQ : wbX12_auto2_3 (wpX12_auto2 k) k t li lj Q := hQ
      have hR : wbX12_auto2_3 (wpX12_auto2 k) k t li lj R := hR
      show wbX12_auto2_3 (wpX12_auto2 k) k t li lj (fun t => Q t ∧ R t)
      unfold wbX12_auto2_3 at hQ hR ⊢
      exact fun x1 e1 => ih.2.2.1 _ _ _ (hQ x1 e1) (hR x1 e1)
    · intro t li lj hQ hR
      have hQ : wbX12_auto2_4 (wpX12_auto2 k) k t li lj Q := hQ
      have hR : wbX12_auto2_4 (wpX12_auto2 k) k t li lj R := hR
      show wbX12_auto2_4 (wpX12_auto2 k) k t li lj (fun t => Q t ∧ R t)
      unfold wbX12_auto2_4 at hQ hR ⊢
      exact ⟨fun c1 => ih.2.2.2.2.2 _ _ _ (hQ.1 c1) (hR.1 c1), fun c2 => ⟨fun c3 => ih.2.2.2.2.2 _ _ _ ((hQ.2 c2).1 c3) ((hR.2 c2).1 c3), fun c4 => ⟨((hQ.2 c2).2 c4).1, fun x5 e5 => ih.2.2.2.2.2 _ _ _ (((hQ.2 c2).2 c4).2 x5 e5) (((hR.2 c2).2 c4).2 x5 e5)⟩⟩⟩
    · intro t li lj hQ hR
      have hQ : wbX12_auto2_5 (wpX12_auto2 k) k t li lj Q := hQ
      have hR : wbX12_auto2_5 (wpX12_auto2 k) k t li lj R := hR
      show wbX12_auto2_5 (wpX12_auto2 k) k t li lj (fun t => Q t ∧ R t)
      unfold wbX12_auto2_5 at hQ hR ⊢
      exact ih.2.1 _ _ _ hQ hR
theorem wjX12_auto2 {k : Nat} {t : XT}  {Q R : XT → Prop} (hQ : wqX12_auto2 k t  Q) (hR : wqX12_auto2 k t  R) : wqX12_auto2 k t  (fun t => Q t ∧ R t) := (wkX12_auto2j Q R k).1 t _ _ hQ hR
theorem wiX12_auto2 {k : Nat} {t : XT}  {Q R S : XT → Prop} (hQ : wqX12_auto2 k t  Q) (hR : wqX12_auto2 k t  R) (f : ∀ t, Q t → R t → S t) : wqX12_auto2 k t  S := wmX12_auto2 (Nat.le_refl k) (fun t h => f t h.1 h.2) (wjX12_auto2 hQ hR)
set_option maxHeartbeats 4000000 in
set_option maxRecDepth 100000 in
theorem wkX12_auto1j (Q R : XT → Prop) : ∀ k : Nat, (∀ (t : XT) (li : Nat → Int32) (lj : Nat → Int64), wpX12_auto1 k 0 t li lj Q → wpX12_auto1 k 0 t li lj R → wpX12_auto1 k 0 t li lj (fun t => Q t ∧ R t)) ∧ (∀ (t : XT) (li : Nat → Int32) (lj : Nat → Int64), wpX12_auto1 k 1 t li lj Q → wpX12_auto1 k 1 t li lj R → wpX12_auto1 k 1 t li lj (fun t => Q t ∧ R t)) ∧ (∀ (t : XT) (li : Nat → Int32) (lj : Nat → Int64), wpX12_auto1 k 2 t li lj Q → wpX12_auto1 k 2 t li lj R → wpX12_auto1 k 2 t li lj (fun t => Q t ∧ R t)) ∧ (∀ (t : XT) (li : Nat → Int32) (lj : Nat → Int64), wpX12_auto1 k 3 t li lj Q → wpX12_auto1 k 3 t li lj R → wpX12_auto1 k 3 t li lj (fun t => Q t ∧ R t)) ∧ (∀ (t : XT) (li : Nat → Int32) (lj : Nat → Int64), wpX12_auto1 k 4 t li lj Q → wpX12_auto1 k 4 t li lj R → wpX12_auto1 k 4 t li lj (fun t => Q t ∧ R t)) := by
  intro k
  induction k with
  | zero => exact ⟨fun _ _ _ hR _ => False.elim hR, fun _ _ _ hR _ => False.elim hR, fun _ _ _ hR _ => False.elim hR, fun _ _ _ hR _ => False.elim hR, fun _ _ _ hR _ => False.elim hR⟩
  | succ k ih =>
    refine ⟨?_, ?_, ?_, ?_, ?_⟩
    · intro t li lj hQ hR
      have hQ : wbX12_auto1_0 (wpX12_auto1 k) k t li lj Q := hQ
      have hR : wbX12_auto1_0 (wpX12_auto1 k) k t li lj R := hR
      show wbX12_auto1_0 (wpX12_auto1 k) k t li lj (fun t => Q t ∧ R t)
      unfold wbX12_auto1_0 at hQ hR ⊢
      exact fun x1 e1 => ih.2.1 _ _ _ (hQ x1 e1) (hR x1 e1)
    · intro t li lj hQ hR
      have hQ : wbX12_auto1_1 (wpX12_auto1 k) k t li lj Q := hQ
      have hR : wbX12_auto1_1 (wpX12_auto1 k) k t li lj R := hR
      show wbX12_auto1_1 (wpX12_auto1 k) k t li lj (fun t => Q t ∧ R t)
      unfold wbX12_auto1_1 at hQ hR ⊢
      exact ⟨fun c1 => ⟨(hQ.1 c1), (hR.1 c1)⟩, fun c2 => fun x3 e3 => ih.2.2.1 _ _ _ ((hQ.2 c2) x3 e3) ((hR.2 c2) x3 e3)⟩
    · intro t li lj hQ hR
      have hQ : wbX12_auto1_2 (wpX12_auto1 k) k t li lj Q := hQ
      have hR : wbX12_auto1_2 (wpX12_auto1 k) k t li lj R := hR
      show wbX12_auto1_2 (wpX12_auto1 k) k t li lj (fun t => Q t ∧ R t)
      unfold wbX12_auto1_2 at hQ hR ⊢
      exact ⟨fun c1 => ih.2.2.2.2 _ _ _ (hQ.1 c1) (hR.1 c1), fun c2 => wiX12_isCritical (hQ.2 c2) (hR.2 c2) (fun y3_0 y3_1 h3 i3 => ⟨fun c4 => ih.2.2.2.2 _ _ _ (h3.1 c4) (i3.1 c4), fun c5 => wiX12_isFaceThere (h3.2 c5) (i3.2 c5) (fun y6_0 y6_1 h6 i6 => ⟨fun c7 => ih.2.2.2.1 _ _ _ (h6.1 c7) (i6.1 c7), fun c8 => wiX12_isFree (h6.2 c8) (i6.2 c8) (fun y9_0 y9_1 h9 i9 => ⟨fun c10 => ih.2.2.2.1 _ _ _ (h9.1 c10) (i9.1 c10), fun c11 => wiX12_couples (h9.2 c11) (i9.2 c11) (fun y12_0 y12_1 h12 i12 => ih.2.2.2.1 _ _ _ h12 i12)⟩)⟩)⟩)⟩
    · intro t li lj hQ hR
      have hQ : wbX12_auto1_3 (wpX12_auto1 k) k t li lj Q := hQ
      have hR : wbX12_auto1_3 (wpX12_auto1 k) k t li lj R := hR
      show wbX12_auto1_3 (wpX12_auto1 k) k t li lj (fun t => Q t ∧ R t)
      unfold wbX12_auto1_3 at hQ hR ⊢
      exact fun x1 e1 => ih.2.2.1 _ _ _ (hQ x1 e1) (hR x1 e1)
    · intro t li lj hQ hR
      have hQ : wbX12_auto1_4 (wpX12_auto1 k) k t li lj Q := hQ
      have hR : wbX12_auto1_4 (wpX12_auto1 k) k t li lj R := hR
      show wbX12_auto1_4 (wpX12_auto1 k) k t li lj (fun t => Q t ∧ R t)
      unfold wbX12_auto1_4 at hQ hR ⊢
      exact fun x1 e1 => ih.2.1 _ _ _ (hQ x1 e1) (hR x1 e1)
theorem wjX12_auto1 {k : Nat} {t : XT}  {Q R : XT → Prop} (hQ : wqX12_auto1 k t  Q) (hR : wqX12_auto1 k t  R) : wqX12_auto1 k t  (fun t => Q t ∧ R t) := (wkX12_auto1j Q R k).1 t _ _ hQ hR
theorem wiX12_auto1 {k : Nat} {t : XT}  {Q R S : XT → Prop} (hQ : wqX12_auto1 k t  Q) (hR : wqX12_auto1 k t  R) (f : ∀ t, Q t → R t → S t) : wqX12_auto1 k t  S := wmX12_auto1 (Nat.le_refl k) (fun t h => f t h.1 h.2) (wjX12_auto1 hQ hR)
set_option maxHeartbeats 4000000 in
set_option maxRecDepth 100000 in
theorem wkX12_auto0j (Q R : XT → Prop) : ∀ k : Nat, (∀ (t : XT) (li : Nat → Int32) (lj : Nat → Int64), wpX12_auto0 k 0 t li lj Q → wpX12_auto0 k 0 t li lj R → wpX12_auto0 k 0 t li lj (fun t => Q t ∧ R t)) ∧ (∀ (t : XT) (li : Nat → Int32) (lj : Nat → Int64), wpX12_auto0 k 1 t li lj Q → wpX12_auto0 k 1 t li lj R → wpX12_auto0 k 1 t li lj (fun t => Q t ∧ R t)) ∧ (∀ (t : XT) (li : Nat → Int32) (lj : Nat → Int64), wpX12_auto0 k 2 t li lj Q → wpX12_auto0 k 2 t li lj R → wpX12_auto0 k 2 t li lj (fun t => Q t ∧ R t)) ∧ (∀ (t : XT) (li : Nat → Int32) (lj : Nat → Int64), wpX12_auto0 k 3 t li lj Q → wpX12_auto0 k 3 t li lj R → wpX12_auto0 k 3 t li lj (fun t => Q t ∧ R t)) ∧ (∀ (t : XT) (li : Nat → Int32) (lj : Nat → Int64), wpX12_auto0 k 4 t li lj Q → wpX12_auto0 k 4 t li lj R → wpX12_auto0 k 4 t li lj (fun t => Q t ∧ R t)) := by
  intro k
  induction k with
  | zero => exact ⟨fun _ _ _ hR _ => False.elim hR, fun _ _ _ hR _ => False.elim hR, fun _ _ _ hR _ => False.elim hR, fun _ _ _ hR _ => False.elim hR, fun _ _ _ hR _ => False.elim hR⟩
  | succ k ih =>
    refine ⟨?_, ?_, ?_, ?_, ?_⟩
    · intro t li lj hQ hR
      have hQ : wbX12_auto0_0 (wpX12_auto0 k) k t li lj Q := hQ
      have hR : wbX12_auto0_0 (wpX12_auto0 k) k t li lj R := hR
      show wbX12_auto0_0 (wpX12_auto0 k) k t li lj (fun t => Q t ∧ R t)
      unfold wbX12_auto0_0 at hQ hR ⊢
      exact ih.2.1 _ _ _ hQ hR
    · intro t li lj hQ hR
      have hQ : wbX12_auto0_1 (wpX12_auto0 k) k t li lj Q := hQ
      have hR : wbX12_auto0_1 (wpX12_auto0 k) k t li lj R := hR
      show wbX12_auto0_1 (wpX12_auto0 k) k t li lj (fun t => Q t ∧ R t)
      unfold wbX12_auto0_1 at hQ hR ⊢
      exact ⟨fun c1 => ⟨(hQ.1 c1), (hR.1 c1)⟩, fun c2 => fun x3 e3 => ih.2.2.1 _ _ _ ((hQ.2 c2) x3 e3) ((hR.2 c2) x3 e3)⟩
    · intro t li lj hQ hR
      have hQ : wbX12_auto0_2 (wpX12_auto0 k) k t li lj Q := hQ
      have hR : wbX12_auto0_2 (wpX12_auto0 k) k t li lj R := hR
      show wbX12_auto0_2 (wpX12_auto0 k) k t li lj (fun t => Q t ∧ R t)
      unfold wbX12_auto0_2 at hQ hR ⊢
      exact ⟨fun c1 => ih.2.2.2.2 _ _ _ (hQ.1 c1) (hR.1 c1), fun c2 => wiX12_isCritical (hQ.2 c2) (hR.2 c2) (fun y3_0 y3_1 h3 i3 => ⟨fun c4 => ih.2.2.2.2 _ _ _ (h3.1 c4) (i3.1 c4), fun c5 => wiX12_isFaceThere (h3.2 c5) (i3.2 c5) (fun y6_0 y6_1 h6 i6 => ⟨fun c7 => ih.2.2.2.1 _ _ _ (h6.1 c7) (i6.1 c7), fun c8 => wiX12_isFree (h6.2 c8) (i6.2 c8) (fun y9_0 y9_1 h9 i9 => ⟨fun c10 => ih.2.2.2.1 _ _ _ (h9.1 c10) (i9.1 c10), fun c11 => wiX12_couples (h9.2 c11) (i9.2 c11) (fun y12_0 y12_1 h12 i12 => ih.2.2.2.1 _ _ _ h12 i12)⟩)⟩)⟩)⟩
    · intro t li lj hQ hR
      have hQ : wbX12_auto0_3 (wpX12_auto0 k) k t li lj Q := hQ
      have hR : wbX12_auto0_3 (wpX12_auto0 k) k t li lj R := hR
      show wbX12_auto0_3 (wpX12_auto0 k) k t li lj (fun t => Q t ∧ R t)
      unfold wbX12_auto0_3 at hQ hR ⊢
      exact fun x1 e1 => ih.2.2.1 _ _ _ (hQ x1 e1) (hR x1 e1)
    · intro t li lj hQ hR
      have hQ : wbX12_auto0_4 (wpX12_auto0 k) k t li lj Q := hQ
      have hR : wbX12_auto0_4 (wpX12_auto0 k) k t li lj R := hR
      show wbX12_auto0_4 (wpX12_auto0 k) k t li lj (fun t => Q t ∧ R t)
      unfold wbX12_auto0_4 at hQ hR ⊢
      exact fun x1 e1 => ih.2.1 _ _ _ (hQ x1 e1) (hR x1 e1)
theorem wjX12_auto0 {k : Nat} {t : XT}  {Q R : XT → Prop} (hQ : wqX12_auto0 k t  Q) (hR : wqX12_auto0 k t  R) : wqX12_auto0 k t  (fun t => Q t ∧ R t) := (wkX12_auto0j Q R k).1 t _ _ hQ hR
theorem wiX12_auto0 {k : Nat} {t : XT}  {Q R S : XT → Prop} (hQ : wqX12_auto0 k t  Q) (hR : wqX12_auto0 k t  R) (f : ∀ t, Q t → R t → S t) : wqX12_auto0 k t  S := wmX12_auto0 (Nat.le_refl k) (fun t h => f t h.1 h.2) (wjX12_auto0 hQ hR)
set_option maxHeartbeats 4000000 in
set_option maxRecDepth 100000 in
theorem wkX12_autoj (Q R : Int32 → XT → Prop) : ∀ k : Nat, (∀ (t : XT) (li : Nat → Int32) (lj : Nat → Int64), wpX12_auto k 0 t li lj Q → wpX12_auto k 0 t li lj R → wpX12_auto k 0 t li lj (fun r t => Q r t ∧ R r t)) ∧ (∀ (t : XT) (li : Nat → Int32) (lj : Nat → Int64), wpX12_auto k 1 t li lj Q → wpX12_auto k 1 t li lj R → wpX12_auto k 1 t li lj (fun r t => Q r t ∧ R r t)) ∧ (∀ (t : XT) (li : Nat → Int32) (lj : Nat → Int64), wpX12_auto k 2 t li lj Q → wpX12_auto k 2 t li lj R → wpX12_auto k 2 t li lj (fun r t => Q r t ∧ R r t)) := by
  intro k
  induction k with
  | zero => exact ⟨fun _ _ _ hR _ => False.elim hR, fun _ _ _ hR _ => False.elim hR, fun _ _ _ hR _ => False.elim hR⟩
  | succ k ih =>
    refine ⟨?_, ?_, ?_⟩
    · intro t li lj hQ hR
      have hQ : wbX12_auto_0 (wpX12_auto k) k t li lj Q := hQ
      have hR : wbX12_auto_0 (wpX12_auto k) k t li lj R := hR
      show wbX12_auto_0 (wpX12_auto k) k t li lj (fun r t => Q r t ∧ R r t)
      unfold wbX12_auto_0 at hQ hR ⊢
      exact ⟨fun c1 => ih.2.1 _ _ _ (hQ.1 c1) (hR.1 c1), fun c2 => wiX12_in (hQ.2 c2) (hR.2 c2) (fun y3_0 h3 i3 => ⟨fun c4 => wiX12_remembers (h3.1 c4) (i3.1 c4) (fun y5_0 h5 i5 => wiX12_clearsPairs h5 i5 (fun y6_0 h6 i6 => ⟨fun c7 => ⟨fun c8 => wiX12_auto2 ((h6.1 c7).1 c8) ((i6.1 c7).1 c8) (fun y9_0 h9 i9 => ih.2.2 _ _ _ h9 i9), fun c10 => wiX12_auto1 ((h6.1 c7).2 c10) ((i6.1 c7).2 c10) (fun y11_0 h11 i11 => ih.2.2 _ _ _ h11 i11)⟩, fun c12 => wiX12_auto0 (h6.2 c12) (i6.2 c12) (fun y13_0 h13 i13 => ih.2.2 _ _ _ h13 i13)⟩)), fun c14 => ih.2.1 _ _ _ (h3.2 c14) (i3.2 c14)⟩)⟩
    · intro t li lj hQ hR
      have hQ : wbX12_auto_1 (wpX12_auto k) k t li lj Q := hQ
      have hR : wbX12_auto_1 (wpX12_auto k) k t li lj R := hR
      show wbX12_auto_1 (wpX12_auto k) k t li lj (fun r t => Q r t ∧ R r t)
      unfold wbX12_auto_1 at hQ hR ⊢
      exact ⟨hQ, hR⟩
    · intro t li lj hQ hR
      have hQ : wbX12_auto_2 (wpX12_auto k) k t li lj Q := hQ
      have hR : wbX12_auto_2 (wpX12_auto k) k t li lj R := hR
      show wbX12_auto_2 (wpX12_auto k) k t li lj (fun r t => Q r t ∧ R r t)
      unfold wbX12_auto_2 at hQ hR ⊢
      exact wiX12_criticalMany hQ hR (fun y1_0 y1_1 h1 i1 => ⟨h1, i1⟩)
theorem wjX12_auto {k : Nat} {t : XT} {a1 : Int32} {Q R : Int32 → XT → Prop} (hQ : wqX12_auto k t a1 Q) (hR : wqX12_auto k t a1 R) : wqX12_auto k t a1 (fun r t => Q r t ∧ R r t) := (wkX12_autoj Q R k).1 t _ _ hQ hR
theorem wiX12_auto {k : Nat} {t : XT} {a1 : Int32} {Q R S : Int32 → XT → Prop} (hQ : wqX12_auto k t a1 Q) (hR : wqX12_auto k t a1 R) (f : ∀ r t, Q r t → R r t → S r t) : wqX12_auto k t a1 S := wmX12_auto (Nat.le_refl k) (fun r t h => f r t h.1 h.2) (wjX12_auto hQ hR)
set_option maxHeartbeats 4000000 in
set_option maxRecDepth 100000 in
theorem wkX12_areEndsj (Q R : Int32 → XT → Prop) : ∀ k : Nat, (∀ (t : XT) (li : Nat → Int32) (lj : Nat → Int64), wpX12_areEnds k 0 t li lj Q → wpX12_areEnds k 0 t li lj R → wpX12_areEnds k 0 t li lj (fun r t => Q r t ∧ R r t)) ∧ (∀ (t : XT) (li : Nat → Int32) (lj : Nat → Int64), wpX12_areEnds k 1 t li lj Q → wpX12_areEnds k 1 t li lj R → wpX12_areEnds k 1 t li lj (fun r t => Q r t ∧ R r t)) := by
  intro k
  induction k with
  | zero => exact ⟨fun _ _ _ hR _ => False.elim hR, fun _ _ _ hR _ => False.elim hR⟩
  | succ k ih =>
    refine ⟨?_, ?_⟩
    · intro t li lj hQ hR
      have hQ : wbX12_areEnds_0 (wpX12_areEnds k) k t li lj Q := hQ
      have hR : wbX12_areEnds_0 (wpX12_areEnds k) k t li lj R := hR
      show wbX12_areEnds_0 (wpX12_areEnds k) k t li lj (fun r t => Q r t ∧ R r t)
      unfold wbX12_areEnds_0 at hQ hR ⊢
      exact wiX12_isCritical hQ hR (fun y1_0 y1_1 h1 i1 => ⟨fun c2 => ih.2 _ _ _ (h1.1 c2) (i1.1 c2), fun c3 => wiX12_isCritical (h1.2 c3) (i1.2 c3) (fun y4_0 y4_1 h4 i4 => ⟨fun c5 => ih.2 _ _ _ (h4.1 c5) (i4.1 c5), fun c6 => wiX12_dimOf (h4.2 c6) (i4.2 c6) (fun y7_0 y7_1 h7 i7 => wiX12_dimOf h7 i7 (fun y8_0 y8_1 h8 i8 => fun x9 e9 => ⟨fun c10 => ih.2 _ _ _ ((h8 x9 e9).1 c10) ((i8 x9 e9).1 c10), fun c11 => ⟨((h8 x9 e9).2 c11), ((i8 x9 e9).2 c11)⟩⟩))⟩)⟩)
    · intro t li lj hQ hR
      have hQ : wbX12_areEnds_1 (wpX12_areEnds k) k t li lj Q := hQ
      have hR : wbX12_areEnds_1 (wpX12_areEnds k) k t li lj R := hR
      show wbX12_areEnds_1 (wpX12_areEnds k) k t li lj (fun r t => Q r t ∧ R r t)
      unfold wbX12_areEnds_1 at hQ hR ⊢
      exact ⟨hQ, hR⟩
theorem wjX12_areEnds {k : Nat} {t : XT} {a1 : Int32} {a2 : Int32} {Q R : Int32 → XT → Prop} (hQ : wqX12_areEnds k t a1 a2 Q) (hR : wqX12_areEnds k t a1 a2 R) : wqX12_areEnds k t a1 a2 (fun r t => Q r t ∧ R r t) := (wkX12_areEndsj Q R k).1 t _ _ hQ hR
theorem wiX12_areEnds {k : Nat} {t : XT} {a1 : Int32} {a2 : Int32} {Q R S : Int32 → XT → Prop} (hQ : wqX12_areEnds k t a1 a2 Q) (hR : wqX12_areEnds k t a1 a2 R) (f : ∀ r t, Q r t → R r t → S r t) : wqX12_areEnds k t a1 a2 S := wmX12_areEnds (Nat.le_refl k) (fun r t h => f r t h.1 h.2) (wjX12_areEnds hQ hR)
set_option maxHeartbeats 4000000 in
set_option maxRecDepth 100000 in
theorem wkX12_laysWayj (Q R : Int32 → XT → Prop) : ∀ k : Nat, (∀ (t : XT) (li : Nat → Int32) (lj : Nat → Int64), wpX12_laysWay k 0 t li lj Q → wpX12_laysWay k 0 t li lj R → wpX12_laysWay k 0 t li lj (fun r t => Q r t ∧ R r t)) ∧ (∀ (t : XT) (li : Nat → Int32) (lj : Nat → Int64), wpX12_laysWay k 1 t li lj Q → wpX12_laysWay k 1 t li lj R → wpX12_laysWay k 1 t li lj (fun r t => Q r t ∧ R r t)) ∧ (∀ (t : XT) (li : Nat → Int32) (lj : Nat → Int64), wpX12_laysWay k 2 t li lj Q → wpX12_laysWay k 2 t li lj R → wpX12_laysWay k 2 t li lj (fun r t => Q r t ∧ R r t)) := by
  intro k
  induction k with
  | zero => exact ⟨fun _ _ _ hR _ => False.elim hR, fun _ _ _ hR _ => False.elim hR, fun _ _ _ hR _ => False.elim hR⟩
  | succ k ih =>
    refine ⟨?_, ?_, ?_⟩
    · intro t li lj hQ hR
      have hQ : wbX12_laysWay_0 (wpX12_laysWay k) k t li lj Q := hQ
      have hR : wbX12_laysWay_0 (wpX12_laysWay k) k t li lj R := hR
      show wbX12_laysWay_0 (wpX12_laysWay k) k t li lj (fun r t => Q r t ∧ R r t)
      unfold wbX12_laysWay_0 at hQ hR ⊢
      exact ⟨hQ.1, fun x1 e1 => ih.2.1 _ _ _ (hQ.2 x1 e1) (hR.2 x1 e1)⟩
    · intro t li lj hQ hR
      have hQ : wbX12_laysWay_1 (wpX12_laysWay k) k t li lj Q := hQ
      have hR : wbX12_laysWay_1 (wpX12_laysWay k) k t li lj R := hR
      show wbX12_laysWay_1 (wpX12_laysWay k) k t li lj (fun r t => Q r t ∧ R r t)
      unfold wbX12_laysWay_1 at hQ hR ⊢
      exact ⟨fun c1 => ⟨(hQ.1 c1).1, fun x2 e2 => wiX12_signOf ((hQ.1 c1).2 x2 e2) ((hR.1 c1).2 x2 e2) (fun y3_0 y3_1 h3 i3 => fun x4 e4 => fun x5 e5 => fun x6 e6 => ⟨(((h3 x4 e4) x5 e5) x6 e6).1, fun x7 e7 => ⟨((((h3 x4 e4) x5 e5) x6 e6).2 x7 e7), ((((i3 x4 e4) x5 e5) x6 e6).2 x7 e7)⟩⟩)⟩, fun c8 => ⟨fun c9 => ih.2.2 _ _ _ ((hQ.2 c8).1 c9) ((hR.2 c8).1 c9), fun c10 => wiX12_isFaceThere ((hQ.2 c8).2 c10) ((hR.2 c8).2 c10) (fun y11_0 y11_1 h11 i11 => ⟨fun c12 => ⟨(h11.1 c12).1, fun x13 e13 => fun x14 e14 => ⟨fun c15 => ⟨((((h11.1 c12).2 x13 e13) x14 e14).1 c15).1, fun x16 e16 => fun x17 e17 => wiX12_signOf ((((((h11.1 c12).2 x13 e13) x14 e14).1 c15).2 x16 e16) x17 e17) ((((((i11.1 c12).2 x13 e13) x14 e14).1 c15).2 x16 e16) x17 e17) (fun y18_0 y18_1 h18 i18 => fun x19 e19 => ⟨(h18 x19 e19).1, fun x20 e20 => fun x21 e21 => fun x22 e22 => ih.2.2 _ _ _ ((((h18 x19 e19).2 x20 e20) x21 e21) x22 e22) ((((i18 x19 e19).2 x20 e20) x21 e21) x22 e22)⟩)⟩, fun c23 => ⟨((((h11.1 c12).2 x13 e13) x14 e14).2 c23), ((((i11.1 c12).2 x13 e13) x14 e14).2 c23)⟩⟩⟩, fun c24 => ih.2.2 _ _ _ (h11.2 c24) (i11.2 c24)⟩)⟩⟩
    · intro t li lj hQ hR
      have hQ : wbX12_laysWay_2 (wpX12_laysWay k) k t li lj Q := hQ
      have hR : wbX12_laysWay_2 (wpX12_laysWay k) k t li lj R := hR
      show wbX12_laysWay_2 (wpX12_laysWay k) k t li lj (fun r t => Q r t ∧ R r t)
      unfold wbX12_laysWay_2 at hQ hR ⊢
      exact fun x1 e1 => ih.2.1 _ _ _ (hQ x1 e1) (hR x1 e1)
theorem wjX12_laysWay {k : Nat} {t : XT} {a1 : Int32} {Q R : Int32 → XT → Prop} (hQ : wqX12_laysWay k t a1 Q) (hR : wqX12_laysWay k t a1 R) : wqX12_laysWay k t a1 (fun r t => Q r t ∧ R r t) := (wkX12_laysWayj Q R k).1 t _ _ hQ hR
theorem wiX12_laysWay {k : Nat} {t : XT} {a1 : Int32} {Q R S : Int32 → XT → Prop} (hQ : wqX12_laysWay k t a1 Q) (hR : wqX12_laysWay k t a1 R) (f : ∀ r t, Q r t → R r t → S r t) : wqX12_laysWay k t a1 S := wmX12_laysWay (Nat.le_refl k) (fun r t h => f r t h.1 h.2) (wjX12_laysWay hQ hR)
set_option maxHeartbeats 4000000 in
set_option maxRecDepth 100000 in
theorem wkX12_laysWaysj (Q R : XT → Prop) : ∀ k : Nat, (∀ (t : XT) (li : Nat → Int32) (lj : Nat → Int64), wpX12_laysWays k 0 t li lj Q → wpX12_laysWays k 0 t li lj R → wpX12_laysWays k 0 t li lj (fun t => Q t ∧ R t)) ∧ (∀ (t : XT) (li : Nat → Int32) (lj : Nat → Int64), wpX12_laysWays k 1 t li lj Q → wpX12_laysWays k 1 t li lj R → wpX12_laysWays k 1 t li lj (fun t => Q t ∧ R t)) ∧ (∀ (t : XT) (li : Nat → Int32) (lj : Nat → Int64), wpX12_laysWays k 2 t li lj Q → wpX12_laysWays k 2 t li lj R → wpX12_laysWays k 2 t li lj (fun t => Q t ∧ R t)) ∧ (∀ (t : XT) (li : Nat → Int32) (lj : Nat → Int64), wpX12_laysWays k 3 t li lj Q → wpX12_laysWays k 3 t li lj R → wpX12_laysWays k 3 t li lj (fun t => Q t ∧ R t)) ∧ (∀ (t : XT) (li : Nat → Int32) (lj : Nat → Int64), wpX12_laysWays k 4 t li lj Q → wpX12_laysWays k 4 t li lj R → wpX12_laysWays k 4 t li lj (fun t => Q t ∧ R t)) ∧ (∀ (t : XT) (li : Nat → Int32) (lj : Nat → Int64), wpX12_laysWays k 5 t li lj Q → wpX12_laysWays k 5 t li lj R → wpX12_laysWays k 5 t li lj (fun t => Q t ∧ R t)) ∧ (∀ (t : XT) (li : Nat → Int32) (lj : Nat → Int64), wpX12_laysWays k 6 t li lj Q → wpX12_laysWays k 6 t li lj R → wpX12_laysWays k 6 t li lj (fun t => Q t ∧ R t)) ∧ (∀ (t : XT) (li : Nat → Int32) (lj : Nat → Int64), wpX12_laysWays k 7 t li lj Q → wpX12_laysWays k 7 t li lj R → wpX12_laysWays k 7 t li lj (fun t => Q t ∧ R t)) ∧ (∀ (t : XT) (li : Nat → Int32) (lj : Nat → Int64), wpX12_laysWays k 8 t li lj Q → wpX12_laysWays k 8 t li lj R → wpX12_laysWays k 8 t li lj (fun t => Q t ∧ R t)) ∧ (∀ (t : XT) (li : Nat → Int32) (lj : Nat → Int64), wpX12_laysWays k 9 t li lj Q → wpX12_laysWays k 9 t li lj R → wpX12_laysWays k 9 t li lj (fun t => Q t ∧ R t)) ∧ (∀ (t : XT) (li : Nat → Int32) (lj : Nat → Int64), wpX12_laysWays k 10 t li lj Q → wpX12_laysWays k 10 t li lj R → wpX12_laysWays k 10 t li lj (fun t => Q t ∧ R t)) ∧ (∀ (t : XT) (li : Nat → Int32) (lj : Nat → Int64), wpX12_laysWays k 11 t li lj Q → wpX12_laysWays k 11 t li lj R → wpX12_laysWays k 11 t li lj (fun t => Q t ∧ R t)) := by
  intro k
  induction k with
  | zero => exact ⟨fun _ _ _ hR _ => False.elim hR, fun _ _ _ hR _ => False.elim hR, fun _ _ _ hR _ => False.elim hR, fun _ _ _ hR _ => False.elim hR, fun _ _ _ hR _ => False.elim hR, fun _ _ _ hR _ => False.elim hR, fun _ _ _ hR _ => False.elim hR, fun _ _ _ hR _ => False.elim hR, fun _ _ _ hR _ => False.elim hR, fun _ _ _ hR _ => False.elim hR, fun _ _ _ hR _ => False.elim hR, fun _ _ _ hR _ => False.elim hR⟩
  | succ k ih =>
    refine ⟨?_, ?_, ?_, ?_, ?_, ?_, ?_, ?_, ?_, ?_, ?_, ?_⟩
    · intro t li lj hQ hR
      have hQ : wbX12_laysWays_0 (wpX12_laysWays k) k t li lj Q := hQ
      have hR : wbX12_laysWays_0 (wpX12_laysWays k) k t li lj R := hR
      show wbX12_laysWays_0 (wpX12_laysWays k) k t li lj (fun t => Q t ∧ R t)
      unfold wbX12_laysWays_0 at hQ hR ⊢
      exact ih.2.1 _ _ _ hQ hR
    · intro t li lj hQ hR
      have hQ : wbX12_laysWays_1 (wpX12_laysWays k) k t li lj Q := hQ
      have hR : wbX12_laysWays_1 (wpX12_laysWays k) k t li lj R := hR
      show wbX12_laysWays_1 (wpX12_laysWays k) k t li lj (fun t => Q t ∧ R t)
      unfold wbX12_laysWays_1 at hQ hR ⊢
      exact ⟨fun c1 => ih.2.2.2.2.2.2.2.1 _ _ _ (hQ.1 c1) (hR.1 c1), fun c2 => wiX12_isThere (hQ.2 c2) (hR.2 c2) (fun y3_0 y3_1 h3 i3 => ⟨fun c4 => ih.2.2.1 _ _ _ (h3.1 c4) (i3.1 c4), fun c5 => ⟨fun c6 => ih.2.2.1 _ _ _ ((h3.2 c5).1 c6) ((i3.2 c5).1 c6), fun c7 => wiX12_isLower ((h3.2 c5).2 c7) ((i3.2 c5).2 c7) (fun y8_0 y8_1 h8 i8 => ⟨fun c9 => ih.2.2.1 _ _ _ (h8.1 c9) (i8.1 c9), fun c10 => wiX12_dimOf (h8.2 c10) (i8.2 c10) (fun y11_0 y11_1 h11 i11 => wiX12_dimOf h11 i11 (fun y12_0 y12_1 h12 i12 => ⟨fun c13 => ih.2.2.1 _ _ _ (h12.1 c13) (i12.1 c13), fun c14 => ih.2.2.2.1 _ _ _ (h12.2 c14) (i12.2 c14)⟩))⟩)⟩⟩)⟩
    · intro t li lj hQ hR
      have hQ : wbX12_laysWays_2 (wpX12_laysWays k) k t li lj Q := hQ
      have hR : wbX12_laysWays_2 (wpX12_laysWays k) k t li lj R := hR
      show wbX12_laysWays_2 (wpX12_laysWays k) k t li lj (fun t => Q t ∧ R t)
      unfold wbX12_laysWays_2 at hQ hR ⊢
      exact ih.2.2.2.1 _ _ _ hQ hR
    · intro t li lj hQ hR
      have hQ : wbX12_laysWays_3 (wpX12_laysWays k) k t li lj Q := hQ
      have hR : wbX12_laysWays_3 (wpX12_laysWays k) k t li lj R := hR
      show wbX12_laysWays_3 (wpX12_laysWays k) k t li lj (fun t => Q t ∧ R t)
      unfold wbX12_laysWays_3 at hQ hR ⊢
      exact ⟨fun c1 => ⟨fun c2 => ih.2.2.2.2.1 _ _ _ ((hQ.1 c1).1 c2) ((hR.1 c1).1 c2), fun c3 => ih.2.2.2.2.1 _ _ _ ((hQ.1 c1).2 c3) ((hR.1 c1).2 c3)⟩, fun c4 => ih.2.2.2.2.2.1 _ _ _ (hQ.2 c4) (hR.2 c4)⟩
    · intro t li lj hQ hR
      have hQ : wbX12_laysWays_4 (wpX12_laysWays k) k t li lj Q := hQ
      have hR : wbX12_laysWays_4 (wpX12_laysWays k) k t li lj R := hR
      show wbX12_laysWays_4 (wpX12_laysWays k) k t li lj (fun t => Q t ∧ R t)
      unfold wbX12_laysWays_4 at hQ hR ⊢
      exact wiX12_truth hQ hR (fun y1_0 h1 i1 => fun x2 e2 => ih.2.2.2.2.2.1 _ _ _ (h1 x2 e2) (i1 x2 e2))
    · intro t li lj hQ hR
      have hQ : wbX12_laysWays_5 (wpX12_laysWays k) k t li lj Q := hQ
      have hR : wbX12_laysWays_5 (wpX12_laysWays k) k t li lj R := hR
      show wbX12_laysWays_5 (wpX12_laysWays k) k t li lj (fun t => Q t ∧ R t)
      unfold wbX12_laysWays_5 at hQ hR ⊢
      exact ⟨hQ.1, fun x1 e1 => ⟨fun c2 => ih.2.2.2.2.2.2.1 _ _ _ ((hQ.2 x1 e1).1 c2) ((hR.2 x1 e1).1 c2), fun c3 => ih.2.2.2.2.2.2.1 _ _ _ ((hQ.2 x1 e1).2 c3) ((hR.2 x1 e1).2 c3)⟩⟩
    · intro t li lj hQ hR
      have hQ : wbX12_laysWays_6 (wpX12_laysWays k) k t li lj Q := hQ
      have hR : wbX12_laysWays_6 (wpX12_laysWays k) k t li lj R := hR
      show wbX12_laysWays_6 (wpX12_laysWays k) k t li lj (fun t => Q t ∧ R t)
      unfold wbX12_laysWays_6 at hQ hR ⊢
      exact wiX12_truth hQ hR (fun y1_0 h1 i1 => fun x2 e2 => ⟨(h1 x2 e2).1, fun x3 e3 => fun x4 e4 => ih.2.1 _ _ _ (((h1 x2 e2).2 x3 e3) x4 e4) (((i1 x2 e2).2 x3 e3) x4 e4)⟩)
    · intro t li lj hQ hR
      have hQ : wbX12_laysWays_7 (wpX12_laysWays k) k t li lj Q := hQ
      have hR : wbX12_laysWays_7 (wpX12_laysWays k) k t li lj R := hR
      show wbX12_laysWays_7 (wpX12_laysWays k) k t li lj (fun t => Q t ∧ R t)
      unfold wbX12_laysWays_7 at hQ hR ⊢
      exact ⟨fun c1 => ⟨(hQ.1 c1), (hR.1 c1)⟩, fun c2 => ih.2.2.2.2.2.2.2.2.1 _ _ _ (hQ.2 c2) (hR.2 c2)⟩
    · intro t li lj hQ hR
      have hQ : wbX12_laysWays_8 (wpX12_laysWays k) k t li lj Q := hQ
      have hR : wbX12_laysWays_8 (wpX12_laysWays k) k t li lj R := hR
      show wbX12_laysWays_8 (wpX12_laysWays k) k t li lj (fun t => Q t ∧ R t)
      unfold wbX12_laysWays_8 at hQ hR ⊢
      exact ⟨fun c1 => ih.2.2.2.2.2.2.2.1 _ _ _ (hQ.1 c1) (hR.1 c1), fun c2 => ⟨(hQ.2 c2).1, fun x3 e3 => fun x4 e4 => ⟨fun c5 => ih.2.2.2.2.2.2.2.2.2.2.2 _ _ _ ((((hQ.2 c2).2 x3 e3) x4 e4).1 c5) ((((hR.2 c2).2 x3 e3) x4 e4).1 c5), fun c6 => wiX12_laysWay ((((hQ.2 c2).2 x3 e3) x4 e4).2 c6) ((((hR.2 c2).2 x3 e3) x4 e4).2 c6) (fun y7_0 y7_1 h7 i7 => ⟨fun c8 => ih.2.2.2.2.2.2.2.2.2.1 _ _ _ (h7.1 c8) (i7.1 c8), fun c9 => ⟨fun c10 => ih.2.2.2.2.2.2.2.2.2.2.1 _ _ _ ((h7.2 c9).1 c10) ((i7.2 c9).1 c10), fun c11 => ih.2.2.2.2.2.2.2.2.2.1 _ _ _ ((h7.2 c9).2 c11) ((i7.2 c9).2 c11)⟩⟩)⟩⟩⟩
    · intro t li lj hQ hR
      have hQ : wbX12_laysWays_9 (wpX12_laysWays k) k t li lj Q := hQ
      have hR : wbX12_laysWays_9 (wpX12_laysWays k) k t li lj R := hR
      show wbX12_laysWays_9 (wpX12_laysWays k) k t li lj (fun t => Q t ∧ R t)
      unfold wbX12_laysWays_9 at hQ hR ⊢
      exact ih.2.2.2.2.2.2.2.2.2.2.1 _ _ _ hQ hR
    · intro t li lj hQ hR
      have hQ : wbX12_laysWays_10 (wpX12_laysWays k) k t li lj Q := hQ
      have hR : wbX12_laysWays_10 (wpX12_laysWays k) k t li lj R := hR
      show wbX12_laysWays_10 (wpX12_laysWays k) k t li lj (fun t => Q t ∧ R t)
      unfold wbX12_laysWays_10 at hQ hR ⊢
      exact ih.2.2.2.2.2.2.2.2.2.2.2 _ _ _ hQ hR
    · intro t li lj hQ hR
      have hQ : wbX12_laysWays_11 (wpX12_laysWays k) k t li lj Q := hQ
      have hR : wbX12_laysWays_11 (wpX12_laysWays k) k t li lj R := hR
      show wbX12_laysWays_11 (wpX12_laysWays k) k t li lj (fun t => Q t ∧ R t)
      unfold wbX12_laysWays_11 at hQ hR ⊢
      exact fun x1 e1 => ih.2.2.2.2.2.2.2.2.1 _ _ _ (hQ x1 e1) (hR x1 e1)
theorem wjX12_laysWays {k : Nat} {t : XT} {a1 : Int32} {Q R : XT → Prop} (hQ : wqX12_laysWays k t a1 Q) (hR : wqX12_laysWays k t a1 R) : wqX12_laysWays k t a1 (fun t => Q t ∧ R t) := (wkX12_laysWaysj Q R k).1 t _ _ hQ hR
theorem wiX12_laysWays {k : Nat} {t : XT} {a1 : Int32} {Q R S : XT → Prop} (hQ : wqX12_laysWays k t a1 Q) (hR : wqX12_laysWays k t a1 R) (f : ∀ t, Q t → R t → S t) : wqX12_laysWays k t a1 S := wmX12_laysWays (Nat.le_refl k) (fun t h => f t h.1 h.2) (wjX12_laysWays hQ hR)
