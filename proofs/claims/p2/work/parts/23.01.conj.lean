set_option maxHeartbeats 4000000 in
set_option maxRecDepth 100000 in
theorem wkX6_unpairedj (Q R : Int64 → XT → Prop) : ∀ k : Nat, (∀ (t : XT) (li : Nat → Int32) (lj : Nat → Int64), wpX6_unpaired k 0 t li lj Q → wpX6_unpaired k 0 t li lj R → wpX6_unpaired k 0 t li lj (fun r t => Q r t ∧ R r t)) := by
  intro k
  induction k with
  | zero => exact fun _ _ _ hR _ => False.elim hR
  | succ k ih =>
    intro t li lj hQ hR
    have hQ : wbX6_unpaired_0 (wpX6_unpaired k) k t li lj Q := hQ
    have hR : wbX6_unpaired_0 (wpX6_unpaired k) k t li lj R := hR
    show wbX6_unpaired_0 (wpX6_unpaired k) k t li lj (fun r t => Q r t ∧ R r t)
    unfold wbX6_unpaired_0 at hQ hR ⊢
    exact fun x1 e1 => fun x2 e2 => fun x3 e3 => ⟨(((hQ x1 e1) x2 e2) x3 e3), (((hR x1 e1) x2 e2) x3 e3)⟩
theorem wjX6_unpaired {k : Nat} {t : XT}  {Q R : Int64 → XT → Prop} (hQ : wqX6_unpaired k t  Q) (hR : wqX6_unpaired k t  R) : wqX6_unpaired k t  (fun r t => Q r t ∧ R r t) := (wkX6_unpairedj Q R k) t _ _ hQ hR
theorem wiX6_unpaired {k : Nat} {t : XT}  {Q R S : Int64 → XT → Prop} (hQ : wqX6_unpaired k t  Q) (hR : wqX6_unpaired k t  R) (f : ∀ r t, Q r t → R r t → S r t) : wqX6_unpaired k t  S := wmX6_unpaired (Nat.le_refl k) (fun r t h => f r t h.1 h.2) (wjX6_unpaired hQ hR)
set_option maxHeartbeats 4000000 in
set_option maxRecDepth 100000 in
theorem wkX6_isCriticalj (Q R : Int32 → XT → Prop) : ∀ k : Nat, (∀ (t : XT) (li : Nat → Int32) (lj : Nat → Int64), wpX6_isCritical k 0 t li lj Q → wpX6_isCritical k 0 t li lj R → wpX6_isCritical k 0 t li lj (fun r t => Q r t ∧ R r t)) := by
  intro k
  induction k with
  | zero => exact fun _ _ _ hR _ => False.elim hR
  | succ k ih =>
    intro t li lj hQ hR
    have hQ : wbX6_isCritical_0 (wpX6_isCritical k) k t li lj Q := hQ
    have hR : wbX6_isCritical_0 (wpX6_isCritical k) k t li lj R := hR
    show wbX6_isCritical_0 (wpX6_isCritical k) k t li lj (fun r t => Q r t ∧ R r t)
    unfold wbX6_isCritical_0 at hQ hR ⊢
    exact wiX6_unpaired hQ hR (fun y1_0 y1_1 h1 i1 => wiX11_isIn h1 i1 (fun y2_0 h2 i2 => ⟨h2.1, ⟨h2.2, i2.2⟩⟩))
theorem wjX6_isCritical {k : Nat} {t : XT} {a1 : Int32} {Q R : Int32 → XT → Prop} (hQ : wqX6_isCritical k t a1 Q) (hR : wqX6_isCritical k t a1 R) : wqX6_isCritical k t a1 (fun r t => Q r t ∧ R r t) := (wkX6_isCriticalj Q R k) t _ _ hQ hR
theorem wiX6_isCritical {k : Nat} {t : XT} {a1 : Int32} {Q R S : Int32 → XT → Prop} (hQ : wqX6_isCritical k t a1 Q) (hR : wqX6_isCritical k t a1 R) (f : ∀ r t, Q r t → R r t → S r t) : wqX6_isCritical k t a1 S := wmX6_isCritical (Nat.le_refl k) (fun r t h => f r t h.1 h.2) (wjX6_isCritical hQ hR)
set_option maxHeartbeats 4000000 in
set_option maxRecDepth 100000 in
theorem wkX11_lowestj (Q R : Int32 → Prop) : ∀ k : Nat, (∀ (li : Nat → Int32) (lj : Nat → Int64), wpX11_lowest k 0 li lj Q → wpX11_lowest k 0 li lj R → wpX11_lowest k 0 li lj (fun r => Q r ∧ R r)) := by
  intro k
  induction k with
  | zero => exact fun _ _ hR _ => False.elim hR
  | succ k ih =>
    intro li lj hQ hR
    have hQ : wbX11_lowest_0 (wpX11_lowest k) k li lj Q := hQ
    have hR : wbX11_lowest_0 (wpX11_lowest k) k li lj R := hR
    show wbX11_lowest_0 (wpX11_lowest k) k li lj (fun r => Q r ∧ R r)
    unfold wbX11_lowest_0 at hQ hR ⊢
    exact fun x1 e1 => fun x2 e2 => fun x3 e3 => wiJ13_bitCount_95d88 (((hQ x1 e1) x2 e2) x3 e3) (((hR x1 e1) x2 e2) x3 e3) (fun y4_0 h4 i4 => fun x5 e5 => ⟨(h4 x5 e5), (i4 x5 e5)⟩)
theorem wjX11_lowest {k : Nat} {a0 : Int64} {Q R : Int32 → Prop} (hQ : wqX11_lowest k a0 Q) (hR : wqX11_lowest k a0 R) : wqX11_lowest k a0 (fun r => Q r ∧ R r) := (wkX11_lowestj Q R k) _ _ hQ hR
theorem wiX11_lowest {k : Nat} {a0 : Int64} {Q R S : Int32 → Prop} (hQ : wqX11_lowest k a0 Q) (hR : wqX11_lowest k a0 R) (f : ∀ r, Q r → R r → S r) : wqX11_lowest k a0 S := wmX11_lowest (Nat.le_refl k) (fun r h => f r h.1 h.2) (wjX11_lowest hQ hR)
set_option maxHeartbeats 4000000 in
set_option maxRecDepth 100000 in
theorem wkX6_staysAcyclicj (Q R : Int32 → XT → Prop) : ∀ k : Nat, (∀ (t : XT) (li : Nat → Int32) (lj : Nat → Int64), wpX6_staysAcyclic k 0 t li lj Q → wpX6_staysAcyclic k 0 t li lj R → wpX6_staysAcyclic k 0 t li lj (fun r t => Q r t ∧ R r t)) ∧ (∀ (t : XT) (li : Nat → Int32) (lj : Nat → Int64), wpX6_staysAcyclic k 1 t li lj Q → wpX6_staysAcyclic k 1 t li lj R → wpX6_staysAcyclic k 1 t li lj (fun r t => Q r t ∧ R r t)) ∧ (∀ (t : XT) (li : Nat → Int32) (lj : Nat → Int64), wpX6_staysAcyclic k 2 t li lj Q → wpX6_staysAcyclic k 2 t li lj R → wpX6_staysAcyclic k 2 t li lj (fun r t => Q r t ∧ R r t)) ∧ (∀ (t : XT) (li : Nat → Int32) (lj : Nat → Int64), wpX6_staysAcyclic k 3 t li lj Q → wpX6_staysAcyclic k 3 t li lj R → wpX6_staysAcyclic k 3 t li lj (fun r t => Q r t ∧ R r t)) := by
  intro k
  induction k with
  | zero => exact ⟨fun _ _ _ hR _ => False.elim hR, fun _ _ _ hR _ => False.elim hR, fun _ _ _ hR _ => False.elim hR, fun _ _ _ hR _ => False.elim hR⟩
  | succ k ih =>
    refine ⟨?_, ?_, ?_, ?_⟩
    · intro t li lj hQ hR
      have hQ : wbX6_staysAcyclic_0 (wpX6_staysAcyclic k) k t li lj Q := hQ
      have hR : wbX6_staysAcyclic_0 (wpX6_staysAcyclic k) k t li lj R := hR
      show wbX6_staysAcyclic_0 (wpX6_staysAcyclic k) k t li lj (fun r t => Q r t ∧ R r t)
      unfold wbX6_staysAcyclic_0 at hQ hR ⊢
      exact ⟨hQ.1, fun x1 e1 => wiX11_bit (hQ.2 x1 e1) (hR.2 x1 e1) (fun y2_0 h2 i2 => fun x3 e3 => fun x4 e4 => fun x5 e5 => ih.2.1 _ _ _ (((h2 x3 e3) x4 e4) x5 e5) (((i2 x3 e3) x4 e4) x5 e5))⟩
    · intro t li lj hQ hR
      have hQ : wbX6_staysAcyclic_1 (wpX6_staysAcyclic k) k t li lj Q := hQ
      have hR : wbX6_staysAcyclic_1 (wpX6_staysAcyclic k) k t li lj R := hR
      show wbX6_staysAcyclic_1 (wpX6_staysAcyclic k) k t li lj (fun r t => Q r t ∧ R r t)
      unfold wbX6_staysAcyclic_1 at hQ hR ⊢
      exact ⟨fun c1 => ih.2.2.2 _ _ _ (hQ.1 c1) (hR.1 c1), fun c2 => fun x3 e3 => ⟨fun c4 => ih.2.2.2 _ _ _ (((hQ.2 c2) x3 e3).1 c4) (((hR.2 c2) x3 e3).1 c4), fun c5 => wiX11_lowest (((hQ.2 c2) x3 e3).2 c5) (((hR.2 c2) x3 e3).2 c5) (fun y6_0 h6 i6 => wiX11_bit h6 i6 (fun y7_0 h7 i7 => fun x8 e8 => fun x9 e9 => ⟨((h7 x8 e8) x9 e9).1, fun x10 e10 => ⟨fun c11 => ih.2.2.1 _ _ _ ((((h7 x8 e8) x9 e9).2 x10 e10).1 c11) ((((i7 x8 e8) x9 e9).2 x10 e10).1 c11), fun c12 => ⟨((((h7 x8 e8) x9 e9).2 x10 e10).2 c12).1, fun x13 e13 => ⟨(((((h7 x8 e8) x9 e9).2 x10 e10).2 c12).2 x13 e13).1, fun x14 e14 => fun x15 e15 => fun x16 e16 => fun x17 e17 => fun x18 e18 => fun x19 e19 => ih.2.2.1 _ _ _ (((((((((((h7 x8 e8) x9 e9).2 x10 e10).2 c12).2 x13 e13).2 x14 e14) x15 e15) x16 e16) x17 e17) x18 e18) x19 e19) (((((((((((i7 x8 e8) x9 e9).2 x10 e10).2 c12).2 x13 e13).2 x14 e14) x15 e15) x16 e16) x17 e17) x18 e18) x19 e19)⟩⟩⟩⟩))⟩⟩
    · intro t li lj hQ hR
      have hQ : wbX6_staysAcyclic_2 (wpX6_staysAcyclic k) k t li lj Q := hQ
      have hR : wbX6_staysAcyclic_2 (wpX6_staysAcyclic k) k t li lj R := hR
      show wbX6_staysAcyclic_2 (wpX6_staysAcyclic k) k t li lj (fun r t => Q r t ∧ R r t)
      unfold wbX6_staysAcyclic_2 at hQ hR ⊢
      exact fun x1 e1 => ih.2.1 _ _ _ (hQ x1 e1) (hR x1 e1)
    · intro t li lj hQ hR
      have hQ : wbX6_staysAcyclic_3 (wpX6_staysAcyclic k) k t li lj Q := hQ
      have hR : wbX6_staysAcyclic_3 (wpX6_staysAcyclic k) k t li lj R := hR
      show wbX6_staysAcyclic_3 (wpX6_staysAcyclic k) k t li lj (fun r t => Q r t ∧ R r t)
      unfold wbX6_staysAcyclic_3 at hQ hR ⊢
      exact wiX11_isIn hQ hR (fun y1_0 h1 i1 => ⟨fun c2 => ⟨(h1.1 c2), (i1.1 c2)⟩, fun c3 => ⟨(h1.2 c3), (i1.2 c3)⟩⟩)
theorem wjX6_staysAcyclic {k : Nat} {t : XT} {a1 : Int32} {a2 : Int32} {Q R : Int32 → XT → Prop} (hQ : wqX6_staysAcyclic k t a1 a2 Q) (hR : wqX6_staysAcyclic k t a1 a2 R) : wqX6_staysAcyclic k t a1 a2 (fun r t => Q r t ∧ R r t) := (wkX6_staysAcyclicj Q R k).1 t _ _ hQ hR
theorem wiX6_staysAcyclic {k : Nat} {t : XT} {a1 : Int32} {a2 : Int32} {Q R S : Int32 → XT → Prop} (hQ : wqX6_staysAcyclic k t a1 a2 Q) (hR : wqX6_staysAcyclic k t a1 a2 R) (f : ∀ r t, Q r t → R r t → S r t) : wqX6_staysAcyclic k t a1 a2 S := wmX6_staysAcyclic (Nat.le_refl k) (fun r t h => f r t h.1 h.2) (wjX6_staysAcyclic hQ hR)
set_option maxHeartbeats 4000000 in
set_option maxRecDepth 100000 in
theorem wkX3_save_c4j (Q R : XT → Prop) : ∀ k : Nat, (∀ (t : XT) (li : Nat → Int32) (lj : Nat → Int64), wpX3_save_c4 k 0 t li lj Q → wpX3_save_c4 k 0 t li lj R → wpX3_save_c4 k 0 t li lj (fun t => Q t ∧ R t)) := by
  intro k
  induction k with
  | zero => exact fun _ _ _ hR _ => False.elim hR
  | succ k ih =>
    intro t li lj hQ hR
    have hQ : wbX3_save_c4_0 (wpX3_save_c4 k) k t li lj Q := hQ
    have hR : wbX3_save_c4_0 (wpX3_save_c4 k) k t li lj R := hR
    show wbX3_save_c4_0 (wpX3_save_c4 k) k t li lj (fun t => Q t ∧ R t)
    unfold wbX3_save_c4_0 at hQ hR ⊢
    exact fun x1 e1 => ⟨(hQ x1 e1).1, (hQ x1 e1).2.1, (hQ x1 e1).2.2.1, (hQ x1 e1).2.2.2.1, (hQ x1 e1).2.2.2.2.1, fun x2 e2 => ⟨((hQ x1 e1).2.2.2.2.2 x2 e2).1, fun x3 e3 => fun x4 e4 => ⟨((((hQ x1 e1).2.2.2.2.2 x2 e2).2 x3 e3) x4 e4).1, fun x5 e5 => fun x6 e6 => fun x7 e7 => fun x8 e8 => fun x9 e9 => ⟨(((((((((hQ x1 e1).2.2.2.2.2 x2 e2).2 x3 e3) x4 e4).2 x5 e5) x6 e6) x7 e7) x8 e8) x9 e9), (((((((((hR x1 e1).2.2.2.2.2 x2 e2).2 x3 e3) x4 e4).2 x5 e5) x6 e6) x7 e7) x8 e8) x9 e9)⟩⟩⟩⟩
theorem wjX3_save_c4 {k : Nat} {t : XT}  {Q R : XT → Prop} (hQ : wqX3_save_c4 k t  Q) (hR : wqX3_save_c4 k t  R) : wqX3_save_c4 k t  (fun t => Q t ∧ R t) := (wkX3_save_c4j Q R k) t _ _ hQ hR
theorem wiX3_save_c4 {k : Nat} {t : XT}  {Q R S : XT → Prop} (hQ : wqX3_save_c4 k t  Q) (hR : wqX3_save_c4 k t  R) (f : ∀ t, Q t → R t → S t) : wqX3_save_c4 k t  S := wmX3_save_c4 (Nat.le_refl k) (fun t h => f t h.1 h.2) (wjX3_save_c4 hQ hR)
set_option maxHeartbeats 4000000 in
set_option maxRecDepth 100000 in
theorem wkX6_unitej (Q R : XT → Prop) : ∀ k : Nat, (∀ (t : XT) (li : Nat → Int32) (lj : Nat → Int64), wpX6_unite k 0 t li lj Q → wpX6_unite k 0 t li lj R → wpX6_unite k 0 t li lj (fun t => Q t ∧ R t)) := by
  intro k
  induction k with
  | zero => exact fun _ _ _ hR _ => False.elim hR
  | succ k ih =>
    intro t li lj hQ hR
    have hQ : wbX6_unite_0 (wpX6_unite k) k t li lj Q := hQ
    have hR : wbX6_unite_0 (wpX6_unite k) k t li lj R := hR
    show wbX6_unite_0 (wpX6_unite k) k t li lj (fun t => Q t ∧ R t)
    unfold wbX6_unite_0 at hQ hR ⊢
    exact ⟨hQ.1, fun x1 e1 => ⟨(hQ.2 x1 e1).1, fun x2 e2 => wiX11_bit ((hQ.2 x1 e1).2 x2 e2) ((hR.2 x1 e1).2 x2 e2) (fun y3_0 h3 i3 => fun x4 e4 => fun x5 e5 => wiX11_bit ((h3 x4 e4) x5 e5) ((i3 x4 e4) x5 e5) (fun y6_0 h6 i6 => fun x7 e7 => fun x8 e8 => fun x9 e9 => fun x10 e10 => ⟨((((h6 x7 e7) x8 e8) x9 e9) x10 e10), ((((i6 x7 e7) x8 e8) x9 e9) x10 e10)⟩))⟩⟩
theorem wjX6_unite {k : Nat} {t : XT} {a1 : Int32} {a2 : Int32} {Q R : XT → Prop} (hQ : wqX6_unite k t a1 a2 Q) (hR : wqX6_unite k t a1 a2 R) : wqX6_unite k t a1 a2 (fun t => Q t ∧ R t) := (wkX6_unitej Q R k) t _ _ hQ hR
theorem wiX6_unite {k : Nat} {t : XT} {a1 : Int32} {a2 : Int32} {Q R S : XT → Prop} (hQ : wqX6_unite k t a1 a2 Q) (hR : wqX6_unite k t a1 a2 R) (f : ∀ t, Q t → R t → S t) : wqX6_unite k t a1 a2 S := wmX6_unite (Nat.le_refl k) (fun t h => f t h.1 h.2) (wjX6_unite hQ hR)
set_option maxHeartbeats 4000000 in
set_option maxRecDepth 100000 in
theorem wkX11_criticalOnesj (Q R : Int32 → XT → Prop) : ∀ k : Nat, (∀ (t : XT) (li : Nat → Int32) (lj : Nat → Int64), wpX11_criticalOnes k 0 t li lj Q → wpX11_criticalOnes k 0 t li lj R → wpX11_criticalOnes k 0 t li lj (fun r t => Q r t ∧ R r t)) := by
  intro k
  induction k with
  | zero => exact fun _ _ _ hR _ => False.elim hR
  | succ k ih =>
    intro t li lj hQ hR
    have hQ : wbX11_criticalOnes_0 (wpX11_criticalOnes k) k t li lj Q := hQ
    have hR : wbX11_criticalOnes_0 (wpX11_criticalOnes k) k t li lj R := hR
    show wbX11_criticalOnes_0 (wpX11_criticalOnes k) k t li lj (fun r t => Q r t ∧ R r t)
    unfold wbX11_criticalOnes_0 at hQ hR ⊢
    exact wiX6_unpaired hQ hR (fun y1_0 y1_1 h1 i1 => wiJ13_bitCount_95d88 h1 i1 (fun y2_0 h2 i2 => ⟨h2, i2⟩))
theorem wjX11_criticalOnes {k : Nat} {t : XT}  {Q R : Int32 → XT → Prop} (hQ : wqX11_criticalOnes k t  Q) (hR : wqX11_criticalOnes k t  R) : wqX11_criticalOnes k t  (fun r t => Q r t ∧ R r t) := (wkX11_criticalOnesj Q R k) t _ _ hQ hR
theorem wiX11_criticalOnes {k : Nat} {t : XT}  {Q R S : Int32 → XT → Prop} (hQ : wqX11_criticalOnes k t  Q) (hR : wqX11_criticalOnes k t  R) (f : ∀ r t, Q r t → R r t → S r t) : wqX11_criticalOnes k t  S := wmX11_criticalOnes (Nat.le_refl k) (fun r t h => f r t h.1 h.2) (wjX11_criticalOnes hQ hR)
set_option maxHeartbeats 4000000 in
set_option maxRecDepth 100000 in
theorem wkX11_pairj (Q R : Int32 → XT → Prop) : ∀ k : Nat, (∀ (t : XT) (li : Nat → Int32) (lj : Nat → Int64), wpX11_pair k 0 t li lj Q → wpX11_pair k 0 t li lj R → wpX11_pair k 0 t li lj (fun r t => Q r t ∧ R r t)) ∧ (∀ (t : XT) (li : Nat → Int32) (lj : Nat → Int64), wpX11_pair k 1 t li lj Q → wpX11_pair k 1 t li lj R → wpX11_pair k 1 t li lj (fun r t => Q r t ∧ R r t)) ∧ (∀ (t : XT) (li : Nat → Int32) (lj : Nat → Int64), wpX11_pair k 2 t li lj Q → wpX11_pair k 2 t li lj R → wpX11_pair k 2 t li lj (fun r t => Q r t ∧ R r t)) := by
  intro k
  induction k with
  | zero => exact ⟨fun _ _ _ hR _ => False.elim hR, fun _ _ _ hR _ => False.elim hR, fun _ _ _ hR _ => False.elim hR⟩
  | succ k ih =>
    refine ⟨?_, ?_, ?_⟩
    · intro t li lj hQ hR
      have hQ : wbX11_pair_0 (wpX11_pair k) k t li lj Q := hQ
      have hR : wbX11_pair_0 (wpX11_pair k) k t li lj R := hR
      show wbX11_pair_0 (wpX11_pair k) k t li lj (fun r t => Q r t ∧ R r t)
      unfold wbX11_pair_0 at hQ hR ⊢
      exact wiX11_isThere hQ hR (fun y1_0 y1_1 h1 i1 => ⟨fun c2 => ih.2.1 _ _ _ (h1.1 c2) (i1.1 c2), fun c3 => wiX11_isThere (h1.2 c3) (i1.2 c3) (fun y4_0 y4_1 h4 i4 => ⟨fun c5 => ih.2.1 _ _ _ (h4.1 c5) (i4.1 c5), fun c6 => ⟨(h4.2 c6).1, fun x7 e7 => wiX11_isIn ((h4.2 c6).2 x7 e7) ((i4.2 c6).2 x7 e7) (fun y8_0 h8 i8 => ⟨fun c9 => wiX6_isCritical (h8.1 c9) (i8.1 c9) (fun y10_0 y10_1 h10 i10 => ⟨fun c11 => ih.2.2 _ _ _ (h10.1 c11) (i10.1 c11), fun c12 => wiX6_isCritical (h10.2 c12) (i10.2 c12) (fun y13_0 y13_1 h13 i13 => ⟨fun c14 => wiX6_staysAcyclic (h13.1 c14) (i13.1 c14) (fun y15_0 y15_1 h15 i15 => ⟨fun c16 => wiX3_save_c4 (h15.1 c16) (i15.1 c16) (fun y17_0 h17 i17 => wiX6_unite h17 i17 (fun y18_0 h18 i18 => wiX11_criticalOnes h18 i18 (fun y19_0 y19_1 h19 i19 => ⟨h19, i19⟩))), fun c20 => ⟨(h15.2 c20), (i15.2 c20)⟩⟩), fun c21 => ih.2.2 _ _ _ (h13.2 c21) (i13.2 c21)⟩)⟩), fun c22 => ih.2.1 _ _ _ (h8.2 c22) (i8.2 c22)⟩)⟩⟩)⟩)
    · intro t li lj hQ hR
      have hQ : wbX11_pair_1 (wpX11_pair k) k t li lj Q := hQ
      have hR : wbX11_pair_1 (wpX11_pair k) k t li lj R := hR
      show wbX11_pair_1 (wpX11_pair k) k t li lj (fun r t => Q r t ∧ R r t)
      unfold wbX11_pair_1 at hQ hR ⊢
      exact ⟨hQ, hR⟩
    · intro t li lj hQ hR
      have hQ : wbX11_pair_2 (wpX11_pair k) k t li lj Q := hQ
      have hR : wbX11_pair_2 (wpX11_pair k) k t li lj R := hR
      show wbX11_pair_2 (wpX11_pair k) k t li lj (fun r t => Q r t ∧ R r t)
      unfold wbX11_pair_2 at hQ hR ⊢
      exact ⟨hQ, hR⟩
theorem wjX11_pair {k : Nat} {t : XT} {a1 : Int32} {a2 : Int32} {Q R : Int32 → XT → Prop} (hQ : wqX11_pair k t a1 a2 Q) (hR : wqX11_pair k t a1 a2 R) : wqX11_pair k t a1 a2 (fun r t => Q r t ∧ R r t) := (wkX11_pairj Q R k).1 t _ _ hQ hR
theorem wiX11_pair {k : Nat} {t : XT} {a1 : Int32} {a2 : Int32} {Q R S : Int32 → XT → Prop} (hQ : wqX11_pair k t a1 a2 Q) (hR : wqX11_pair k t a1 a2 R) (f : ∀ r t, Q r t → R r t → S r t) : wqX11_pair k t a1 a2 S := wmX11_pair (Nat.le_refl k) (fun r t h => f r t h.1 h.2) (wjX11_pair hQ hR)
set_option maxHeartbeats 4000000 in
set_option maxRecDepth 100000 in
theorem wkX6_dividej (Q R : XT → Prop) : ∀ k : Nat, (∀ (t : XT) (li : Nat → Int32) (lj : Nat → Int64), wpX6_divide k 0 t li lj Q → wpX6_divide k 0 t li lj R → wpX6_divide k 0 t li lj (fun t => Q t ∧ R t)) := by
  intro k
  induction k with
  | zero => exact fun _ _ _ hR _ => False.elim hR
  | succ k ih =>
    intro t li lj hQ hR
    have hQ : wbX6_divide_0 (wpX6_divide k) k t li lj Q := hQ
    have hR : wbX6_divide_0 (wpX6_divide k) k t li lj R := hR
    show wbX6_divide_0 (wpX6_divide k) k t li lj (fun t => Q t ∧ R t)
    unfold wbX6_divide_0 at hQ hR ⊢
    exact ⟨hQ.1, fun x1 e1 => ⟨fun c2 => ⟨((hQ.2 x1 e1).1 c2).1, fun x3 e3 => ⟨(((hQ.2 x1 e1).1 c2).2 x3 e3).1, fun x4 e4 => wiX11_bit ((((hQ.2 x1 e1).1 c2).2 x3 e3).2 x4 e4) ((((hR.2 x1 e1).1 c2).2 x3 e3).2 x4 e4) (fun y5_0 h5 i5 => wiX11_bit h5 i5 (fun y6_0 h6 i6 => fun x7 e7 => fun x8 e8 => fun x9 e9 => fun x10 e10 => fun x11 e11 => fun x12 e12 => fun x13 e13 => fun x14 e14 => ⟨((((((((h6 x7 e7) x8 e8) x9 e9) x10 e10) x11 e11) x12 e12) x13 e13) x14 e14), ((((((((i6 x7 e7) x8 e8) x9 e9) x10 e10) x11 e11) x12 e12) x13 e13) x14 e14)⟩))⟩⟩, fun c15 => ⟨((hQ.2 x1 e1).2 c15), ((hR.2 x1 e1).2 c15)⟩⟩⟩
theorem wjX6_divide {k : Nat} {t : XT} {a1 : Int32} {Q R : XT → Prop} (hQ : wqX6_divide k t a1 Q) (hR : wqX6_divide k t a1 R) : wqX6_divide k t a1 (fun t => Q t ∧ R t) := (wkX6_dividej Q R k) t _ _ hQ hR
theorem wiX6_divide {k : Nat} {t : XT} {a1 : Int32} {Q R S : XT → Prop} (hQ : wqX6_divide k t a1 Q) (hR : wqX6_divide k t a1 R) (f : ∀ t, Q t → R t → S t) : wqX6_divide k t a1 S := wmX6_divide (Nat.le_refl k) (fun t h => f t h.1 h.2) (wjX6_divide hQ hR)
set_option maxHeartbeats 4000000 in
set_option maxRecDepth 100000 in
theorem wkX11_partj (Q R : Int32 → XT → Prop) : ∀ k : Nat, (∀ (t : XT) (li : Nat → Int32) (lj : Nat → Int64), wpX11_part k 0 t li lj Q → wpX11_part k 0 t li lj R → wpX11_part k 0 t li lj (fun r t => Q r t ∧ R r t)) ∧ (∀ (t : XT) (li : Nat → Int32) (lj : Nat → Int64), wpX11_part k 1 t li lj Q → wpX11_part k 1 t li lj R → wpX11_part k 1 t li lj (fun r t => Q r t ∧ R r t)) := by
  intro k
  induction k with
  | zero => exact ⟨fun _ _ _ hR _ => False.elim hR, fun _ _ _ hR _ => False.elim hR⟩
  | succ k ih =>
    refine ⟨?_, ?_⟩
    · intro t li lj hQ hR
      have hQ : wbX11_part_0 (wpX11_part k) k t li lj Q := hQ
      have hR : wbX11_part_0 (wpX11_part k) k t li lj R := hR
      show wbX11_part_0 (wpX11_part k) k t li lj (fun r t => Q r t ∧ R r t)
      unfold wbX11_part_0 at hQ hR ⊢
      exact wiX11_isThere hQ hR (fun y1_0 y1_1 h1 i1 => ⟨fun c2 => ih.2 _ _ _ (h1.1 c2) (i1.1 c2), fun c3 => ⟨(h1.2 c3).1, fun x4 e4 => ⟨fun c5 => wiX3_save_c4 (((h1.2 c3).2 x4 e4).1 c5) (((i1.2 c3).2 x4 e4).1 c5) (fun y6_0 h6 i6 => wiX6_divide h6 i6 (fun y7_0 h7 i7 => wiX11_criticalOnes h7 i7 (fun y8_0 y8_1 h8 i8 => ⟨h8, i8⟩))), fun c9 => ih.2 _ _ _ (((h1.2 c3).2 x4 e4).2 c9) (((i1.2 c3).2 x4 e4).2 c9)⟩⟩⟩)
    · intro t li lj hQ hR
      have hQ : wbX11_part_1 (wpX11_part k) k t li lj Q := hQ
      have hR : wbX11_part_1 (wpX11_part k) k t li lj R := hR
      show wbX11_part_1 (wpX11_part k) k t li lj (fun r t => Q r t ∧ R r t)
      unfold wbX11_part_1 at hQ hR ⊢
      exact ⟨hQ, hR⟩
theorem wjX11_part {k : Nat} {t : XT} {a1 : Int32} {Q R : Int32 → XT → Prop} (hQ : wqX11_part k t a1 Q) (hR : wqX11_part k t a1 R) : wqX11_part k t a1 (fun r t => Q r t ∧ R r t) := (wkX11_partj Q R k).1 t _ _ hQ hR
theorem wiX11_part {k : Nat} {t : XT} {a1 : Int32} {Q R S : Int32 → XT → Prop} (hQ : wqX11_part k t a1 Q) (hR : wqX11_part k t a1 R) (f : ∀ r t, Q r t → R r t → S r t) : wqX11_part k t a1 S := wmX11_part (Nat.le_refl k) (fun r t h => f r t h.1 h.2) (wjX11_part hQ hR)
set_option maxHeartbeats 4000000 in
set_option maxRecDepth 100000 in
theorem wkX7_lookAgainj (Q R : XT → Prop) : ∀ k : Nat, (∀ (t : XT) (li : Nat → Int32) (lj : Nat → Int64), wpX7_lookAgain k 0 t li lj Q → wpX7_lookAgain k 0 t li lj R → wpX7_lookAgain k 0 t li lj (fun t => Q t ∧ R t)) ∧ (∀ (t : XT) (li : Nat → Int32) (lj : Nat → Int64), wpX7_lookAgain k 1 t li lj Q → wpX7_lookAgain k 1 t li lj R → wpX7_lookAgain k 1 t li lj (fun t => Q t ∧ R t)) ∧ (∀ (t : XT) (li : Nat → Int32) (lj : Nat → Int64), wpX7_lookAgain k 2 t li lj Q → wpX7_lookAgain k 2 t li lj R → wpX7_lookAgain k 2 t li lj (fun t => Q t ∧ R t)) := by
  intro k
  induction k with
  | zero => exact ⟨fun _ _ _ hR _ => False.elim hR, fun _ _ _ hR _ => False.elim hR, fun _ _ _ hR _ => False.elim hR⟩
  | succ k ih =>
    refine ⟨?_, ?_, ?_⟩
    · intro t li lj hQ hR
      have hQ : wbX7_lookAgain_0 (wpX7_lookAgain k) k t li lj Q := hQ
      have hR : wbX7_lookAgain_0 (wpX7_lookAgain k) k t li lj R := hR
      show wbX7_lookAgain_0 (wpX7_lookAgain k) k t li lj (fun t => Q t ∧ R t)
      unfold wbX7_lookAgain_0 at hQ hR ⊢
      exact ih.2.1 _ _ _ hQ hR
    · intro t li lj hQ hR
      have hQ : wbX7_lookAgain_1 (wpX7_lookAgain k) k t li lj Q := hQ
      have hR : wbX7_lookAgain_1 (wpX7_lookAgain k) k t li lj R := hR
      show wbX7_lookAgain_1 (wpX7_lookAgain k) k t li lj (fun t => Q t ∧ R t)
      unfold wbX7_lookAgain_1 at hQ hR ⊢
      exact ⟨fun c1 => ⟨(hQ.1 c1), (hR.1 c1)⟩, fun c2 => fun x3 e3 => ⟨fun c4 => ⟨(((hQ.2 c2) x3 e3).1 c4), (((hR.2 c2) x3 e3).1 c4)⟩, fun c5 => wiX11_lowest (((hQ.2 c2) x3 e3).2 c5) (((hR.2 c2) x3 e3).2 c5) (fun y6_0 h6 i6 => fun x7 e7 => fun x8 e8 => ⟨((h6 x7 e7) x8 e8).1, fun x9 e9 => fun x10 e10 => wiJ13_bitCount_95d88 ((((h6 x7 e7) x8 e8).2 x9 e9) x10 e10) ((((i6 x7 e7) x8 e8).2 x9 e9) x10 e10) (fun y11_0 h11 i11 => ⟨fun c12 => wiX11_bit (h11.1 c12) (i11.1 c12) (fun y13_0 h13 i13 => fun x14 e14 => fun x15 e15 => fun x16 e16 => ih.2.2 _ _ _ (((h13 x14 e14) x15 e15) x16 e16) (((i13 x14 e14) x15 e15) x16 e16)), fun c17 => wiX11_bit (h11.2 c17) (i11.2 c17) (fun y18_0 h18 i18 => fun x19 e19 => fun x20 e20 => ih.2.2 _ _ _ ((h18 x19 e19) x20 e20) ((i18 x19 e19) x20 e20))⟩)⟩)⟩⟩
    · intro t li lj hQ hR
      have hQ : wbX7_lookAgain_2 (wpX7_lookAgain k) k t li lj Q := hQ
      have hR : wbX7_lookAgain_2 (wpX7_lookAgain k) k t li lj R := hR
      show wbX7_lookAgain_2 (wpX7_lookAgain k) k t li lj (fun t => Q t ∧ R t)
      unfold wbX7_lookAgain_2 at hQ hR ⊢
      exact fun x1 e1 => ih.2.1 _ _ _ (hQ x1 e1) (hR x1 e1)
theorem wjX7_lookAgain {k : Nat} {t : XT} {a1 : Int64} {Q R : XT → Prop} (hQ : wqX7_lookAgain k t a1 Q) (hR : wqX7_lookAgain k t a1 R) : wqX7_lookAgain k t a1 (fun t => Q t ∧ R t) := (wkX7_lookAgainj Q R k).1 t _ _ hQ hR
theorem wiX7_lookAgain {k : Nat} {t : XT} {a1 : Int64} {Q R S : XT → Prop} (hQ : wqX7_lookAgain k t a1 Q) (hR : wqX7_lookAgain k t a1 R) (f : ∀ t, Q t → R t → S t) : wqX7_lookAgain k t a1 S := wmX7_lookAgain (Nat.le_refl k) (fun t h => f t h.1 h.2) (wjX7_lookAgain hQ hR)
set_option maxHeartbeats 4000000 in
set_option maxRecDepth 100000 in
theorem wkX7_beginj (Q R : XT → Prop) : ∀ k : Nat, (∀ (t : XT) (li : Nat → Int32) (lj : Nat → Int64), wpX7_begin k 0 t li lj Q → wpX7_begin k 0 t li lj R → wpX7_begin k 0 t li lj (fun t => Q t ∧ R t)) := by
  intro k
  induction k with
  | zero => exact fun _ _ _ hR _ => False.elim hR
  | succ k ih =>
    intro t li lj hQ hR
    have hQ : wbX7_begin_0 (wpX7_begin k) k t li lj Q := hQ
    have hR : wbX7_begin_0 (wpX7_begin k) k t li lj R := hR
    show wbX7_begin_0 (wpX7_begin k) k t li lj (fun t => Q t ∧ R t)
    unfold wbX7_begin_0 at hQ hR ⊢
    exact fun x1 e1 => fun x2 e2 => wiX7_lookAgain ((hQ x1 e1) x2 e2) ((hR x1 e1) x2 e2) (fun y3_0 h3 i3 => ⟨h3, i3⟩)
theorem wjX7_begin {k : Nat} {t : XT} {a1 : Int64} {Q R : XT → Prop} (hQ : wqX7_begin k t a1 Q) (hR : wqX7_begin k t a1 R) : wqX7_begin k t a1 (fun t => Q t ∧ R t) := (wkX7_beginj Q R k) t _ _ hQ hR
theorem wiX7_begin {k : Nat} {t : XT} {a1 : Int64} {Q R S : XT → Prop} (hQ : wqX7_begin k t a1 Q) (hR : wqX7_begin k t a1 R) (f : ∀ t, Q t → R t → S t) : wqX7_begin k t a1 S := wmX7_begin (Nat.le_refl k) (fun t h => f t h.1 h.2) (wjX7_begin hQ hR)
set_option maxHeartbeats 4000000 in
set_option maxRecDepth 100000 in
theorem wkX11_nthj (Q R : Int32 → Prop) : ∀ k : Nat, (∀ (li : Nat → Int32) (lj : Nat → Int64), wpX11_nth k 0 li lj Q → wpX11_nth k 0 li lj R → wpX11_nth k 0 li lj (fun r => Q r ∧ R r)) ∧ (∀ (li : Nat → Int32) (lj : Nat → Int64), wpX11_nth k 1 li lj Q → wpX11_nth k 1 li lj R → wpX11_nth k 1 li lj (fun r => Q r ∧ R r)) ∧ (∀ (li : Nat → Int32) (lj : Nat → Int64), wpX11_nth k 2 li lj Q → wpX11_nth k 2 li lj R → wpX11_nth k 2 li lj (fun r => Q r ∧ R r)) := by
  intro k
  induction k with
  | zero => exact ⟨fun _ _ hR _ => False.elim hR, fun _ _ hR _ => False.elim hR, fun _ _ hR _ => False.elim hR⟩
  | succ k ih =>
    refine ⟨?_, ?_, ?_⟩
    · intro li lj hQ hR
      have hQ : wbX11_nth_0 (wpX11_nth k) k li lj Q := hQ
      have hR : wbX11_nth_0 (wpX11_nth k) k li lj R := hR
      show wbX11_nth_0 (wpX11_nth k) k li lj (fun r => Q r ∧ R r)
      unfold wbX11_nth_0 at hQ hR ⊢
      exact ih.2.1 _ _ hQ hR
    · intro li lj hQ hR
      have hQ : wbX11_nth_1 (wpX11_nth k) k li lj Q := hQ
      have hR : wbX11_nth_1 (wpX11_nth k) k li lj R := hR
      show wbX11_nth_1 (wpX11_nth k) k li lj (fun r => Q r ∧ R r)
      unfold wbX11_nth_1 at hQ hR ⊢
      exact ⟨fun c1 => ih.2.2 _ _ (hQ.1 c1) (hR.1 c1), fun c2 => fun x3 e3 => ⟨fun c4 => ih.2.2 _ _ (((hQ.2 c2) x3 e3).1 c4) (((hR.2 c2) x3 e3).1 c4), fun c5 => fun x6 e6 => fun x7 e7 => fun x8 e8 => ih.2.1 _ _ ((((((hQ.2 c2) x3 e3).2 c5) x6 e6) x7 e7) x8 e8) ((((((hR.2 c2) x3 e3).2 c5) x6 e6) x7 e7) x8 e8)⟩⟩
    · intro li lj hQ hR
      have hQ : wbX11_nth_2 (wpX11_nth k) k li lj Q := hQ
      have hR : wbX11_nth_2 (wpX11_nth k) k li lj R := hR
      show wbX11_nth_2 (wpX11_nth k) k li lj (fun r => Q r ∧ R r)
      unfold wbX11_nth_2 at hQ hR ⊢
      exact wiX11_lowest hQ hR (fun y1_0 h1 i1 => ⟨h1, i1⟩)
theorem wjX11_nth {k : Nat} {a0 : Int64} {a1 : Int32} {Q R : Int32 → Prop} (hQ : wqX11_nth k a0 a1 Q) (hR : wqX11_nth k a0 a1 R) : wqX11_nth k a0 a1 (fun r => Q r ∧ R r) := (wkX11_nthj Q R k).1 _ _ hQ hR
theorem wiX11_nth {k : Nat} {a0 : Int64} {a1 : Int32} {Q R S : Int32 → Prop} (hQ : wqX11_nth k a0 a1 Q) (hR : wqX11_nth k a0 a1 R) (f : ∀ r, Q r → R r → S r) : wqX11_nth k a0 a1 S := wmX11_nth (Nat.le_refl k) (fun r h => f r h.1 h.2) (wjX11_nth hQ hR)
set_option maxHeartbeats 4000000 in
set_option maxRecDepth 100000 in
theorem wkX7_closej (Q R : XT → Prop) : ∀ k : Nat, (∀ (t : XT) (li : Nat → Int32) (lj : Nat → Int64), wpX7_close k 0 t li lj Q → wpX7_close k 0 t li lj R → wpX7_close k 0 t li lj (fun t => Q t ∧ R t)) := by
  intro k
  induction k with
  | zero => exact fun _ _ _ hR _ => False.elim hR
  | succ k ih =>
    intro t li lj hQ hR
    have hQ : wbX7_close_0 (wpX7_close k) k t li lj Q := hQ
    have hR : wbX7_close_0 (wpX7_close k) k t li lj R := hR
    show wbX7_close_0 (wpX7_close k) k t li lj (fun t => Q t ∧ R t)
    unfold wbX7_close_0 at hQ hR ⊢
    exact wiX11_bit hQ hR (fun y1_0 h1 i1 => fun x2 e2 => fun x3 e3 => fun x4 e4 => wiX11_bit (((h1 x2 e2) x3 e3) x4 e4) (((i1 x2 e2) x3 e3) x4 e4) (fun y5_0 h5 i5 => fun x6 e6 => fun x7 e7 => fun x8 e8 => ⟨(((h5 x6 e6) x7 e7) x8 e8).1, fun x9 e9 => fun x10 e10 => wiX7_lookAgain (((((h5 x6 e6) x7 e7) x8 e8).2 x9 e9) x10 e10) (((((i5 x6 e6) x7 e7) x8 e8).2 x9 e9) x10 e10) (fun y11_0 h11 i11 => ⟨h11, i11⟩)⟩))
theorem wjX7_close {k : Nat} {t : XT} {a1 : Int32} {Q R : XT → Prop} (hQ : wqX7_close k t a1 Q) (hR : wqX7_close k t a1 R) : wqX7_close k t a1 (fun t => Q t ∧ R t) := (wkX7_closej Q R k) t _ _ hQ hR
theorem wiX7_close {k : Nat} {t : XT} {a1 : Int32} {Q R S : XT → Prop} (hQ : wqX7_close k t a1 Q) (hR : wqX7_close k t a1 R) (f : ∀ t, Q t → R t → S t) : wqX7_close k t a1 S := wmX7_close (Nat.le_refl k) (fun t h => f t h.1 h.2) (wjX7_close hQ hR)
set_option maxHeartbeats 4000000 in
set_option maxRecDepth 100000 in
theorem wkX7_abovej (Q R : Int32 → XT → Prop) : ∀ k : Nat, (∀ (t : XT) (li : Nat → Int32) (lj : Nat → Int64), wpX7_above k 0 t li lj Q → wpX7_above k 0 t li lj R → wpX7_above k 0 t li lj (fun r t => Q r t ∧ R r t)) := by
  intro k
  induction k with
  | zero => exact fun _ _ _ hR _ => False.elim hR
  | succ k ih =>
    intro t li lj hQ hR
    have hQ : wbX7_above_0 (wpX7_above k) k t li lj Q := hQ
    have hR : wbX7_above_0 (wpX7_above k) k t li lj R := hR
    show wbX7_above_0 (wpX7_above k) k t li lj (fun r t => Q r t ∧ R r t)
    unfold wbX7_above_0 at hQ hR ⊢
    exact ⟨hQ.1, fun x1 e1 => fun x2 e2 => wiX11_lowest ((hQ.2 x1 e1) x2 e2) ((hR.2 x1 e1) x2 e2) (fun y3_0 h3 i3 => ⟨h3, i3⟩)⟩
theorem wjX7_above {k : Nat} {t : XT} {a1 : Int32} {Q R : Int32 → XT → Prop} (hQ : wqX7_above k t a1 Q) (hR : wqX7_above k t a1 R) : wqX7_above k t a1 (fun r t => Q r t ∧ R r t) := (wkX7_abovej Q R k) t _ _ hQ hR
theorem wiX7_above {k : Nat} {t : XT} {a1 : Int32} {Q R S : Int32 → XT → Prop} (hQ : wqX7_above k t a1 Q) (hR : wqX7_above k t a1 R) (f : ∀ r t, Q r t → R r t → S r t) : wqX7_above k t a1 S := wmX7_above (Nat.le_refl k) (fun r t h => f r t h.1 h.2) (wjX7_above hQ hR)
set_option maxHeartbeats 4000000 in
set_option maxRecDepth 100000 in
theorem wkX11_pairByPeelingj (Q R : XT → Prop) : ∀ k : Nat, (∀ (t : XT) (li : Nat → Int32) (lj : Nat → Int64), wpX11_pairByPeeling k 0 t li lj Q → wpX11_pairByPeeling k 0 t li lj R → wpX11_pairByPeeling k 0 t li lj (fun t => Q t ∧ R t)) ∧ (∀ (t : XT) (li : Nat → Int32) (lj : Nat → Int64), wpX11_pairByPeeling k 1 t li lj Q → wpX11_pairByPeeling k 1 t li lj R → wpX11_pairByPeeling k 1 t li lj (fun t => Q t ∧ R t)) ∧ (∀ (t : XT) (li : Nat → Int32) (lj : Nat → Int64), wpX11_pairByPeeling k 2 t li lj Q → wpX11_pairByPeeling k 2 t li lj R → wpX11_pairByPeeling k 2 t li lj (fun t => Q t ∧ R t)) := by
  intro k
  induction k with
  | zero => exact ⟨fun _ _ _ hR _ => False.elim hR, fun _ _ _ hR _ => False.elim hR, fun _ _ _ hR _ => False.elim hR⟩
  | succ k ih =>
    refine ⟨?_, ?_, ?_⟩
    · intro t li lj hQ hR
      have hQ : wbX11_pairByPeeling_0 (wpX11_pairByPeeling k) k t li lj Q := hQ
      have hR : wbX11_pairByPeeling_0 (wpX11_pairByPeeling k) k t li lj R := hR
      show wbX11_pairByPeeling_0 (wpX11_pairByPeeling k) k t li lj (fun t => Q t ∧ R t)
      unfold wbX11_pairByPeeling_0 at hQ hR ⊢
      exact wiX7_begin hQ hR (fun y1_0 h1 i1 => ih.2.1 _ _ _ h1 i1)
    · intro t li lj hQ hR
      have hQ : wbX11_pairByPeeling_1 (wpX11_pairByPeeling k) k t li lj Q := hQ
      have hR : wbX11_pairByPeeling_1 (wpX11_pairByPeeling k) k t li lj R := hR
      show wbX11_pairByPeeling_1 (wpX11_pairByPeeling k) k t li lj (fun t => Q t ∧ R t)
      unfold wbX11_pairByPeeling_1 at hQ hR ⊢
      exact ⟨fun c1 => ⟨(hQ.1 c1), (hR.1 c1)⟩, fun c2 => fun x3 e3 => ⟨fun c4 => ⟨(((hQ.2 c2) x3 e3).1 c4), (((hR.2 c2) x3 e3).1 c4)⟩, fun c5 => fun x6 e6 => ⟨fun c7 => wiJ13_bitCount_95d88 (((((hQ.2 c2) x3 e3).2 c5) x6 e6).1 c7) (((((hR.2 c2) x3 e3).2 c5) x6 e6).1 c7) (fun y8_0 h8 i8 => fun x9 e9 => wiX11_nth (h8 x9 e9) (i8 x9 e9) (fun y10_0 h10 i10 => wiX7_close h10 i10 (fun y11_0 h11 i11 => ih.2.2 _ _ _ h11 i11))), fun c12 => wiX11_lowest (((((hQ.2 c2) x3 e3).2 c5) x6 e6).2 c12) (((((hR.2 c2) x3 e3).2 c5) x6 e6).2 c12) (fun y13_0 h13 i13 => wiX7_above h13 i13 (fun y14_0 y14_1 h14 i14 => wiX6_unite h14 i14 (fun y15_0 h15 i15 => wiX7_close h15 i15 (fun y16_0 h16 i16 => wiX7_close h16 i16 (fun y17_0 h17 i17 => ih.2.2 _ _ _ h17 i17)))))⟩⟩⟩
    · intro t li lj hQ hR
      have hQ : wbX11_pairByPeeling_2 (wpX11_pairByPeeling k) k t li lj Q := hQ
      have hR : wbX11_pairByPeeling_2 (wpX11_pairByPeeling k) k t li lj R := hR
      show wbX11_pairByPeeling_2 (wpX11_pairByPeeling k) k t li lj (fun t => Q t ∧ R t)
      unfold wbX11_pairByPeeling_2 at hQ hR ⊢
      exact fun x1 e1 => ih.2.1 _ _ _ (hQ x1 e1) (hR x1 e1)
theorem wjX11_pairByPeeling {k : Nat} {t : XT}  {Q R : XT → Prop} (hQ : wqX11_pairByPeeling k t  Q) (hR : wqX11_pairByPeeling k t  R) : wqX11_pairByPeeling k t  (fun t => Q t ∧ R t) := (wkX11_pairByPeelingj Q R k).1 t _ _ hQ hR
theorem wiX11_pairByPeeling {k : Nat} {t : XT}  {Q R S : XT → Prop} (hQ : wqX11_pairByPeeling k t  Q) (hR : wqX11_pairByPeeling k t  R) (f : ∀ t, Q t → R t → S t) : wqX11_pairByPeeling k t  S := wmX11_pairByPeeling (Nat.le_refl k) (fun t h => f t h.1 h.2) (wjX11_pairByPeeling hQ hR)
set_option maxHeartbeats 4000000 in
set_option maxRecDepth 100000 in
theorem wkX11_pairDownwardsj (Q R : XT → Prop) : ∀ k : Nat, (∀ (t : XT) (li : Nat → Int32) (lj : Nat → Int64), wpX11_pairDownwards k 0 t li lj Q → wpX11_pairDownwards k 0 t li lj R → wpX11_pairDownwards k 0 t li lj (fun t => Q t ∧ R t)) ∧ (∀ (t : XT) (li : Nat → Int32) (lj : Nat → Int64), wpX11_pairDownwards k 1 t li lj Q → wpX11_pairDownwards k 1 t li lj R → wpX11_pairDownwards k 1 t li lj (fun t => Q t ∧ R t)) ∧ (∀ (t : XT) (li : Nat → Int32) (lj : Nat → Int64), wpX11_pairDownwards k 2 t li lj Q → wpX11_pairDownwards k 2 t li lj R → wpX11_pairDownwards k 2 t li lj (fun t => Q t ∧ R t)) ∧ (∀ (t : XT) (li : Nat → Int32) (lj : Nat → Int64), wpX11_pairDownwards k 3 t li lj Q → wpX11_pairDownwards k 3 t li lj R → wpX11_pairDownwards k 3 t li lj (fun t => Q t ∧ R t)) ∧ (∀ (t : XT) (li : Nat → Int32) (lj : Nat → Int64), wpX11_pairDownwards k 4 t li lj Q → wpX11_pairDownwards k 4 t li lj R → wpX11_pairDownwards k 4 t li lj (fun t => Q t ∧ R t)) ∧ (∀ (t : XT) (li : Nat → Int32) (lj : Nat → Int64), wpX11_pairDownwards k 5 t li lj Q → wpX11_pairDownwards k 5 t li lj R → wpX11_pairDownwards k 5 t li lj (fun t => Q t ∧ R t)) := by
  intro k
  induction k with
  | zero => exact ⟨fun _ _ _ hR _ => False.elim hR, fun _ _ _ hR _ => False.elim hR, fun _ _ _ hR _ => False.elim hR, fun _ _ _ hR _ => False.elim hR, fun _ _ _ hR _ => False.elim hR, fun _ _ _ hR _ => False.elim hR⟩
  | succ k ih =>
    refine ⟨?_, ?_, ?_, ?_, ?_, ?_⟩
    · intro t li lj hQ hR
      have hQ : wbX11_pairDownwards_0 (wpX11_pairDownwards k) k t li lj Q := hQ
      have hR : wbX11_pairDownwards_0 (wpX11_pairDownwards k) k t li lj R := hR
      show wbX11_pairDownwards_0 (wpX11_pairDownwards k) k t li lj (fun t => Q t ∧ R t)
      unfold wbX11_pairDownwards_0 at hQ hR ⊢
      exact fun x1 e1 => ih.2.1 _ _ _ (hQ x1 e1) (hR x1 e1)
    · intro t li lj hQ hR
      have hQ : wbX11_pairDownwards_1 (wpX11_pairDownwards k) k t li lj Q := hQ
      have hR : wbX11_pairDownwards_1 (wpX11_pairDownwards k) k t li lj R := hR
      show wbX11_pairDownwards_1 (wpX11_pairDownwards k) k t li lj (fun t => Q t ∧ R t)
      unfold wbX11_pairDownwards_1 at hQ hR ⊢
      exact ⟨fun c1 => ⟨(hQ.1 c1), (hR.1 c1)⟩, fun c2 => wiX6_isCritical (hQ.2 c2) (hR.2 c2) (fun y3_0 y3_1 h3 i3 => ⟨fun c4 => ih.2.2.1 _ _ _ (h3.1 c4) (i3.1 c4), fun c5 => ⟨(h3.2 c5).1, fun x6 e6 => wiX6_unpaired ((h3.2 c5).2 x6 e6) ((i3.2 c5).2 x6 e6) (fun y7_0 y7_1 h7 i7 => fun x8 e8 => ih.2.2.1 _ _ _ (h7 x8 e8) (i7 x8 e8))⟩⟩)⟩
    · intro t li lj hQ hR
      have hQ : wbX11_pairDownwards_2 (wpX11_pairDownwards k) k t li lj Q := hQ
      have hR : wbX11_pairDownwards_2 (wpX11_pairDownwards k) k t li lj R := hR
      show wbX11_pairDownwards_2 (wpX11_pairDownwards k) k t li lj (fun t => Q t ∧ R t)
      unfold wbX11_pairDownwards_2 at hQ hR ⊢
      exact fun x1 e1 => ih.2.2.2.1 _ _ _ (hQ x1 e1) (hR x1 e1)
    · intro t li lj hQ hR
      have hQ : wbX11_pairDownwards_3 (wpX11_pairDownwards k) k t li lj Q := hQ
      have hR : wbX11_pairDownwards_3 (wpX11_pairDownwards k) k t li lj R := hR
      show wbX11_pairDownwards_3 (wpX11_pairDownwards k) k t li lj (fun t => Q t ∧ R t)
      unfold wbX11_pairDownwards_3 at hQ hR ⊢
      exact ⟨fun c1 => ih.2.2.2.2.2 _ _ _ (hQ.1 c1) (hR.1 c1), fun c2 => fun x3 e3 => ⟨fun c4 => ih.2.2.2.2.2 _ _ _ (((hQ.2 c2) x3 e3).1 c4) (((hR.2 c2) x3 e3).1 c4), fun c5 => wiX11_isIn (((hQ.2 c2) x3 e3).2 c5) (((hR.2 c2) x3 e3).2 c5) (fun y6_0 h6 i6 => ⟨fun c7 => ih.2.2.2.2.1 _ _ _ (h6.1 c7) (i6.1 c7), fun c8 => wiX6_staysAcyclic (h6.2 c8) (i6.2 c8) (fun y9_0 y9_1 h9 i9 => ⟨fun c10 => ih.2.2.2.2.1 _ _ _ (h9.1 c10) (i9.1 c10), fun c11 => wiX6_unite (h9.2 c11) (i9.2 c11) (fun y12_0 h12 i12 => ih.2.2.2.2.1 _ _ _ h12 i12)⟩)⟩)⟩⟩
    · intro t li lj hQ hR
      have hQ : wbX11_pairDownwards_4 (wpX11_pairDownwards k) k t li lj Q := hQ
      have hR : wbX11_pairDownwards_4 (wpX11_pairDownwards k) k t li lj R := hR
      show wbX11_pairDownwards_4 (wpX11_pairDownwards k) k t li lj (fun t => Q t ∧ R t)
      unfold wbX11_pairDownwards_4 at hQ hR ⊢
      exact fun x1 e1 => ih.2.2.2.1 _ _ _ (hQ x1 e1) (hR x1 e1)
    · intro t li lj hQ hR
      have hQ : wbX11_pairDownwards_5 (wpX11_pairDownwards k) k t li lj Q := hQ
      have hR : wbX11_pairDownwards_5 (wpX11_pairDownwards k) k t li lj R := hR
      show wbX11_pairDownwards_5 (wpX11_pairDownwards k) k t li lj (fun t => Q t ∧ R t)
      unfold wbX11_pairDownwards_5 at hQ hR ⊢
      exact fun x1 e1 => ih.2.1 _ _ _ (hQ x1 e1) (hR x1 e1)
theorem wjX11_pairDownwards {k : Nat} {t : XT}  {Q R : XT → Prop} (hQ : wqX11_pairDownwards k t  Q) (hR : wqX11_pairDownwards k t  R) : wqX11_pairDownwards k t  (fun t => Q t ∧ R t) := (wkX11_pairDownwardsj Q R k).1 t _ _ hQ hR
theorem wiX11_pairDownwards {k : Nat} {t : XT}  {Q R S : XT → Prop} (hQ : wqX11_pairDownwards k t  Q) (hR : wqX11_pairDownwards k t  R) (f : ∀ t, Q t → R t → S t) : wqX11_pairDownwards k t  S := wmX11_pairDownwards (Nat.le_refl k) (fun t h => f t h.1 h.2) (wjX11_pairDownwards hQ hR)
set_option maxHeartbeats 4000000 in
set_option maxRecDepth 100000 in
theorem wkX11_pairUpwardsj (Q R : XT → Prop) : ∀ k : Nat, (∀ (t : XT) (li : Nat → Int32) (lj : Nat → Int64), wpX11_pairUpwards k 0 t li lj Q → wpX11_pairUpwards k 0 t li lj R → wpX11_pairUpwards k 0 t li lj (fun t => Q t ∧ R t)) ∧ (∀ (t : XT) (li : Nat → Int32) (lj : Nat → Int64), wpX11_pairUpwards k 1 t li lj Q → wpX11_pairUpwards k 1 t li lj R → wpX11_pairUpwards k 1 t li lj (fun t => Q t ∧ R t)) ∧ (∀ (t : XT) (li : Nat → Int32) (lj : Nat → Int64), wpX11_pairUpwards k 2 t li lj Q → wpX11_pairUpwards k 2 t li lj R → wpX11_pairUpwards k 2 t li lj (fun t => Q t ∧ R t)) ∧ (∀ (t : XT) (li : Nat → Int32) (lj : Nat → Int64), wpX11_pairUpwards k 3 t li lj Q → wpX11_pairUpwards k 3 t li lj R → wpX11_pairUpwards k 3 t li lj (fun t => Q t ∧ R t)) ∧ (∀ (t : XT) (li : Nat → Int32) (lj : Nat → Int64), wpX11_pairUpwards k 4 t li lj Q → wpX11_pairUpwards k 4 t li lj R → wpX11_pairUpwards k 4 t li lj (fun t => Q t ∧ R t)) ∧ (∀ (t : XT) (li : Nat → Int32) (lj : Nat → Int64), wpX11_pairUpwards k 5 t li lj Q → wpX11_pairUpwards k 5 t li lj R → wpX11_pairUpwards k 5 t li lj (fun t => Q t ∧ R t)) := by
  intro k
  induction k with
  | zero => exact ⟨fun _ _ _ hR _ => False.elim hR, fun _ _ _ hR _ => False.elim hR, fun _ _ _ hR _ => False.elim hR, fun _ _ _ hR _ => False.elim hR, fun _ _ _ hR _ => False.elim hR, fun _ _ _ hR _ => False.elim hR⟩
  | succ k ih =>
    refine ⟨?_, ?_, ?_, ?_, ?_, ?_⟩
    · intro t li lj hQ hR
      have hQ : wbX11_pairUpwards_0 (wpX11_pairUpwards k) k t li lj Q := hQ
      have hR : wbX11_pairUpwards_0 (wpX11_pairUpwards k) k t li lj R := hR
      show wbX11_pairUpwards_0 (wpX11_pairUpwards k) k t li lj (fun t => Q t ∧ R t)
      unfold wbX11_pairUpwards_0 at hQ hR ⊢
      exact ih.2.1 _ _ _ hQ hR
    · intro t li lj hQ hR
      have hQ : wbX11_pairUpwards_1 (wpX11_pairUpwards k) k t li lj Q := hQ
      have hR : wbX11_pairUpwards_1 (wpX11_pairUpwards k) k t li lj R := hR
      show wbX11_pairUpwards_1 (wpX11_pairUpwards k) k t li lj (fun t => Q t ∧ R t)
      unfold wbX11_pairUpwards_1 at hQ hR ⊢
      exact ⟨fun c1 => ⟨(hQ.1 c1), (hR.1 c1)⟩, fun c2 => wiX6_isCritical (hQ.2 c2) (hR.2 c2) (fun y3_0 y3_1 h3 i3 => ⟨fun c4 => ih.2.2.1 _ _ _ (h3.1 c4) (i3.1 c4), fun c5 => ⟨(h3.2 c5).1, fun x6 e6 => wiX6_unpaired ((h3.2 c5).2 x6 e6) ((i3.2 c5).2 x6 e6) (fun y7_0 y7_1 h7 i7 => fun x8 e8 => ih.2.2.1 _ _ _ (h7 x8 e8) (i7 x8 e8))⟩⟩)⟩
    · intro t li lj hQ hR
      have hQ : wbX11_pairUpwards_2 (wpX11_pairUpwards k) k t li lj Q := hQ
      have hR : wbX11_pairUpwards_2 (wpX11_pairUpwards k) k t li lj R := hR
      show wbX11_pairUpwards_2 (wpX11_pairUpwards k) k t li lj (fun t => Q t ∧ R t)
      unfold wbX11_pairUpwards_2 at hQ hR ⊢
      exact fun x1 e1 => ih.2.2.2.1 _ _ _ (hQ x1 e1) (hR x1 e1)
    · intro t li lj hQ hR
      have hQ : wbX11_pairUpwards_3 (wpX11_pairUpwards k) k t li lj Q := hQ
      have hR : wbX11_pairUpwards_3 (wpX11_pairUpwards k) k t li lj R := hR
      show wbX11_pairUpwards_3 (wpX11_pairUpwards k) k t li lj (fun t => Q t ∧ R t)
      unfold wbX11_pairUpwards_3 at hQ hR ⊢
      exact ⟨fun c1 => ih.2.2.2.2.2 _ _ _ (hQ.1 c1) (hR.1 c1), fun c2 => fun x3 e3 => ⟨fun c4 => ih.2.2.2.2.2 _ _ _ (((hQ.2 c2) x3 e3).1 c4) (((hR.2 c2) x3 e3).1 c4), fun c5 => wiX11_isIn (((hQ.2 c2) x3 e3).2 c5) (((hR.2 c2) x3 e3).2 c5) (fun y6_0 h6 i6 => ⟨fun c7 => ih.2.2.2.2.1 _ _ _ (h6.1 c7) (i6.1 c7), fun c8 => wiX6_staysAcyclic (h6.2 c8) (i6.2 c8) (fun y9_0 y9_1 h9 i9 => ⟨fun c10 => ih.2.2.2.2.1 _ _ _ (h9.1 c10) (i9.1 c10), fun c11 => wiX6_unite (h9.2 c11) (i9.2 c11) (fun y12_0 h12 i12 => ih.2.2.2.2.1 _ _ _ h12 i12)⟩)⟩)⟩⟩
    · intro t li lj hQ hR
      have hQ : wbX11_pairUpwards_4 (wpX11_pairUpwards k) k t li lj Q := hQ
      have hR : wbX11_pairUpwards_4 (wpX11_pairUpwards k) k t li lj R := hR
      show wbX11_pairUpwards_4 (wpX11_pairUpwards k) k t li lj (fun t => Q t ∧ R t)
      unfold wbX11_pairUpwards_4 at hQ hR ⊢
      exact fun x1 e1 => ih.2.2.2.1 _ _ _ (hQ x1 e1) (hR x1 e1)
    · intro t li lj hQ hR
      have hQ : wbX11_pairUpwards_5 (wpX11_pairUpwards k) k t li lj Q := hQ
      have hR : wbX11_pairUpwards_5 (wpX11_pairUpwards k) k t li lj R := hR
      show wbX11_pairUpwards_5 (wpX11_pairUpwards k) k t li lj (fun t => Q t ∧ R t)
      unfold wbX11_pairUpwards_5 at hQ hR ⊢
      exact fun x1 e1 => ih.2.1 _ _ _ (hQ x1 e1) (hR x1 e1)
theorem wjX11_pairUpwards {k : Nat} {t : XT}  {Q R : XT → Prop} (hQ : wqX11_pairUpwards k t  Q) (hR : wqX11_pairUpwards k t  R) : wqX11_pairUpwards k t  (fun t => Q t ∧ R t) := (wkX11_pairUpwardsj Q R k).1 t _ _ hQ hR
theorem wiX11_pairUpwards {k : Nat} {t : XT}  {Q R S : XT → Prop} (hQ : wqX11_pairUpwards k t  Q) (hR : wqX11_pairUpwards k t  R) (f : ∀ t, Q t → R t → S t) : wqX11_pairUpwards k t  S := wmX11_pairUpwards (Nat.le_refl k) (fun t h => f t h.1 h.2) (wjX11_pairUpwards hQ hR)
set_option maxHeartbeats 4000000 in
set_option maxRecDepth 100000 in
theorem wkX11_autoj (Q R : Int32 → XT → Prop) : ∀ k : Nat, (∀ (t : XT) (li : Nat → Int32) (lj : Nat → Int64), wpX11_auto k 0 t li lj Q → wpX11_auto k 0 t li lj R → wpX11_auto k 0 t li lj (fun r t => Q r t ∧ R r t)) ∧ (∀ (t : XT) (li : Nat → Int32) (lj : Nat → Int64), wpX11_auto k 1 t li lj Q → wpX11_auto k 1 t li lj R → wpX11_auto k 1 t li lj (fun r t => Q r t ∧ R r t)) ∧ (∀ (t : XT) (li : Nat → Int32) (lj : Nat → Int64), wpX11_auto k 2 t li lj Q → wpX11_auto k 2 t li lj R → wpX11_auto k 2 t li lj (fun r t => Q r t ∧ R r t)) := by
  intro k
  induction k with
  | zero => exact ⟨fun _ _ _ hR _ => False.elim hR, fun _ _ _ hR _ => False.elim hR, fun _ _ _ hR _ => False.elim hR⟩
  | succ k ih =>
    refine ⟨?_, ?_, ?_⟩
    · intro t li lj hQ hR
      have hQ : wbX11_auto_0 (wpX11_auto k) k t li lj Q := hQ
      have hR : wbX11_auto_0 (wpX11_auto k) k t li lj R := hR
      show wbX11_auto_0 (wpX11_auto k) k t li lj (fun r t => Q r t ∧ R r t)
      unfold wbX11_auto_0 at hQ hR ⊢
      exact ⟨fun c1 => ih.2.1 _ _ _ (hQ.1 c1) (hR.1 c1), fun c2 => ⟨fun c3 => ih.2.1 _ _ _ ((hQ.2 c2).1 c3) ((hR.2 c2).1 c3), fun c4 => ⟨fun c5 => wiX3_save_c4 (((hQ.2 c2).2 c4).1 c5) (((hR.2 c2).2 c4).1 c5) (fun y6_0 h6 i6 => wiX6_restart h6 i6 (fun y7_0 h7 i7 => ⟨fun c8 => ⟨fun c9 => wiX11_pairByPeeling ((h7.1 c8).1 c9) ((i7.1 c8).1 c9) (fun y10_0 h10 i10 => ih.2.2 _ _ _ h10 i10), fun c11 => wiX11_pairDownwards ((h7.1 c8).2 c11) ((i7.1 c8).2 c11) (fun y12_0 h12 i12 => ih.2.2 _ _ _ h12 i12)⟩, fun c13 => wiX11_pairUpwards (h7.2 c13) (i7.2 c13) (fun y14_0 h14 i14 => ih.2.2 _ _ _ h14 i14)⟩)), fun c15 => ih.2.1 _ _ _ (((hQ.2 c2).2 c4).2 c15) (((hR.2 c2).2 c4).2 c15)⟩⟩⟩
    · intro t li lj hQ hR
      have hQ : wbX11_auto_1 (wpX11_auto k) k t li lj Q := hQ
      have hR : wbX11_auto_1 (wpX11_auto k) k t li lj R := hR
      show wbX11_auto_1 (wpX11_auto k) k t li lj (fun r t => Q r t ∧ R r t)
      unfold wbX11_auto_1 at hQ hR ⊢
      exact ⟨hQ, hR⟩
    · intro t li lj hQ hR
      have hQ : wbX11_auto_2 (wpX11_auto k) k t li lj Q := hQ
      have hR : wbX11_auto_2 (wpX11_auto k) k t li lj R := hR
      show wbX11_auto_2 (wpX11_auto k) k t li lj (fun r t => Q r t ∧ R r t)
      unfold wbX11_auto_2 at hQ hR ⊢
      exact wiX11_criticalOnes hQ hR (fun y1_0 y1_1 h1 i1 => ⟨h1, i1⟩)
theorem wjX11_auto {k : Nat} {t : XT} {a1 : Int32} {Q R : Int32 → XT → Prop} (hQ : wqX11_auto k t a1 Q) (hR : wqX11_auto k t a1 R) : wqX11_auto k t a1 (fun r t => Q r t ∧ R r t) := (wkX11_autoj Q R k).1 t _ _ hQ hR
theorem wiX11_auto {k : Nat} {t : XT} {a1 : Int32} {Q R S : Int32 → XT → Prop} (hQ : wqX11_auto k t a1 Q) (hR : wqX11_auto k t a1 R) (f : ∀ r t, Q r t → R r t → S r t) : wqX11_auto k t a1 S := wmX11_auto (Nat.le_refl k) (fun r t h => f r t h.1 h.2) (wjX11_auto hQ hR)
set_option maxHeartbeats 4000000 in
set_option maxRecDepth 100000 in
theorem wkX11_areEndsj (Q R : Int32 → XT → Prop) : ∀ k : Nat, (∀ (t : XT) (li : Nat → Int32) (lj : Nat → Int64), wpX11_areEnds k 0 t li lj Q → wpX11_areEnds k 0 t li lj R → wpX11_areEnds k 0 t li lj (fun r t => Q r t ∧ R r t)) ∧ (∀ (t : XT) (li : Nat → Int32) (lj : Nat → Int64), wpX11_areEnds k 1 t li lj Q → wpX11_areEnds k 1 t li lj R → wpX11_areEnds k 1 t li lj (fun r t => Q r t ∧ R r t)) ∧ (∀ (t : XT) (li : Nat → Int32) (lj : Nat → Int64), wpX11_areEnds k 2 t li lj Q → wpX11_areEnds k 2 t li lj R → wpX11_areEnds k 2 t li lj (fun r t => Q r t ∧ R r t)) := by
  intro k
  induction k with
  | zero => exact ⟨fun _ _ _ hR _ => False.elim hR, fun _ _ _ hR _ => False.elim hR, fun _ _ _ hR _ => False.elim hR⟩
  | succ k ih =>
    refine ⟨?_, ?_, ?_⟩
    · intro t li lj hQ hR
      have hQ : wbX11_areEnds_0 (wpX11_areEnds k) k t li lj Q := hQ
      have hR : wbX11_areEnds_0 (wpX11_areEnds k) k t li lj R := hR
      show wbX11_areEnds_0 (wpX11_areEnds k) k t li lj (fun r t => Q r t ∧ R r t)
      unfold wbX11_areEnds_0 at hQ hR ⊢
      exact wiX11_isThere hQ hR (fun y1_0 y1_1 h1 i1 => ⟨fun c2 => ih.2.1 _ _ _ (h1.1 c2) (i1.1 c2), fun c3 => wiX11_isThere (h1.2 c3) (i1.2 c3) (fun y4_0 y4_1 h4 i4 => ⟨fun c5 => ⟨(h4.1 c5).1, fun x6 e6 => ⟨((h4.1 c5).2 x6 e6).1, fun x7 e7 => fun x8 e8 => ⟨fun c9 => wiX6_isCritical (((((h4.1 c5).2 x6 e6).2 x7 e7) x8 e8).1 c9) (((((i4.1 c5).2 x6 e6).2 x7 e7) x8 e8).1 c9) (fun y10_0 y10_1 h10 i10 => ⟨fun c11 => ih.2.2 _ _ _ (h10.1 c11) (i10.1 c11), fun c12 => wiX6_isCritical (h10.2 c12) (i10.2 c12) (fun y13_0 y13_1 h13 i13 => ⟨fun c14 => ih.2.2 _ _ _ (h13.1 c14) (i13.1 c14), fun c15 => ⟨(h13.2 c15), (i13.2 c15)⟩⟩)⟩), fun c16 => ⟨(((((h4.1 c5).2 x6 e6).2 x7 e7) x8 e8).2 c16), (((((i4.1 c5).2 x6 e6).2 x7 e7) x8 e8).2 c16)⟩⟩⟩⟩, fun c17 => ih.2.1 _ _ _ (h4.2 c17) (i4.2 c17)⟩)⟩)
    · intro t li lj hQ hR
      have hQ : wbX11_areEnds_1 (wpX11_areEnds k) k t li lj Q := hQ
      have hR : wbX11_areEnds_1 (wpX11_areEnds k) k t li lj R := hR
      show wbX11_areEnds_1 (wpX11_areEnds k) k t li lj (fun r t => Q r t ∧ R r t)
      unfold wbX11_areEnds_1 at hQ hR ⊢
      exact ⟨hQ, hR⟩
    · intro t li lj hQ hR
      have hQ : wbX11_areEnds_2 (wpX11_areEnds k) k t li lj Q := hQ
      have hR : wbX11_areEnds_2 (wpX11_areEnds k) k t li lj R := hR
      show wbX11_areEnds_2 (wpX11_areEnds k) k t li lj (fun r t => Q r t ∧ R r t)
      unfold wbX11_areEnds_2 at hQ hR ⊢
      exact ⟨hQ, hR⟩
theorem wjX11_areEnds {k : Nat} {t : XT} {a1 : Int32} {a2 : Int32} {Q R : Int32 → XT → Prop} (hQ : wqX11_areEnds k t a1 a2 Q) (hR : wqX11_areEnds k t a1 a2 R) : wqX11_areEnds k t a1 a2 (fun r t => Q r t ∧ R r t) := (wkX11_areEndsj Q R k).1 t _ _ hQ hR
theorem wiX11_areEnds {k : Nat} {t : XT} {a1 : Int32} {a2 : Int32} {Q R S : Int32 → XT → Prop} (hQ : wqX11_areEnds k t a1 a2 Q) (hR : wqX11_areEnds k t a1 a2 R) (f : ∀ r t, Q r t → R r t → S r t) : wqX11_areEnds k t a1 a2 S := wmX11_areEnds (Nat.le_refl k) (fun r t h => f r t h.1 h.2) (wjX11_areEnds hQ hR)
set_option maxHeartbeats 4000000 in
set_option maxRecDepth 100000 in
theorem wkX6_belowj (Q R : Int64 → XT → Prop) : ∀ k : Nat, (∀ (t : XT) (li : Nat → Int32) (lj : Nat → Int64), wpX6_below k 0 t li lj Q → wpX6_below k 0 t li lj R → wpX6_below k 0 t li lj (fun r t => Q r t ∧ R r t)) := by
  intro k
  induction k with
  | zero => exact fun _ _ _ hR _ => False.elim hR
  | succ k ih =>
    intro t li lj hQ hR
    have hQ : wbX6_below_0 (wpX6_below k) k t li lj Q := hQ
    have hR : wbX6_below_0 (wpX6_below k) k t li lj R := hR
    show wbX6_below_0 (wpX6_below k) k t li lj (fun r t => Q r t ∧ R r t)
    unfold wbX6_below_0 at hQ hR ⊢
    exact ⟨hQ.1, fun x1 e1 => ⟨fun c2 => ⟨((hQ.2 x1 e1).1 c2).1, fun x3 e3 => ⟨(((hQ.2 x1 e1).1 c2).2 x3 e3).1, fun x4 e4 => fun x5 e5 => fun x6 e6 => fun x7 e7 => ⟨(((((((hQ.2 x1 e1).1 c2).2 x3 e3).2 x4 e4) x5 e5) x6 e6) x7 e7), (((((((hR.2 x1 e1).1 c2).2 x3 e3).2 x4 e4) x5 e5) x6 e6) x7 e7)⟩⟩⟩, fun c8 => ⟨((hQ.2 x1 e1).2 c8).1, fun x9 e9 => ⟨(((hQ.2 x1 e1).2 c8).2 x9 e9), (((hR.2 x1 e1).2 c8).2 x9 e9)⟩⟩⟩⟩
theorem wjX6_below {k : Nat} {t : XT} {a1 : Int32} {Q R : Int64 → XT → Prop} (hQ : wqX6_below k t a1 Q) (hR : wqX6_below k t a1 R) : wqX6_below k t a1 (fun r t => Q r t ∧ R r t) := (wkX6_belowj Q R k) t _ _ hQ hR
theorem wiX6_below {k : Nat} {t : XT} {a1 : Int32} {Q R S : Int64 → XT → Prop} (hQ : wqX6_below k t a1 Q) (hR : wqX6_below k t a1 R) (f : ∀ r t, Q r t → R r t → S r t) : wqX6_below k t a1 S := wmX6_below (Nat.le_refl k) (fun r t h => f r t h.1 h.2) (wjX6_below hQ hR)
set_option maxHeartbeats 4000000 in
set_option maxRecDepth 100000 in
theorem wkX1_waysDownj (Q R : Int64 → XT → Prop) : ∀ k : Nat, (∀ (t : XT) (li : Nat → Int32) (lj : Nat → Int64), wpX1_waysDown k 0 t li lj Q → wpX1_waysDown k 0 t li lj R → wpX1_waysDown k 0 t li lj (fun r t => Q r t ∧ R r t)) ∧ (∀ (t : XT) (li : Nat → Int32) (lj : Nat → Int64), wpX1_waysDown k 1 t li lj Q → wpX1_waysDown k 1 t li lj R → wpX1_waysDown k 1 t li lj (fun r t => Q r t ∧ R r t)) ∧ (∀ (t : XT) (li : Nat → Int32) (lj : Nat → Int64), wpX1_waysDown k 2 t li lj Q → wpX1_waysDown k 2 t li lj R → wpX1_waysDown k 2 t li lj (fun r t => Q r t ∧ R r t)) := by
  intro k
  induction k with
  | zero => exact ⟨fun _ _ _ hR _ => False.elim hR, fun _ _ _ hR _ => False.elim hR, fun _ _ _ hR _ => False.elim hR⟩
  | succ k ih =>
    refine ⟨?_, ?_, ?_⟩
    · intro t li lj hQ hR
      have hQ : wbX1_waysDown_0 (wpX1_waysDown k) k t li lj Q := hQ
      have hR : wbX1_waysDown_0 (wpX1_waysDown k) k t li lj R := hR
      show wbX1_waysDown_0 (wpX1_waysDown k) k t li lj (fun r t => Q r t ∧ R r t)
      unfold wbX1_waysDown_0 at hQ hR ⊢
      exact wiX6_below hQ hR (fun y1_0 y1_1 h1 i1 => ih.2.1 _ _ _ h1 i1)
    · intro t li lj hQ hR
      have hQ : wbX1_waysDown_1 (wpX1_waysDown k) k t li lj Q := hQ
      have hR : wbX1_waysDown_1 (wpX1_waysDown k) k t li lj R := hR
      show wbX1_waysDown_1 (wpX1_waysDown k) k t li lj (fun r t => Q r t ∧ R r t)
      unfold wbX1_waysDown_1 at hQ hR ⊢
      exact ⟨fun c1 => ih.2.2 _ _ _ (hQ.1 c1) (hR.1 c1), fun c2 => fun x3 e3 => ⟨fun c4 => ih.2.2 _ _ _ (((hQ.2 c2) x3 e3).1 c4) (((hR.2 c2) x3 e3).1 c4), fun c5 => wiX11_lowest (((hQ.2 c2) x3 e3).2 c5) (((hR.2 c2) x3 e3).2 c5) (fun y6_0 h6 i6 => ⟨h6.1, fun x7 e7 => fun x8 e8 => fun x9 e9 => fun x10 e10 => fun x11 e11 => ih.2.1 _ _ _ (((((h6.2 x7 e7) x8 e8) x9 e9) x10 e10) x11 e11) (((((i6.2 x7 e7) x8 e8) x9 e9) x10 e10) x11 e11)⟩)⟩⟩
    · intro t li lj hQ hR
      have hQ : wbX1_waysDown_2 (wpX1_waysDown k) k t li lj Q := hQ
      have hR : wbX1_waysDown_2 (wpX1_waysDown k) k t li lj R := hR
      show wbX1_waysDown_2 (wpX1_waysDown k) k t li lj (fun r t => Q r t ∧ R r t)
      unfold wbX1_waysDown_2 at hQ hR ⊢
      exact ⟨hQ, hR⟩
theorem wjX1_waysDown {k : Nat} {t : XT} {a1 : Int32} {Q R : Int64 → XT → Prop} (hQ : wqX1_waysDown k t a1 Q) (hR : wqX1_waysDown k t a1 R) : wqX1_waysDown k t a1 (fun r t => Q r t ∧ R r t) := (wkX1_waysDownj Q R k).1 t _ _ hQ hR
theorem wiX1_waysDown {k : Nat} {t : XT} {a1 : Int32} {Q R S : Int64 → XT → Prop} (hQ : wqX1_waysDown k t a1 Q) (hR : wqX1_waysDown k t a1 R) (f : ∀ r t, Q r t → R r t → S r t) : wqX1_waysDown k t a1 S := wmX1_waysDown (Nat.le_refl k) (fun r t h => f r t h.1 h.2) (wjX1_waysDown hQ hR)
set_option maxHeartbeats 4000000 in
set_option maxRecDepth 100000 in
theorem wkX1_countWaysj (Q R : Int64 → XT → Prop) : ∀ k : Nat, (∀ (t : XT) (li : Nat → Int32) (lj : Nat → Int64), wpX1_countWays k 0 t li lj Q → wpX1_countWays k 0 t li lj R → wpX1_countWays k 0 t li lj (fun r t => Q r t ∧ R r t)) ∧ (∀ (t : XT) (li : Nat → Int32) (lj : Nat → Int64), wpX1_countWays k 1 t li lj Q → wpX1_countWays k 1 t li lj R → wpX1_countWays k 1 t li lj (fun r t => Q r t ∧ R r t)) ∧ (∀ (t : XT) (li : Nat → Int32) (lj : Nat → Int64), wpX1_countWays k 2 t li lj Q → wpX1_countWays k 2 t li lj R → wpX1_countWays k 2 t li lj (fun r t => Q r t ∧ R r t)) := by
  intro k
  induction k with
  | zero => exact ⟨fun _ _ _ hR _ => False.elim hR, fun _ _ _ hR _ => False.elim hR, fun _ _ _ hR _ => False.elim hR⟩
  | succ k ih =>
    refine ⟨?_, ?_, ?_⟩
    · intro t li lj hQ hR
      have hQ : wbX1_countWays_0 (wpX1_countWays k) k t li lj Q := hQ
      have hR : wbX1_countWays_0 (wpX1_countWays k) k t li lj R := hR
      show wbX1_countWays_0 (wpX1_countWays k) k t li lj (fun r t => Q r t ∧ R r t)
      unfold wbX1_countWays_0 at hQ hR ⊢
      exact wiX2_measure hQ hR (fun y1_0 h1 i1 => fun x2 e2 => ih.2.1 _ _ _ (h1 x2 e2) (i1 x2 e2))
    · intro t li lj hQ hR
      have hQ : wbX1_countWays_1 (wpX1_countWays k) k t li lj Q := hQ
      have hR : wbX1_countWays_1 (wpX1_countWays k) k t li lj R := hR
      show wbX1_countWays_1 (wpX1_countWays k) k t li lj (fun r t => Q r t ∧ R r t)
      unfold wbX1_countWays_1 at hQ hR ⊢
      exact ⟨fun c1 => ⟨(hQ.1 c1).1, fun x2 e2 => ⟨((hQ.1 c1).2 x2 e2), ((hR.1 c1).2 x2 e2)⟩⟩, fun c3 => ⟨(hQ.2 c3).1, fun x4 e4 => ⟨fun c5 => ⟨(((hQ.2 c3).2 x4 e4).1 c5).1, fun x6 e6 => ⟨((((hQ.2 c3).2 x4 e4).1 c5).2 x6 e6).1, fun x7 e7 => ⟨fun c8 => ⟨((((((hQ.2 c3).2 x4 e4).1 c5).2 x6 e6).2 x7 e7).1 c8).1, fun x9 e9 => ⟨(((((((hQ.2 c3).2 x4 e4).1 c5).2 x6 e6).2 x7 e7).1 c8).2 x9 e9).1, fun x10 e10 => ⟨fun c11 => ih.2.2 _ _ _ (((((((((hQ.2 c3).2 x4 e4).1 c5).2 x6 e6).2 x7 e7).1 c8).2 x9 e9).2 x10 e10).1 c11) (((((((((hR.2 c3).2 x4 e4).1 c5).2 x6 e6).2 x7 e7).1 c8).2 x9 e9).2 x10 e10).1 c11), fun c12 => ⟨(((((((((hQ.2 c3).2 x4 e4).1 c5).2 x6 e6).2 x7 e7).1 c8).2 x9 e9).2 x10 e10).2 c12).1, fun x13 e13 => ⟨fun c14 => ih.2.2 _ _ _ (((((((((((hQ.2 c3).2 x4 e4).1 c5).2 x6 e6).2 x7 e7).1 c8).2 x9 e9).2 x10 e10).2 c12).2 x13 e13).1 c14) (((((((((((hR.2 c3).2 x4 e4).1 c5).2 x6 e6).2 x7 e7).1 c8).2 x9 e9).2 x10 e10).2 c12).2 x13 e13).1 c14), fun c15 => ⟨(((((((((((hQ.2 c3).2 x4 e4).1 c5).2 x6 e6).2 x7 e7).1 c8).2 x9 e9).2 x10 e10).2 c12).2 x13 e13).2 c15).1, fun x16 e16 => ⟨((((((((((((hQ.2 c3).2 x4 e4).1 c5).2 x6 e6).2 x7 e7).1 c8).2 x9 e9).2 x10 e10).2 c12).2 x13 e13).2 c15).2 x16 e16).1, fun x17 e17 => ⟨(((((((((((((hQ.2 c3).2 x4 e4).1 c5).2 x6 e6).2 x7 e7).1 c8).2 x9 e9).2 x10 e10).2 c12).2 x13 e13).2 c15).2 x16 e16).2 x17 e17).1, fun x18 e18 => ih.2.2 _ _ _ ((((((((((((((hQ.2 c3).2 x4 e4).1 c5).2 x6 e6).2 x7 e7).1 c8).2 x9 e9).2 x10 e10).2 c12).2 x13 e13).2 c15).2 x16 e16).2 x17 e17).2 x18 e18) ((((((((((((((hR.2 c3).2 x4 e4).1 c5).2 x6 e6).2 x7 e7).1 c8).2 x9 e9).2 x10 e10).2 c12).2 x13 e13).2 c15).2 x16 e16).2 x17 e17).2 x18 e18)⟩⟩⟩⟩⟩⟩⟩⟩, fun c19 => wiX1_waysDown ((((((hQ.2 c3).2 x4 e4).1 c5).2 x6 e6).2 x7 e7).2 c19) ((((((hR.2 c3).2 x4 e4).1 c5).2 x6 e6).2 x7 e7).2 c19) (fun y20_0 y20_1 h20 i20 => ⟨h20.1, fun x21 e21 => ih.2.2 _ _ _ (h20.2 x21 e21) (i20.2 x21 e21)⟩)⟩⟩⟩, fun c22 => ⟨(((hQ.2 c3).2 x4 e4).2 c22).1, fun x23 e23 => ih.2.2 _ _ _ ((((hQ.2 c3).2 x4 e4).2 c22).2 x23 e23) ((((hR.2 c3).2 x4 e4).2 c22).2 x23 e23)⟩⟩⟩⟩
    · intro t li lj hQ hR
      have hQ : wbX1_countWays_2 (wpX1_countWays k) k t li lj Q := hQ
      have hR : wbX1_countWays_2 (wpX1_countWays k) k t li lj R := hR
      show wbX1_countWays_2 (wpX1_countWays k) k t li lj (fun r t => Q r t ∧ R r t)
      unfold wbX1_countWays_2 at hQ hR ⊢
      exact fun x1 e1 => ih.2.1 _ _ _ (hQ x1 e1) (hR x1 e1)
theorem wjX1_countWays {k : Nat} {t : XT} {a1 : Int32} {a2 : Int32} {Q R : Int64 → XT → Prop} (hQ : wqX1_countWays k t a1 a2 Q) (hR : wqX1_countWays k t a1 a2 R) : wqX1_countWays k t a1 a2 (fun r t => Q r t ∧ R r t) := (wkX1_countWaysj Q R k).1 t _ _ hQ hR
theorem wiX1_countWays {k : Nat} {t : XT} {a1 : Int32} {a2 : Int32} {Q R S : Int64 → XT → Prop} (hQ : wqX1_countWays k t a1 a2 Q) (hR : wqX1_countWays k t a1 a2 R) (f : ∀ r t, Q r t → R r t → S r t) : wqX1_countWays k t a1 a2 S := wmX1_countWays (Nat.le_refl k) (fun r t h => f r t h.1 h.2) (wjX1_countWays hQ hR)
set_option maxHeartbeats 4000000 in
set_option maxRecDepth 100000 in
theorem wkX1_chosenFacej (Q R : Int32 → XT → Prop) : ∀ k : Nat, (∀ (t : XT) (li : Nat → Int32) (lj : Nat → Int64), wpX1_chosenFace k 0 t li lj Q → wpX1_chosenFace k 0 t li lj R → wpX1_chosenFace k 0 t li lj (fun r t => Q r t ∧ R r t)) ∧ (∀ (t : XT) (li : Nat → Int32) (lj : Nat → Int64), wpX1_chosenFace k 1 t li lj Q → wpX1_chosenFace k 1 t li lj R → wpX1_chosenFace k 1 t li lj (fun r t => Q r t ∧ R r t)) ∧ (∀ (t : XT) (li : Nat → Int32) (lj : Nat → Int64), wpX1_chosenFace k 2 t li lj Q → wpX1_chosenFace k 2 t li lj R → wpX1_chosenFace k 2 t li lj (fun r t => Q r t ∧ R r t)) := by
  intro k
  induction k with
  | zero => exact ⟨fun _ _ _ hR _ => False.elim hR, fun _ _ _ hR _ => False.elim hR, fun _ _ _ hR _ => False.elim hR⟩
  | succ k ih =>
    refine ⟨?_, ?_, ?_⟩
    · intro t li lj hQ hR
      have hQ : wbX1_chosenFace_0 (wpX1_chosenFace k) k t li lj Q := hQ
      have hR : wbX1_chosenFace_0 (wpX1_chosenFace k) k t li lj R := hR
      show wbX1_chosenFace_0 (wpX1_chosenFace k) k t li lj (fun r t => Q r t ∧ R r t)
      unfold wbX1_chosenFace_0 at hQ hR ⊢
      exact wiX6_below hQ hR (fun y1_0 y1_1 h1 i1 => wiX11_lowest h1 i1 (fun y2_0 h2 i2 => ih.2.1 _ _ _ h2 i2))
    · intro t li lj hQ hR
      have hQ : wbX1_chosenFace_1 (wpX1_chosenFace k) k t li lj Q := hQ
      have hR : wbX1_chosenFace_1 (wpX1_chosenFace k) k t li lj R := hR
      show wbX1_chosenFace_1 (wpX1_chosenFace k) k t li lj (fun r t => Q r t ∧ R r t)
      unfold wbX1_chosenFace_1 at hQ hR ⊢
      exact ⟨fun c1 => ih.2.2 _ _ _ (hQ.1 c1) (hR.1 c1), fun c2 => fun x3 e3 => ⟨fun c4 => ih.2.2 _ _ _ (((hQ.2 c2) x3 e3).1 c4) (((hR.2 c2) x3 e3).1 c4), fun c5 => wiX11_lowest (((hQ.2 c2) x3 e3).2 c5) (((hR.2 c2) x3 e3).2 c5) (fun y6_0 h6 i6 => ⟨h6.1, fun x7 e7 => fun x8 e8 => ⟨fun c9 => ⟨(((h6.2 x7 e7) x8 e8).1 c9).1, fun x10 e10 => fun x11 e11 => fun x12 e12 => fun x13 e13 => fun x14 e14 => fun x15 e15 => ih.2.1 _ _ _ (((((((((h6.2 x7 e7) x8 e8).1 c9).2 x10 e10) x11 e11) x12 e12) x13 e13) x14 e14) x15 e15) (((((((((i6.2 x7 e7) x8 e8).1 c9).2 x10 e10) x11 e11) x12 e12) x13 e13) x14 e14) x15 e15)⟩, fun c16 => ⟨(((h6.2 x7 e7) x8 e8).2 c16), (((i6.2 x7 e7) x8 e8).2 c16)⟩⟩⟩)⟩⟩
    · intro t li lj hQ hR
      have hQ : wbX1_chosenFace_2 (wpX1_chosenFace k) k t li lj Q := hQ
      have hR : wbX1_chosenFace_2 (wpX1_chosenFace k) k t li lj R := hR
      show wbX1_chosenFace_2 (wpX1_chosenFace k) k t li lj (fun r t => Q r t ∧ R r t)
      unfold wbX1_chosenFace_2 at hQ hR ⊢
      exact ⟨hQ, hR⟩
theorem wjX1_chosenFace {k : Nat} {t : XT} {a1 : Int32} {Q R : Int32 → XT → Prop} (hQ : wqX1_chosenFace k t a1 Q) (hR : wqX1_chosenFace k t a1 R) : wqX1_chosenFace k t a1 (fun r t => Q r t ∧ R r t) := (wkX1_chosenFacej Q R k).1 t _ _ hQ hR
theorem wiX1_chosenFace {k : Nat} {t : XT} {a1 : Int32} {Q R S : Int32 → XT → Prop} (hQ : wqX1_chosenFace k t a1 Q) (hR : wqX1_chosenFace k t a1 R) (f : ∀ r t, Q r t → R r t → S r t) : wqX1_chosenFace k t a1 S := wmX1_chosenFace (Nat.le_refl k) (fun r t h => f r t h.1 h.2) (wjX1_chosenFace hQ hR)
set_option maxHeartbeats 4000000 in
set_option maxRecDepth 100000 in
theorem wkX1_tracej (Q R : Int32 → XT → Prop) : ∀ k : Nat, (∀ (t : XT) (li : Nat → Int32) (lj : Nat → Int64), wpX1_trace k 0 t li lj Q → wpX1_trace k 0 t li lj R → wpX1_trace k 0 t li lj (fun r t => Q r t ∧ R r t)) ∧ (∀ (t : XT) (li : Nat → Int32) (lj : Nat → Int64), wpX1_trace k 1 t li lj Q → wpX1_trace k 1 t li lj R → wpX1_trace k 1 t li lj (fun r t => Q r t ∧ R r t)) ∧ (∀ (t : XT) (li : Nat → Int32) (lj : Nat → Int64), wpX1_trace k 2 t li lj Q → wpX1_trace k 2 t li lj R → wpX1_trace k 2 t li lj (fun r t => Q r t ∧ R r t)) ∧ (∀ (t : XT) (li : Nat → Int32) (lj : Nat → Int64), wpX1_trace k 3 t li lj Q → wpX1_trace k 3 t li lj R → wpX1_trace k 3 t li lj (fun r t => Q r t ∧ R r t)) := by
  intro k
  induction k with
  | zero => exact ⟨fun _ _ _ hR _ => False.elim hR, fun _ _ _ hR _ => False.elim hR, fun _ _ _ hR _ => False.elim hR, fun _ _ _ hR _ => False.elim hR⟩
  | succ k ih =>
    refine ⟨?_, ?_, ?_, ?_⟩
    · intro t li lj hQ hR
      have hQ : wbX1_trace_0 (wpX1_trace k) k t li lj Q := hQ
      have hR : wbX1_trace_0 (wpX1_trace k) k t li lj R := hR
      show wbX1_trace_0 (wpX1_trace k) k t li lj (fun r t => Q r t ∧ R r t)
      unfold wbX1_trace_0 at hQ hR ⊢
      exact fun x1 e1 => ⟨(hQ x1 e1).1, fun x2 e2 => ih.2.1 _ _ _ ((hQ x1 e1).2 x2 e2) ((hR x1 e1).2 x2 e2)⟩
    · intro t li lj hQ hR
      have hQ : wbX1_trace_1 (wpX1_trace k) k t li lj Q := hQ
      have hR : wbX1_trace_1 (wpX1_trace k) k t li lj R := hR
      show wbX1_trace_1 (wpX1_trace k) k t li lj (fun r t => Q r t ∧ R r t)
      unfold wbX1_trace_1 at hQ hR ⊢
      exact ⟨fun c1 => ih.2.2.2 _ _ _ (hQ.1 c1) (hR.1 c1), fun c2 => fun x3 e3 => ⟨fun c4 => ih.2.2.2 _ _ _ (((hQ.2 c2) x3 e3).1 c4) (((hR.2 c2) x3 e3).1 c4), fun c5 => wiX1_chosenFace (((hQ.2 c2) x3 e3).2 c5) (((hR.2 c2) x3 e3).2 c5) (fun y6_0 y6_1 h6 i6 => ⟨h6.1, fun x7 e7 => fun x8 e8 => ⟨fun c9 => ih.2.2.1 _ _ _ (((h6.2 x7 e7) x8 e8).1 c9) (((i6.2 x7 e7) x8 e8).1 c9), fun c10 => ⟨(((h6.2 x7 e7) x8 e8).2 c10).1, fun x11 e11 => ⟨fun c12 => ih.2.2.1 _ _ _ (((((h6.2 x7 e7) x8 e8).2 c10).2 x11 e11).1 c12) (((((i6.2 x7 e7) x8 e8).2 c10).2 x11 e11).1 c12), fun c13 => ⟨(((((h6.2 x7 e7) x8 e8).2 c10).2 x11 e11).2 c13).1, fun x14 e14 => ⟨((((((h6.2 x7 e7) x8 e8).2 c10).2 x11 e11).2 c13).2 x14 e14).1, fun x15 e15 => fun x16 e16 => ih.2.2.1 _ _ _ ((((((((h6.2 x7 e7) x8 e8).2 c10).2 x11 e11).2 c13).2 x14 e14).2 x15 e15) x16 e16) ((((((((i6.2 x7 e7) x8 e8).2 c10).2 x11 e11).2 c13).2 x14 e14).2 x15 e15) x16 e16)⟩⟩⟩⟩⟩⟩)⟩⟩
    · intro t li lj hQ hR
      have hQ : wbX1_trace_2 (wpX1_trace k) k t li lj Q := hQ
      have hR : wbX1_trace_2 (wpX1_trace k) k t li lj R := hR
      show wbX1_trace_2 (wpX1_trace k) k t li lj (fun r t => Q r t ∧ R r t)
      unfold wbX1_trace_2 at hQ hR ⊢
      exact ih.2.1 _ _ _ hQ hR
    · intro t li lj hQ hR
      have hQ : wbX1_trace_3 (wpX1_trace k) k t li lj Q := hQ
      have hR : wbX1_trace_3 (wpX1_trace k) k t li lj R := hR
      show wbX1_trace_3 (wpX1_trace k) k t li lj (fun r t => Q r t ∧ R r t)
      unfold wbX1_trace_3 at hQ hR ⊢
      exact ⟨hQ, hR⟩
theorem wjX1_trace {k : Nat} {t : XT} {a1 : Int32} {a2 : Int32} {a3 : Int64} {Q R : Int32 → XT → Prop} (hQ : wqX1_trace k t a1 a2 a3 Q) (hR : wqX1_trace k t a1 a2 a3 R) : wqX1_trace k t a1 a2 a3 (fun r t => Q r t ∧ R r t) := (wkX1_tracej Q R k).1 t _ _ hQ hR
theorem wiX1_trace {k : Nat} {t : XT} {a1 : Int32} {a2 : Int32} {a3 : Int64} {Q R S : Int32 → XT → Prop} (hQ : wqX1_trace k t a1 a2 a3 Q) (hR : wqX1_trace k t a1 a2 a3 R) (f : ∀ r t, Q r t → R r t → S r t) : wqX1_trace k t a1 a2 a3 S := wmX1_trace (Nat.le_refl k) (fun r t h => f r t h.1 h.2) (wjX1_trace hQ hR)
