set_option maxHeartbeats 4000000 in
set_option maxRecDepth 100000 in
theorem wnX12_couples (Q Q' : Int32 → XT → Prop) (hQ : (∀ (r : Int32) (t : XT), Q r t → Q' r t)) : ∀ k k' : Nat, k ≤ k' → (∀ (t : XT) (li : Nat → Int32) (lj : Nat → Int64), wpX12_couples k 0 t li lj Q → wpX12_couples k' 0 t li lj Q') := by
  intro k
  induction k with
  | zero => intro k' _; exact fun _ _ _ hR => False.elim hR
  | succ k ih =>
    intro k' hk
    cases k' with
    | zero => exact absurd hk (Nat.not_succ_le_zero k)
    | succ k' =>
      have hk := Nat.le_of_succ_le_succ hk
      have ihk := ih k' hk
      intro t li lj hR
      have hR : wbX12_couples_0 (wpX12_couples k) k t li lj Q := hR
      show wbX12_couples_0 (wpX12_couples k') k' t li lj Q'
      unfold wbX12_couples_0 at hR ⊢
      exact ⟨hR.1, fun x2 e2 => ⟨(hR.2 x2 e2).1, fun x3 e3 => wmX12_isAcyclic hk (fun y4_0 y4_1 h4 => ⟨fun c1 => ⟨(h4.1 c1).1, fun x5 e5 => ⟨((h4.1 c1).2 x5 e5).1, fun x6 e6 => hQ _ _ (((h4.1 c1).2 x5 e5).2 x6 e6)⟩⟩, fun c1 => hQ _ _ (h4.2 c1)⟩) ((hR.2 x2 e2).2 x3 e3)⟩⟩
theorem wmX12_couples {k k' : Nat} {t : XT} {a1 : Int32} {a2 : Int32} {Q Q' : Int32 → XT → Prop} (hk : k ≤ k') (hQ : (∀ (r : Int32) (t : XT), Q r t → Q' r t)) (hR : wqX12_couples k t a1 a2 Q) : wqX12_couples k' t a1 a2 Q' := (wnX12_couples Q Q' hQ k k' hk) _ _ _ hR
set_option maxHeartbeats 4000000 in
set_option maxRecDepth 100000 in
theorem wnX12_frees (Q Q' : XT → Prop) (hQ : (∀ (t : XT), Q t → Q' t)) : ∀ k k' : Nat, k ≤ k' → (∀ (t : XT) (li : Nat → Int32) (lj : Nat → Int64), wpX12_frees k 0 t li lj Q → wpX12_frees k' 0 t li lj Q') := by
  intro k
  induction k with
  | zero => intro k' _; exact fun _ _ _ hR => False.elim hR
  | succ k ih =>
    intro k' hk
    cases k' with
    | zero => exact absurd hk (Nat.not_succ_le_zero k)
    | succ k' =>
      have hk := Nat.le_of_succ_le_succ hk
      have ihk := ih k' hk
      intro t li lj hR
      have hR : wbX12_frees_0 (wpX12_frees k) k t li lj Q := hR
      show wbX12_frees_0 (wpX12_frees k') k' t li lj Q'
      unfold wbX12_frees_0 at hR ⊢
      exact ⟨hR.1, fun x2 e2 => ⟨fun c1 => hQ _ ((hR.2 x2 e2).1 c1), fun c1 => ⟨((hR.2 x2 e2).2 c1).1, fun x3 e3 => ⟨(((hR.2 x2 e2).2 c1).2 x3 e3).1, fun x4 e4 => hQ _ ((((hR.2 x2 e2).2 c1).2 x3 e3).2 x4 e4)⟩⟩⟩⟩
theorem wmX12_frees {k k' : Nat} {t : XT} {a1 : Int32} {Q Q' : XT → Prop} (hk : k ≤ k') (hQ : (∀ (t : XT), Q t → Q' t)) (hR : wqX12_frees k t a1 Q) : wqX12_frees k' t a1 Q' := (wnX12_frees Q Q' hQ k k' hk) _ _ _ hR
set_option maxHeartbeats 4000000 in
set_option maxRecDepth 100000 in
theorem wnX12_remembers (Q Q' : XT → Prop) (hQ : (∀ (t : XT), Q t → Q' t)) : ∀ k k' : Nat, k ≤ k' → (∀ (t : XT) (li : Nat → Int32) (lj : Nat → Int64), wpX12_remembers k 0 t li lj Q → wpX12_remembers k' 0 t li lj Q') ∧ (∀ (t : XT) (li : Nat → Int32) (lj : Nat → Int64), wpX12_remembers k 1 t li lj Q → wpX12_remembers k' 1 t li lj Q') ∧ (∀ (t : XT) (li : Nat → Int32) (lj : Nat → Int64), wpX12_remembers k 2 t li lj Q → wpX12_remembers k' 2 t li lj Q') ∧ (∀ (t : XT) (li : Nat → Int32) (lj : Nat → Int64), wpX12_remembers k 3 t li lj Q → wpX12_remembers k' 3 t li lj Q') := by
  intro k
  induction k with
  | zero => intro k' _; exact ⟨fun _ _ _ hR => False.elim hR, fun _ _ _ hR => False.elim hR, fun _ _ _ hR => False.elim hR, fun _ _ _ hR => False.elim hR⟩
  | succ k ih =>
    intro k' hk
    cases k' with
    | zero => exact absurd hk (Nat.not_succ_le_zero k)
    | succ k' =>
      have hk := Nat.le_of_succ_le_succ hk
      have ihk := ih k' hk
      refine ⟨?_, ?_, ?_, ?_⟩
      · intro t li lj hR
        have hR : wbX12_remembers_0 (wpX12_remembers k) k t li lj Q := hR
        show wbX12_remembers_0 (wpX12_remembers k') k' t li lj Q'
        unfold wbX12_remembers_0 at hR ⊢
        exact ⟨fun c1 => ihk.2.2.1 _ _ _ (hR.1 c1), fun c1 => ihk.2.1 _ _ _ (hR.2 c1)⟩
      · intro t li lj hR
        have hR : wbX12_remembers_1 (wpX12_remembers k) k t li lj Q := hR
        show wbX12_remembers_1 (wpX12_remembers k') k' t li lj Q'
        unfold wbX12_remembers_1 at hR ⊢
        exact ⟨fun c2 => fun x4 e4 => fun x5 e5 => ihk.2.2.1 _ _ _ (((hR.1 c2) x4 e4) x5 e5), fun c2 => fun x6 e6 => ⟨((hR.2 c2) x6 e6).1, fun x7 e7 => ⟨(((hR.2 c2) x6 e6).2 x7 e7).1, fun x8 e8 => fun x9 e9 => ihk.2.1 _ _ _ (((((hR.2 c2) x6 e6).2 x7 e7).2 x8 e8) x9 e9)⟩⟩⟩
      · intro t li lj hR
        have hR : wbX12_remembers_2 (wpX12_remembers k) k t li lj Q := hR
        show wbX12_remembers_2 (wpX12_remembers k') k' t li lj Q'
        unfold wbX12_remembers_2 at hR ⊢
        exact fun x10 e10 => ihk.2.2.2 _ _ _ (hR x10 e10)
      · intro t li lj hR
        have hR : wbX12_remembers_3 (wpX12_remembers k) k t li lj Q := hR
        show wbX12_remembers_3 (wpX12_remembers k') k' t li lj Q'
        unfold wbX12_remembers_3 at hR ⊢
        exact ⟨fun c3 => fun x11 e11 => fun x12 e12 => hQ _ (((hR.1 c3) x11 e11) x12 e12), fun c3 => fun x13 e13 => ⟨((hR.2 c3) x13 e13).1, fun x14 e14 => ⟨(((hR.2 c3) x13 e13).2 x14 e14).1, fun x15 e15 => fun x16 e16 => fun x17 e17 => ⟨((((((hR.2 c3) x13 e13).2 x14 e14).2 x15 e15) x16 e16) x17 e17).1, fun x18 e18 => wmX12_truth hk (fun y19_0 h19 => ⟨h19.1, fun x20 e20 => fun x21 e21 => ihk.2.2.2 _ _ _ ((h19.2 x20 e20) x21 e21)⟩) (((((((hR.2 c3) x13 e13).2 x14 e14).2 x15 e15) x16 e16) x17 e17).2 x18 e18)⟩⟩⟩⟩
theorem wmX12_remembers {k k' : Nat} {t : XT}  {Q Q' : XT → Prop} (hk : k ≤ k') (hQ : (∀ (t : XT), Q t → Q' t)) (hR : wqX12_remembers k t  Q) : wqX12_remembers k' t  Q' := (wnX12_remembers Q Q' hQ k k' hk).1 _ _ _ hR
set_option maxHeartbeats 4000000 in
set_option maxRecDepth 100000 in
theorem wnX12_isCritical (Q Q' : Int32 → XT → Prop) (hQ : (∀ (r : Int32) (t : XT), Q r t → Q' r t)) : ∀ k k' : Nat, k ≤ k' → (∀ (t : XT) (li : Nat → Int32) (lj : Nat → Int64), wpX12_isCritical k 0 t li lj Q → wpX12_isCritical k' 0 t li lj Q') ∧ (∀ (t : XT) (li : Nat → Int32) (lj : Nat → Int64), wpX12_isCritical k 1 t li lj Q → wpX12_isCritical k' 1 t li lj Q') := by
  intro k
  induction k with
  | zero => intro k' _; exact ⟨fun _ _ _ hR => False.elim hR, fun _ _ _ hR => False.elim hR⟩
  | succ k ih =>
    intro k' hk
    cases k' with
    | zero => exact absurd hk (Nat.not_succ_le_zero k)
    | succ k' =>
      have hk := Nat.le_of_succ_le_succ hk
      have ihk := ih k' hk
      refine ⟨?_, ?_⟩
      · intro t li lj hR
        have hR : wbX12_isCritical_0 (wpX12_isCritical k) k t li lj Q := hR
        show wbX12_isCritical_0 (wpX12_isCritical k') k' t li lj Q'
        unfold wbX12_isCritical_0 at hR ⊢
        exact wmX12_isThere hk (fun y3_0 y3_1 h3 => ⟨fun c2 => ihk.2 _ _ _ (h3.1 c2), fun c2 => ⟨(h3.2 c2).1, fun x4 e4 => ⟨fun c1 => ihk.2 _ _ _ (((h3.2 c2).2 x4 e4).1 c1), fun c1 => hQ _ _ (((h3.2 c2).2 x4 e4).2 c1)⟩⟩⟩) hR
      · intro t li lj hR
        have hR : wbX12_isCritical_1 (wpX12_isCritical k) k t li lj Q := hR
        show wbX12_isCritical_1 (wpX12_isCritical k') k' t li lj Q'
        unfold wbX12_isCritical_1 at hR ⊢
        exact hQ _ _ hR
theorem wmX12_isCritical {k k' : Nat} {t : XT} {a1 : Int32} {Q Q' : Int32 → XT → Prop} (hk : k ≤ k') (hQ : (∀ (r : Int32) (t : XT), Q r t → Q' r t)) (hR : wqX12_isCritical k t a1 Q) : wqX12_isCritical k' t a1 Q' := (wnX12_isCritical Q Q' hQ k k' hk).1 _ _ _ hR
set_option maxHeartbeats 4000000 in
set_option maxRecDepth 100000 in
theorem wnX12_criticalMany (Q Q' : Int32 → XT → Prop) (hQ : (∀ (r : Int32) (t : XT), Q r t → Q' r t)) : ∀ k k' : Nat, k ≤ k' → (∀ (t : XT) (li : Nat → Int32) (lj : Nat → Int64), wpX12_criticalMany k 0 t li lj Q → wpX12_criticalMany k' 0 t li lj Q') ∧ (∀ (t : XT) (li : Nat → Int32) (lj : Nat → Int64), wpX12_criticalMany k 1 t li lj Q → wpX12_criticalMany k' 1 t li lj Q') := by
  intro k
  induction k with
  | zero => intro k' _; exact ⟨fun _ _ _ hR => False.elim hR, fun _ _ _ hR => False.elim hR⟩
  | succ k ih =>
    intro k' hk
    cases k' with
    | zero => exact absurd hk (Nat.not_succ_le_zero k)
    | succ k' =>
      have hk := Nat.le_of_succ_le_succ hk
      have ihk := ih k' hk
      refine ⟨?_, ?_⟩
      · intro t li lj hR
        have hR : wbX12_criticalMany_0 (wpX12_criticalMany k) k t li lj Q := hR
        show wbX12_criticalMany_0 (wpX12_criticalMany k') k' t li lj Q'
        unfold wbX12_criticalMany_0 at hR ⊢
        exact ihk.2 _ _ _ hR
      · intro t li lj hR
        have hR : wbX12_criticalMany_1 (wpX12_criticalMany k) k t li lj Q := hR
        show wbX12_criticalMany_1 (wpX12_criticalMany k') k' t li lj Q'
        unfold wbX12_criticalMany_1 at hR ⊢
        exact ⟨fun c1 => hQ _ _ (hR.1 c1), fun c1 => wmX12_isCritical hk (fun y2_0 y2_1 h2 => wmX12_truth hk (fun y3_0 h3 => fun x4 e4 => fun x5 e5 => ihk.2 _ _ _ ((h3 x4 e4) x5 e5)) h2) (hR.2 c1)⟩
theorem wmX12_criticalMany {k k' : Nat} {t : XT}  {Q Q' : Int32 → XT → Prop} (hk : k ≤ k') (hQ : (∀ (r : Int32) (t : XT), Q r t → Q' r t)) (hR : wqX12_criticalMany k t  Q) : wqX12_criticalMany k' t  Q' := (wnX12_criticalMany Q Q' hQ k k' hk).1 _ _ _ hR
set_option maxHeartbeats 4000000 in
set_option maxRecDepth 100000 in
theorem wnX12_pair (Q Q' : Int32 → XT → Prop) (hQ : (∀ (r : Int32) (t : XT), Q r t → Q' r t)) : ∀ k k' : Nat, k ≤ k' → (∀ (t : XT) (li : Nat → Int32) (lj : Nat → Int64), wpX12_pair k 0 t li lj Q → wpX12_pair k' 0 t li lj Q') ∧ (∀ (t : XT) (li : Nat → Int32) (lj : Nat → Int64), wpX12_pair k 1 t li lj Q → wpX12_pair k' 1 t li lj Q') := by
  intro k
  induction k with
  | zero => intro k' _; exact ⟨fun _ _ _ hR => False.elim hR, fun _ _ _ hR => False.elim hR⟩
  | succ k ih =>
    intro k' hk
    cases k' with
    | zero => exact absurd hk (Nat.not_succ_le_zero k)
    | succ k' =>
      have hk := Nat.le_of_succ_le_succ hk
      have ihk := ih k' hk
      refine ⟨?_, ?_⟩
      · intro t li lj hR
        have hR : wbX12_pair_0 (wpX12_pair k) k t li lj Q := hR
        show wbX12_pair_0 (wpX12_pair k') k' t li lj Q'
        unfold wbX12_pair_0 at hR ⊢
        exact wmX12_isThere hk (fun y6_0 y6_1 h6 => ⟨fun c5 => ihk.2 _ _ _ (h6.1 c5), fun c5 => wmX12_isThere hk (fun y7_0 y7_1 h7 => ⟨fun c4 => ihk.2 _ _ _ (h7.1 c4), fun c4 => wmX12_isFace hk (fun y8_0 y8_1 h8 => ⟨fun c3 => ihk.2 _ _ _ (h8.1 c3), fun c3 => wmX12_isFree hk (fun y9_0 y9_1 h9 => ⟨fun c2 => wmX12_couples hk (fun y10_0 y10_1 h10 => ⟨fun c1 => wmX12_frees hk (fun y11_0 h11 => wmX12_remembers hk (fun y12_0 h12 => ⟨h12.1, fun x13 e13 => ⟨(h12.2 x13 e13).1, fun x14 e14 => wmX12_criticalMany hk (fun y15_0 y15_1 h15 => hQ _ _ h15) ((h12.2 x13 e13).2 x14 e14)⟩⟩) h11) (h10.1 c1), fun c1 => hQ _ _ (h10.2 c1)⟩) (h9.1 c2), fun c2 => ihk.2 _ _ _ (h9.2 c2)⟩) (h8.2 c3)⟩) (h7.2 c4)⟩) (h6.2 c5)⟩) hR
      · intro t li lj hR
        have hR : wbX12_pair_1 (wpX12_pair k) k t li lj Q := hR
        show wbX12_pair_1 (wpX12_pair k') k' t li lj Q'
        unfold wbX12_pair_1 at hR ⊢
        exact hQ _ _ hR
theorem wmX12_pair {k k' : Nat} {t : XT} {a1 : Int32} {a2 : Int32} {Q Q' : Int32 → XT → Prop} (hk : k ≤ k') (hQ : (∀ (r : Int32) (t : XT), Q r t → Q' r t)) (hR : wqX12_pair k t a1 a2 Q) : wqX12_pair k' t a1 a2 Q' := (wnX12_pair Q Q' hQ k k' hk).1 _ _ _ hR
set_option maxHeartbeats 4000000 in
set_option maxRecDepth 100000 in
theorem wnX12_part (Q Q' : Int32 → XT → Prop) (hQ : (∀ (r : Int32) (t : XT), Q r t → Q' r t)) : ∀ k k' : Nat, k ≤ k' → (∀ (t : XT) (li : Nat → Int32) (lj : Nat → Int64), wpX12_part k 0 t li lj Q → wpX12_part k' 0 t li lj Q') ∧ (∀ (t : XT) (li : Nat → Int32) (lj : Nat → Int64), wpX12_part k 1 t li lj Q → wpX12_part k' 1 t li lj Q') := by
  intro k
  induction k with
  | zero => intro k' _; exact ⟨fun _ _ _ hR => False.elim hR, fun _ _ _ hR => False.elim hR⟩
  | succ k ih =>
    intro k' hk
    cases k' with
    | zero => exact absurd hk (Nat.not_succ_le_zero k)
    | succ k' =>
      have hk := Nat.le_of_succ_le_succ hk
      have ihk := ih k' hk
      refine ⟨?_, ?_⟩
      · intro t li lj hR
        have hR : wbX12_part_0 (wpX12_part k) k t li lj Q := hR
        show wbX12_part_0 (wpX12_part k') k' t li lj Q'
        unfold wbX12_part_0 at hR ⊢
        exact wmX12_isSimplex hk (fun y3_0 y3_1 h3 => ⟨fun c2 => ihk.2 _ _ _ (h3.1 c2), fun c2 => ⟨(h3.2 c2).1, fun x4 e4 => ⟨fun c1 => wmX12_remembers hk (fun y5_0 h5 => wmX12_frees hk (fun y6_0 h6 => wmX12_criticalMany hk (fun y7_0 y7_1 h7 => hQ _ _ h7) h6) h5) (((h3.2 c2).2 x4 e4).1 c1), fun c1 => ihk.2 _ _ _ (((h3.2 c2).2 x4 e4).2 c1)⟩⟩⟩) hR
      · intro t li lj hR
        have hR : wbX12_part_1 (wpX12_part k) k t li lj Q := hR
        show wbX12_part_1 (wpX12_part k') k' t li lj Q'
        unfold wbX12_part_1 at hR ⊢
        exact hQ _ _ hR
theorem wmX12_part {k k' : Nat} {t : XT} {a1 : Int32} {Q Q' : Int32 → XT → Prop} (hk : k ≤ k') (hQ : (∀ (r : Int32) (t : XT), Q r t → Q' r t)) (hR : wqX12_part k t a1 Q) : wqX12_part k' t a1 Q' := (wnX12_part Q Q' hQ k k' hk).1 _ _ _ hR
set_option maxHeartbeats 4000000 in
set_option maxRecDepth 100000 in
theorem wnX12_clearsPairs (Q Q' : XT → Prop) (hQ : (∀ (t : XT), Q t → Q' t)) : ∀ k k' : Nat, k ≤ k' → (∀ (t : XT) (li : Nat → Int32) (lj : Nat → Int64), wpX12_clearsPairs k 0 t li lj Q → wpX12_clearsPairs k' 0 t li lj Q') ∧ (∀ (t : XT) (li : Nat → Int32) (lj : Nat → Int64), wpX12_clearsPairs k 1 t li lj Q → wpX12_clearsPairs k' 1 t li lj Q') := by
  intro k
  induction k with
  | zero => intro k' _; exact ⟨fun _ _ _ hR => False.elim hR, fun _ _ _ hR => False.elim hR⟩
  | succ k ih =>
    intro k' hk
    cases k' with
    | zero => exact absurd hk (Nat.not_succ_le_zero k)
    | succ k' =>
      have hk := Nat.le_of_succ_le_succ hk
      have ihk := ih k' hk
      refine ⟨?_, ?_⟩
      · intro t li lj hR
        have hR : wbX12_clearsPairs_0 (wpX12_clearsPairs k) k t li lj Q := hR
        show wbX12_clearsPairs_0 (wpX12_clearsPairs k') k' t li lj Q'
        unfold wbX12_clearsPairs_0 at hR ⊢
        exact ihk.2 _ _ _ hR
      · intro t li lj hR
        have hR : wbX12_clearsPairs_1 (wpX12_clearsPairs k) k t li lj Q := hR
        show wbX12_clearsPairs_1 (wpX12_clearsPairs k') k' t li lj Q'
        unfold wbX12_clearsPairs_1 at hR ⊢
        exact ⟨fun c1 => hQ _ (hR.1 c1), fun c1 => ⟨(hR.2 c1).1, fun x2 e2 => fun x3 e3 => ihk.2 _ _ _ (((hR.2 c1).2 x2 e2) x3 e3)⟩⟩
theorem wmX12_clearsPairs {k k' : Nat} {t : XT}  {Q Q' : XT → Prop} (hk : k ≤ k') (hQ : (∀ (t : XT), Q t → Q' t)) (hR : wqX12_clearsPairs k t  Q) : wqX12_clearsPairs k' t  Q' := (wnX12_clearsPairs Q Q' hQ k k' hk).1 _ _ _ hR
set_option maxHeartbeats 4000000 in
set_option maxRecDepth 100000 in
theorem wnX12_opensAll (Q Q' : XT → Prop) (hQ : (∀ (t : XT), Q t → Q' t)) : ∀ k k' : Nat, k ≤ k' → (∀ (t : XT) (li : Nat → Int32) (lj : Nat → Int64), wpX12_opensAll k 0 t li lj Q → wpX12_opensAll k' 0 t li lj Q') ∧ (∀ (t : XT) (li : Nat → Int32) (lj : Nat → Int64), wpX12_opensAll k 1 t li lj Q → wpX12_opensAll k' 1 t li lj Q') ∧ (∀ (t : XT) (li : Nat → Int32) (lj : Nat → Int64), wpX12_opensAll k 2 t li lj Q → wpX12_opensAll k' 2 t li lj Q') := by
  intro k
  induction k with
  | zero => intro k' _; exact ⟨fun _ _ _ hR => False.elim hR, fun _ _ _ hR => False.elim hR, fun _ _ _ hR => False.elim hR⟩
  | succ k ih =>
    intro k' hk
    cases k' with
    | zero => exact absurd hk (Nat.not_succ_le_zero k)
    | succ k' =>
      have hk := Nat.le_of_succ_le_succ hk
      have ihk := ih k' hk
      refine ⟨?_, ?_, ?_⟩
      · intro t li lj hR
        have hR : wbX12_opensAll_0 (wpX12_opensAll k) k t li lj Q := hR
        show wbX12_opensAll_0 (wpX12_opensAll k') k' t li lj Q'
        unfold wbX12_opensAll_0 at hR ⊢
        exact wmX12_clearsPairs hk (fun y3_0 h3 => ihk.2.1 _ _ _ h3) hR
      · intro t li lj hR
        have hR : wbX12_opensAll_1 (wpX12_opensAll k) k t li lj Q := hR
        show wbX12_opensAll_1 (wpX12_opensAll k') k' t li lj Q'
        unfold wbX12_opensAll_1 at hR ⊢
        exact ⟨fun c2 => hQ _ (hR.1 c2), fun c2 => ⟨(hR.2 c2).1, fun x4 e4 => ⟨fun c1 => ihk.2.2 _ _ _ (((hR.2 c2).2 x4 e4).1 c1), fun c1 => ihk.2.2 _ _ _ (((hR.2 c2).2 x4 e4).2 c1)⟩⟩⟩
      · intro t li lj hR
        have hR : wbX12_opensAll_2 (wpX12_opensAll k) k t li lj Q := hR
        show wbX12_opensAll_2 (wpX12_opensAll k') k' t li lj Q'
        unfold wbX12_opensAll_2 at hR ⊢
        exact ⟨hR.1, fun x5 e5 => fun x6 e6 => ihk.2.1 _ _ _ ((hR.2 x5 e5) x6 e6)⟩
theorem wmX12_opensAll {k k' : Nat} {t : XT}  {Q Q' : XT → Prop} (hk : k ≤ k') (hQ : (∀ (t : XT), Q t → Q' t)) (hR : wqX12_opensAll k t  Q) : wqX12_opensAll k' t  Q' := (wnX12_opensAll Q Q' hQ k k' hk).1 _ _ _ hR
set_option maxHeartbeats 4000000 in
set_option maxRecDepth 100000 in
theorem wnX12_onlyOver (Q Q' : Int32 → XT → Prop) (hQ : (∀ (r : Int32) (t : XT), Q r t → Q' r t)) : ∀ k k' : Nat, k ≤ k' → (∀ (t : XT) (li : Nat → Int32) (lj : Nat → Int64), wpX12_onlyOver k 0 t li lj Q → wpX12_onlyOver k' 0 t li lj Q') ∧ (∀ (t : XT) (li : Nat → Int32) (lj : Nat → Int64), wpX12_onlyOver k 1 t li lj Q → wpX12_onlyOver k' 1 t li lj Q') ∧ (∀ (t : XT) (li : Nat → Int32) (lj : Nat → Int64), wpX12_onlyOver k 2 t li lj Q → wpX12_onlyOver k' 2 t li lj Q') := by
  intro k
  induction k with
  | zero => intro k' _; exact ⟨fun _ _ _ hR => False.elim hR, fun _ _ _ hR => False.elim hR, fun _ _ _ hR => False.elim hR⟩
  | succ k ih =>
    intro k' hk
    cases k' with
    | zero => exact absurd hk (Nat.not_succ_le_zero k)
    | succ k' =>
      have hk := Nat.le_of_succ_le_succ hk
      have ihk := ih k' hk
      refine ⟨?_, ?_, ?_⟩
      · intro t li lj hR
        have hR : wbX12_onlyOver_0 (wpX12_onlyOver k) k t li lj Q := hR
        show wbX12_onlyOver_0 (wpX12_onlyOver k') k' t li lj Q'
        unfold wbX12_onlyOver_0 at hR ⊢
        exact ihk.2.1 _ _ _ hR
      · intro t li lj hR
        have hR : wbX12_onlyOver_1 (wpX12_onlyOver k) k t li lj Q := hR
        show wbX12_onlyOver_1 (wpX12_onlyOver k') k' t li lj Q'
        unfold wbX12_onlyOver_1 at hR ⊢
        exact ⟨fun c4 => hQ _ _ (hR.1 c4), fun c4 => ⟨(hR.2 c4).1, fun x5 e5 => ⟨fun c3 => ihk.2.2 _ _ _ (((hR.2 c4).2 x5 e5).1 c3), fun c3 => wmX12_isFace hk (fun y6_0 y6_1 h6 => ⟨fun c2 => ihk.2.2 _ _ _ (h6.1 c2), fun c2 => ⟨fun c1 => ihk.2.2 _ _ _ ((h6.2 c2).1 c1), fun c1 => hQ _ _ ((h6.2 c2).2 c1)⟩⟩) (((hR.2 c4).2 x5 e5).2 c3)⟩⟩⟩
      · intro t li lj hR
        have hR : wbX12_onlyOver_2 (wpX12_onlyOver k) k t li lj Q := hR
        show wbX12_onlyOver_2 (wpX12_onlyOver k') k' t li lj Q'
        unfold wbX12_onlyOver_2 at hR ⊢
        exact fun x7 e7 => ihk.2.1 _ _ _ (hR x7 e7)
theorem wmX12_onlyOver {k k' : Nat} {t : XT} {a1 : Int32} {Q Q' : Int32 → XT → Prop} (hk : k ≤ k') (hQ : (∀ (r : Int32) (t : XT), Q r t → Q' r t)) (hR : wqX12_onlyOver k t a1 Q) : wqX12_onlyOver k' t a1 Q' := (wnX12_onlyOver Q Q' hQ k k' hk).1 _ _ _ hR
set_option maxHeartbeats 4000000 in
set_option maxRecDepth 100000 in
theorem wnX12_closes (Q Q' : XT → Prop) (hQ : (∀ (t : XT), Q t → Q' t)) : ∀ k k' : Nat, k ≤ k' → (∀ (t : XT) (li : Nat → Int32) (lj : Nat → Int64), wpX12_closes k 0 t li lj Q → wpX12_closes k' 0 t li lj Q') := by
  intro k
  induction k with
  | zero => intro k' _; exact fun _ _ _ hR => False.elim hR
  | succ k ih =>
    intro k' hk
    cases k' with
    | zero => exact absurd hk (Nat.not_succ_le_zero k)
    | succ k' =>
      have hk := Nat.le_of_succ_le_succ hk
      have ihk := ih k' hk
      intro t li lj hR
      have hR : wbX12_closes_0 (wpX12_closes k) k t li lj Q := hR
      show wbX12_closes_0 (wpX12_closes k') k' t li lj Q'
      unfold wbX12_closes_0 at hR ⊢
      exact ⟨hR.1, fun x1 e1 => ⟨(hR.2 x1 e1).1, fun x2 e2 => ⟨((hR.2 x1 e1).2 x2 e2).1, fun x3 e3 => ⟨(((hR.2 x1 e1).2 x2 e2).2 x3 e3).1, fun x4 e4 => hQ _ ((((hR.2 x1 e1).2 x2 e2).2 x3 e3).2 x4 e4)⟩⟩⟩⟩
theorem wmX12_closes {k k' : Nat} {t : XT} {a1 : Int32} {a2 : Int32} {Q Q' : XT → Prop} (hk : k ≤ k') (hQ : (∀ (t : XT), Q t → Q' t)) (hR : wqX12_closes k t a1 a2 Q) : wqX12_closes k' t a1 a2 Q' := (wnX12_closes Q Q' hQ k k' hk) _ _ _ hR
set_option maxHeartbeats 4000000 in
set_option maxRecDepth 100000 in
theorem wnX12_auto2 (Q Q' : XT → Prop) (hQ : (∀ (t : XT), Q t → Q' t)) : ∀ k k' : Nat, k ≤ k' → (∀ (t : XT) (li : Nat → Int32) (lj : Nat → Int64), wpX12_auto2 k 0 t li lj Q → wpX12_auto2 k' 0 t li lj Q') ∧ (∀ (t : XT) (li : Nat → Int32) (lj : Nat → Int64), wpX12_auto2 k 1 t li lj Q → wpX12_auto2 k' 1 t li lj Q') ∧ (∀ (t : XT) (li : Nat → Int32) (lj : Nat → Int64), wpX12_auto2 k 2 t li lj Q → wpX12_auto2 k' 2 t li lj Q') ∧ (∀ (t : XT) (li : Nat → Int32) (lj : Nat → Int64), wpX12_auto2 k 3 t li lj Q → wpX12_auto2 k' 3 t li lj Q') ∧ (∀ (t : XT) (li : Nat → Int32) (lj : Nat → Int64), wpX12_auto2 k 4 t li lj Q → wpX12_auto2 k' 4 t li lj Q') ∧ (∀ (t : XT) (li : Nat → Int32) (lj : Nat → Int64), wpX12_auto2 k 5 t li lj Q → wpX12_auto2 k' 5 t li lj Q') := by
  intro k
  induction k with
  | zero => intro k' _; exact ⟨fun _ _ _ hR => False.elim hR, fun _ _ _ hR => False.elim hR, fun _ _ _ hR => False.elim hR, fun _ _ _ hR => False.elim hR, fun _ _ _ hR => False.elim hR, fun _ _ _ hR => False.elim hR⟩
  | succ k ih =>
    intro k' hk
    cases k' with
    | zero => exact absurd hk (Nat.not_succ_le_zero k)
    | succ k' =>
      have hk := Nat.le_of_succ_le_succ hk
      have ihk := ih k' hk
      refine ⟨?_, ?_, ?_, ?_, ?_, ?_⟩
      · intro t li lj hR
        have hR : wbX12_auto2_0 (wpX12_auto2 k) k t li lj Q := hR
        show wbX12_auto2_0 (wpX12_auto2 k') k' t li lj Q'
        unfold wbX12_auto2_0 at hR ⊢
        exact wmX12_opensAll hk (fun y8_0 h8 => ihk.2.1 _ _ _ h8) hR
      · intro t li lj hR
        have hR : wbX12_auto2_1 (wpX12_auto2 k) k t li lj Q := hR
        show wbX12_auto2_1 (wpX12_auto2 k') k' t li lj Q'
        unfold wbX12_auto2_1 at hR ⊢
        exact ⟨fun c1 => hQ _ (hR.1 c1), fun c1 => ihk.2.2.1 _ _ _ (hR.2 c1)⟩
      · intro t li lj hR
        have hR : wbX12_auto2_2 (wpX12_auto2 k) k t li lj Q := hR
        show wbX12_auto2_2 (wpX12_auto2 k') k' t li lj Q'
        unfold wbX12_auto2_2 at hR ⊢
        exact ⟨fun c5 => ihk.2.2.2.2.1 _ _ _ (hR.1 c5), fun c5 => ⟨fun c4 => ihk.2.2.2.2.1 _ _ _ ((hR.2 c5).1 c4), fun c4 => ⟨((hR.2 c5).2 c4).1, fun x9 e9 => ⟨fun c3 => ihk.2.2.2.1 _ _ _ ((((hR.2 c5).2 c4).2 x9 e9).1 c3), fun c3 => wmX12_onlyOver hk (fun y10_0 y10_1 h10 => ⟨fun c2 => ihk.2.2.2.1 _ _ _ (h10.1 c2), fun c2 => wmX12_closes hk (fun y11_0 h11 => ihk.2.2.2.1 _ _ _ h11) (h10.2 c2)⟩) ((((hR.2 c5).2 c4).2 x9 e9).2 c3)⟩⟩⟩⟩
      · intro t li lj hR
        have hR : wbX12_auto2_3 (wpX12_auto2 k) k t li lj Q := hR
        show wbX12_auto2_3 (wpX12_auto2 k') k' t li lj Q'
        unfold wbX12_auto2_3 at hR ⊢
        exact fun x12 e12 => ihk.2.2.1 _ _ _ (hR x12 e12)
      · intro t li lj hR
        have hR : wbX12_auto2_4 (wpX12_auto2 k) k t li lj Q := hR
        show wbX12_auto2_4 (wpX12_auto2 k') k' t li lj Q'
        unfold wbX12_auto2_4 at hR ⊢
        exact ⟨fun c7 => ihk.2.2.2.2.2 _ _ _ (hR.1 c7), fun c7 => ⟨fun c6 => ihk.2.2.2.2.2 _ _ _ ((hR.2 c7).1 c6), fun c6 => ⟨((hR.2 c7).2 c6).1, fun x13 e13 => ihk.2.2.2.2.2 _ _ _ (((hR.2 c7).2 c6).2 x13 e13)⟩⟩⟩
      · intro t li lj hR
        have hR : wbX12_auto2_5 (wpX12_auto2 k) k t li lj Q := hR
        show wbX12_auto2_5 (wpX12_auto2 k') k' t li lj Q'
        unfold wbX12_auto2_5 at hR ⊢
        exact ihk.2.1 _ _ _ hR
theorem wmX12_auto2 {k k' : Nat} {t : XT}  {Q Q' : XT → Prop} (hk : k ≤ k') (hQ : (∀ (t : XT), Q t → Q' t)) (hR : wqX12_auto2 k t  Q) : wqX12_auto2 k' t  Q' := (wnX12_auto2 Q Q' hQ k k' hk).1 _ _ _ hR
set_option maxHeartbeats 4000000 in
set_option maxRecDepth 100000 in
theorem wnX12_auto1 (Q Q' : XT → Prop) (hQ : (∀ (t : XT), Q t → Q' t)) : ∀ k k' : Nat, k ≤ k' → (∀ (t : XT) (li : Nat → Int32) (lj : Nat → Int64), wpX12_auto1 k 0 t li lj Q → wpX12_auto1 k' 0 t li lj Q') ∧ (∀ (t : XT) (li : Nat → Int32) (lj : Nat → Int64), wpX12_auto1 k 1 t li lj Q → wpX12_auto1 k' 1 t li lj Q') ∧ (∀ (t : XT) (li : Nat → Int32) (lj : Nat → Int64), wpX12_auto1 k 2 t li lj Q → wpX12_auto1 k' 2 t li lj Q') ∧ (∀ (t : XT) (li : Nat → Int32) (lj : Nat → Int64), wpX12_auto1 k 3 t li lj Q → wpX12_auto1 k' 3 t li lj Q') ∧ (∀ (t : XT) (li : Nat → Int32) (lj : Nat → Int64), wpX12_auto1 k 4 t li lj Q → wpX12_auto1 k' 4 t li lj Q') := by
  intro k
  induction k with
  | zero => intro k' _; exact ⟨fun _ _ _ hR => False.elim hR, fun _ _ _ hR => False.elim hR, fun _ _ _ hR => False.elim hR, fun _ _ _ hR => False.elim hR, fun _ _ _ hR => False.elim hR⟩
  | succ k ih =>
    intro k' hk
    cases k' with
    | zero => exact absurd hk (Nat.not_succ_le_zero k)
    | succ k' =>
      have hk := Nat.le_of_succ_le_succ hk
      have ihk := ih k' hk
      refine ⟨?_, ?_, ?_, ?_, ?_⟩
      · intro t li lj hR
        have hR : wbX12_auto1_0 (wpX12_auto1 k) k t li lj Q := hR
        show wbX12_auto1_0 (wpX12_auto1 k') k' t li lj Q'
        unfold wbX12_auto1_0 at hR ⊢
        exact fun x6 e6 => ihk.2.1 _ _ _ (hR x6 e6)
      · intro t li lj hR
        have hR : wbX12_auto1_1 (wpX12_auto1 k) k t li lj Q := hR
        show wbX12_auto1_1 (wpX12_auto1 k') k' t li lj Q'
        unfold wbX12_auto1_1 at hR ⊢
        exact ⟨fun c1 => hQ _ (hR.1 c1), fun c1 => fun x7 e7 => ihk.2.2.1 _ _ _ ((hR.2 c1) x7 e7)⟩
      · intro t li lj hR
        have hR : wbX12_auto1_2 (wpX12_auto1 k) k t li lj Q := hR
        show wbX12_auto1_2 (wpX12_auto1 k') k' t li lj Q'
        unfold wbX12_auto1_2 at hR ⊢
        exact ⟨fun c5 => ihk.2.2.2.2 _ _ _ (hR.1 c5), fun c5 => wmX12_isCritical hk (fun y8_0 y8_1 h8 => ⟨fun c4 => ihk.2.2.2.2 _ _ _ (h8.1 c4), fun c4 => wmX12_isFaceThere hk (fun y9_0 y9_1 h9 => ⟨fun c3 => ihk.2.2.2.1 _ _ _ (h9.1 c3), fun c3 => wmX12_isFree hk (fun y10_0 y10_1 h10 => ⟨fun c2 => ihk.2.2.2.1 _ _ _ (h10.1 c2), fun c2 => wmX12_couples hk (fun y11_0 y11_1 h11 => ihk.2.2.2.1 _ _ _ h11) (h10.2 c2)⟩) (h9.2 c3)⟩) (h8.2 c4)⟩) (hR.2 c5)⟩
      · intro t li lj hR
        have hR : wbX12_auto1_3 (wpX12_auto1 k) k t li lj Q := hR
        show wbX12_auto1_3 (wpX12_auto1 k') k' t li lj Q'
        unfold wbX12_auto1_3 at hR ⊢
        exact fun x12 e12 => ihk.2.2.1 _ _ _ (hR x12 e12)
      · intro t li lj hR
        have hR : wbX12_auto1_4 (wpX12_auto1 k) k t li lj Q := hR
        show wbX12_auto1_4 (wpX12_auto1 k') k' t li lj Q'
        unfold wbX12_auto1_4 at hR ⊢
        exact fun x13 e13 => ihk.2.1 _ _ _ (hR x13 e13)
theorem wmX12_auto1 {k k' : Nat} {t : XT}  {Q Q' : XT → Prop} (hk : k ≤ k') (hQ : (∀ (t : XT), Q t → Q' t)) (hR : wqX12_auto1 k t  Q) : wqX12_auto1 k' t  Q' := (wnX12_auto1 Q Q' hQ k k' hk).1 _ _ _ hR
set_option maxHeartbeats 4000000 in
set_option maxRecDepth 100000 in
theorem wnX12_auto0 (Q Q' : XT → Prop) (hQ : (∀ (t : XT), Q t → Q' t)) : ∀ k k' : Nat, k ≤ k' → (∀ (t : XT) (li : Nat → Int32) (lj : Nat → Int64), wpX12_auto0 k 0 t li lj Q → wpX12_auto0 k' 0 t li lj Q') ∧ (∀ (t : XT) (li : Nat → Int32) (lj : Nat → Int64), wpX12_auto0 k 1 t li lj Q → wpX12_auto0 k' 1 t li lj Q') ∧ (∀ (t : XT) (li : Nat → Int32) (lj : Nat → Int64), wpX12_auto0 k 2 t li lj Q → wpX12_auto0 k' 2 t li lj Q') ∧ (∀ (t : XT) (li : Nat → Int32) (lj : Nat → Int64), wpX12_auto0 k 3 t li lj Q → wpX12_auto0 k' 3 t li lj Q') ∧ (∀ (t : XT) (li : Nat → Int32) (lj : Nat → Int64), wpX12_auto0 k 4 t li lj Q → wpX12_auto0 k' 4 t li lj Q') := by
  intro k
  induction k with
  | zero => intro k' _; exact ⟨fun _ _ _ hR => False.elim hR, fun _ _ _ hR => False.elim hR, fun _ _ _ hR => False.elim hR, fun _ _ _ hR => False.elim hR, fun _ _ _ hR => False.elim hR⟩
  | succ k ih =>
    intro k' hk
    cases k' with
    | zero => exact absurd hk (Nat.not_succ_le_zero k)
    | succ k' =>
      have hk := Nat.le_of_succ_le_succ hk
      have ihk := ih k' hk
      refine ⟨?_, ?_, ?_, ?_, ?_⟩
      · intro t li lj hR
        have hR : wbX12_auto0_0 (wpX12_auto0 k) k t li lj Q := hR
        show wbX12_auto0_0 (wpX12_auto0 k') k' t li lj Q'
        unfold wbX12_auto0_0 at hR ⊢
        exact ihk.2.1 _ _ _ hR
      · intro t li lj hR
        have hR : wbX12_auto0_1 (wpX12_auto0 k) k t li lj Q := hR
        show wbX12_auto0_1 (wpX12_auto0 k') k' t li lj Q'
        unfold wbX12_auto0_1 at hR ⊢
        exact ⟨fun c1 => hQ _ (hR.1 c1), fun c1 => fun x6 e6 => ihk.2.2.1 _ _ _ ((hR.2 c1) x6 e6)⟩
      · intro t li lj hR
        have hR : wbX12_auto0_2 (wpX12_auto0 k) k t li lj Q := hR
        show wbX12_auto0_2 (wpX12_auto0 k') k' t li lj Q'
        unfold wbX12_auto0_2 at hR ⊢
        exact ⟨fun c5 => ihk.2.2.2.2 _ _ _ (hR.1 c5), fun c5 => wmX12_isCritical hk (fun y7_0 y7_1 h7 => ⟨fun c4 => ihk.2.2.2.2 _ _ _ (h7.1 c4), fun c4 => wmX12_isFaceThere hk (fun y8_0 y8_1 h8 => ⟨fun c3 => ihk.2.2.2.1 _ _ _ (h8.1 c3), fun c3 => wmX12_isFree hk (fun y9_0 y9_1 h9 => ⟨fun c2 => ihk.2.2.2.1 _ _ _ (h9.1 c2), fun c2 => wmX12_couples hk (fun y10_0 y10_1 h10 => ihk.2.2.2.1 _ _ _ h10) (h9.2 c2)⟩) (h8.2 c3)⟩) (h7.2 c4)⟩) (hR.2 c5)⟩
      · intro t li lj hR
        have hR : wbX12_auto0_3 (wpX12_auto0 k) k t li lj Q := hR
        show wbX12_auto0_3 (wpX12_auto0 k') k' t li lj Q'
        unfold wbX12_auto0_3 at hR ⊢
        exact fun x11 e11 => ihk.2.2.1 _ _ _ (hR x11 e11)
      · intro t li lj hR
        have hR : wbX12_auto0_4 (wpX12_auto0 k) k t li lj Q := hR
        show wbX12_auto0_4 (wpX12_auto0 k') k' t li lj Q'
        unfold wbX12_auto0_4 at hR ⊢
        exact fun x12 e12 => ihk.2.1 _ _ _ (hR x12 e12)
theorem wmX12_auto0 {k k' : Nat} {t : XT}  {Q Q' : XT → Prop} (hk : k ≤ k') (hQ : (∀ (t : XT), Q t → Q' t)) (hR : wqX12_auto0 k t  Q) : wqX12_auto0 k' t  Q' := (wnX12_auto0 Q Q' hQ k k' hk).1 _ _ _ hR
set_option maxHeartbeats 4000000 in
set_option maxRecDepth 100000 in
theorem wnX12_auto (Q Q' : Int32 → XT → Prop) (hQ : (∀ (r : Int32) (t : XT), Q r t → Q' r t)) : ∀ k k' : Nat, k ≤ k' → (∀ (t : XT) (li : Nat → Int32) (lj : Nat → Int64), wpX12_auto k 0 t li lj Q → wpX12_auto k' 0 t li lj Q') ∧ (∀ (t : XT) (li : Nat → Int32) (lj : Nat → Int64), wpX12_auto k 1 t li lj Q → wpX12_auto k' 1 t li lj Q') ∧ (∀ (t : XT) (li : Nat → Int32) (lj : Nat → Int64), wpX12_auto k 2 t li lj Q → wpX12_auto k' 2 t li lj Q') := by
  intro k
  induction k with
  | zero => intro k' _; exact ⟨fun _ _ _ hR => False.elim hR, fun _ _ _ hR => False.elim hR, fun _ _ _ hR => False.elim hR⟩
  | succ k ih =>
    intro k' hk
    cases k' with
    | zero => exact absurd hk (Nat.not_succ_le_zero k)
    | succ k' =>
      have hk := Nat.le_of_succ_le_succ hk
      have ihk := ih k' hk
      refine ⟨?_, ?_, ?_⟩
      · intro t li lj hR
        have hR : wbX12_auto_0 (wpX12_auto k) k t li lj Q := hR
        show wbX12_auto_0 (wpX12_auto k') k' t li lj Q'
        unfold wbX12_auto_0 at hR ⊢
        exact ⟨fun c4 => ihk.2.1 _ _ _ (hR.1 c4), fun c4 => wmX12_in hk (fun y5_0 h5 => ⟨fun c3 => wmX12_remembers hk (fun y6_0 h6 => wmX12_clearsPairs hk (fun y7_0 h7 => ⟨fun c2 => ⟨fun c1 => wmX12_auto2 hk (fun y8_0 h8 => ihk.2.2 _ _ _ h8) ((h7.1 c2).1 c1), fun c1 => wmX12_auto1 hk (fun y9_0 h9 => ihk.2.2 _ _ _ h9) ((h7.1 c2).2 c1)⟩, fun c2 => wmX12_auto0 hk (fun y10_0 h10 => ihk.2.2 _ _ _ h10) (h7.2 c2)⟩) h6) (h5.1 c3), fun c3 => ihk.2.1 _ _ _ (h5.2 c3)⟩) (hR.2 c4)⟩
      · intro t li lj hR
        have hR : wbX12_auto_1 (wpX12_auto k) k t li lj Q := hR
        show wbX12_auto_1 (wpX12_auto k') k' t li lj Q'
        unfold wbX12_auto_1 at hR ⊢
        exact hQ _ _ hR
      · intro t li lj hR
        have hR : wbX12_auto_2 (wpX12_auto k) k t li lj Q := hR
        show wbX12_auto_2 (wpX12_auto k') k' t li lj Q'
        unfold wbX12_auto_2 at hR ⊢
        exact wmX12_criticalMany hk (fun y11_0 y11_1 h11 => hQ _ _ h11) hR
theorem wmX12_auto {k k' : Nat} {t : XT} {a1 : Int32} {Q Q' : Int32 → XT → Prop} (hk : k ≤ k') (hQ : (∀ (r : Int32) (t : XT), Q r t → Q' r t)) (hR : wqX12_auto k t a1 Q) : wqX12_auto k' t a1 Q' := (wnX12_auto Q Q' hQ k k' hk).1 _ _ _ hR
set_option maxHeartbeats 4000000 in
set_option maxRecDepth 100000 in
theorem wnX12_areEnds (Q Q' : Int32 → XT → Prop) (hQ : (∀ (r : Int32) (t : XT), Q r t → Q' r t)) : ∀ k k' : Nat, k ≤ k' → (∀ (t : XT) (li : Nat → Int32) (lj : Nat → Int64), wpX12_areEnds k 0 t li lj Q → wpX12_areEnds k' 0 t li lj Q') ∧ (∀ (t : XT) (li : Nat → Int32) (lj : Nat → Int64), wpX12_areEnds k 1 t li lj Q → wpX12_areEnds k' 1 t li lj Q') := by
  intro k
  induction k with
  | zero => intro k' _; exact ⟨fun _ _ _ hR => False.elim hR, fun _ _ _ hR => False.elim hR⟩
  | succ k ih =>
    intro k' hk
    cases k' with
    | zero => exact absurd hk (Nat.not_succ_le_zero k)
    | succ k' =>
      have hk := Nat.le_of_succ_le_succ hk
      have ihk := ih k' hk
      refine ⟨?_, ?_⟩
      · intro t li lj hR
        have hR : wbX12_areEnds_0 (wpX12_areEnds k) k t li lj Q := hR
        show wbX12_areEnds_0 (wpX12_areEnds k') k' t li lj Q'
        unfold wbX12_areEnds_0 at hR ⊢
        exact wmX12_isCritical hk (fun y4_0 y4_1 h4 => ⟨fun c3 => ihk.2 _ _ _ (h4.1 c3), fun c3 => wmX12_isCritical hk (fun y5_0 y5_1 h5 => ⟨fun c2 => ihk.2 _ _ _ (h5.1 c2), fun c2 => wmX12_dimOf hk (fun y6_0 y6_1 h6 => wmX12_dimOf hk (fun y7_0 y7_1 h7 => fun x8 e8 => ⟨fun c1 => ihk.2 _ _ _ ((h7 x8 e8).1 c1), fun c1 => hQ _ _ ((h7 x8 e8).2 c1)⟩) h6) (h5.2 c2)⟩) (h4.2 c3)⟩) hR
      · intro t li lj hR
        have hR : wbX12_areEnds_1 (wpX12_areEnds k) k t li lj Q := hR
        show wbX12_areEnds_1 (wpX12_areEnds k') k' t li lj Q'
        unfold wbX12_areEnds_1 at hR ⊢
        exact hQ _ _ hR
theorem wmX12_areEnds {k k' : Nat} {t : XT} {a1 : Int32} {a2 : Int32} {Q Q' : Int32 → XT → Prop} (hk : k ≤ k') (hQ : (∀ (r : Int32) (t : XT), Q r t → Q' r t)) (hR : wqX12_areEnds k t a1 a2 Q) : wqX12_areEnds k' t a1 a2 Q' := (wnX12_areEnds Q Q' hQ k k' hk).1 _ _ _ hR
set_option maxHeartbeats 4000000 in
set_option maxRecDepth 100000 in
theorem wnX12_laysWay (Q Q' : Int32 → XT → Prop) (hQ : (∀ (r : Int32) (t : XT), Q r t → Q' r t)) : ∀ k k' : Nat, k ≤ k' → (∀ (t : XT) (li : Nat → Int32) (lj : Nat → Int64), wpX12_laysWay k 0 t li lj Q → wpX12_laysWay k' 0 t li lj Q') ∧ (∀ (t : XT) (li : Nat → Int32) (lj : Nat → Int64), wpX12_laysWay k 1 t li lj Q → wpX12_laysWay k' 1 t li lj Q') ∧ (∀ (t : XT) (li : Nat → Int32) (lj : Nat → Int64), wpX12_laysWay k 2 t li lj Q → wpX12_laysWay k' 2 t li lj Q') := by
  intro k
  induction k with
  | zero => intro k' _; exact ⟨fun _ _ _ hR => False.elim hR, fun _ _ _ hR => False.elim hR, fun _ _ _ hR => False.elim hR⟩
  | succ k ih =>
    intro k' hk
    cases k' with
    | zero => exact absurd hk (Nat.not_succ_le_zero k)
    | succ k' =>
      have hk := Nat.le_of_succ_le_succ hk
      have ihk := ih k' hk
      refine ⟨?_, ?_, ?_⟩
      · intro t li lj hR
        have hR : wbX12_laysWay_0 (wpX12_laysWay k) k t li lj Q := hR
        show wbX12_laysWay_0 (wpX12_laysWay k') k' t li lj Q'
        unfold wbX12_laysWay_0 at hR ⊢
        exact ⟨hR.1, fun x5 e5 => ihk.2.1 _ _ _ (hR.2 x5 e5)⟩
      · intro t li lj hR
        have hR : wbX12_laysWay_1 (wpX12_laysWay k) k t li lj Q := hR
        show wbX12_laysWay_1 (wpX12_laysWay k') k' t li lj Q'
        unfold wbX12_laysWay_1 at hR ⊢
        exact ⟨fun c4 => ⟨(hR.1 c4).1, fun x6 e6 => wmX12_signOf hk (fun y7_0 y7_1 h7 => fun x8 e8 => fun x9 e9 => fun x10 e10 => ⟨(((h7 x8 e8) x9 e9) x10 e10).1, fun x11 e11 => hQ _ _ ((((h7 x8 e8) x9 e9) x10 e10).2 x11 e11)⟩) ((hR.1 c4).2 x6 e6)⟩, fun c4 => ⟨fun c3 => ihk.2.2 _ _ _ ((hR.2 c4).1 c3), fun c3 => wmX12_isFaceThere hk (fun y12_0 y12_1 h12 => ⟨fun c2 => ⟨(h12.1 c2).1, fun x13 e13 => fun x14 e14 => ⟨fun c1 => ⟨((((h12.1 c2).2 x13 e13) x14 e14).1 c1).1, fun x15 e15 => fun x16 e16 => wmX12_signOf hk (fun y17_0 y17_1 h17 => fun x18 e18 => ⟨(h17 x18 e18).1, fun x19 e19 => fun x20 e20 => fun x21 e21 => ihk.2.2 _ _ _ ((((h17 x18 e18).2 x19 e19) x20 e20) x21 e21)⟩) ((((((h12.1 c2).2 x13 e13) x14 e14).1 c1).2 x15 e15) x16 e16)⟩, fun c1 => hQ _ _ ((((h12.1 c2).2 x13 e13) x14 e14).2 c1)⟩⟩, fun c2 => ihk.2.2 _ _ _ (h12.2 c2)⟩) ((hR.2 c4).2 c3)⟩⟩
      · intro t li lj hR
        have hR : wbX12_laysWay_2 (wpX12_laysWay k) k t li lj Q := hR
        show wbX12_laysWay_2 (wpX12_laysWay k') k' t li lj Q'
        unfold wbX12_laysWay_2 at hR ⊢
        exact fun x22 e22 => ihk.2.1 _ _ _ (hR x22 e22)
theorem wmX12_laysWay {k k' : Nat} {t : XT} {a1 : Int32} {Q Q' : Int32 → XT → Prop} (hk : k ≤ k') (hQ : (∀ (r : Int32) (t : XT), Q r t → Q' r t)) (hR : wqX12_laysWay k t a1 Q) : wqX12_laysWay k' t a1 Q' := (wnX12_laysWay Q Q' hQ k k' hk).1 _ _ _ hR
set_option maxHeartbeats 4000000 in
set_option maxRecDepth 100000 in
theorem wnX12_laysWays (Q Q' : XT → Prop) (hQ : (∀ (t : XT), Q t → Q' t)) : ∀ k k' : Nat, k ≤ k' → (∀ (t : XT) (li : Nat → Int32) (lj : Nat → Int64), wpX12_laysWays k 0 t li lj Q → wpX12_laysWays k' 0 t li lj Q') ∧ (∀ (t : XT) (li : Nat → Int32) (lj : Nat → Int64), wpX12_laysWays k 1 t li lj Q → wpX12_laysWays k' 1 t li lj Q') ∧ (∀ (t : XT) (li : Nat → Int32) (lj : Nat → Int64), wpX12_laysWays k 2 t li lj Q → wpX12_laysWays k' 2 t li lj Q') ∧ (∀ (t : XT) (li : Nat → Int32) (lj : Nat → Int64), wpX12_laysWays k 3 t li lj Q → wpX12_laysWays k' 3 t li lj Q') ∧ (∀ (t : XT) (li : Nat → Int32) (lj : Nat → Int64), wpX12_laysWays k 4 t li lj Q → wpX12_laysWays k' 4 t li lj Q') ∧ (∀ (t : XT) (li : Nat → Int32) (lj : Nat → Int64), wpX12_laysWays k 5 t li lj Q → wpX12_laysWays k' 5 t li lj Q') ∧ (∀ (t : XT) (li : Nat → Int32) (lj : Nat → Int64), wpX12_laysWays k 6 t li lj Q → wpX12_laysWays k' 6 t li lj Q') ∧ (∀ (t : XT) (li : Nat → Int32) (lj : Nat → Int64), wpX12_laysWays k 7 t li lj Q → wpX12_laysWays k' 7 t li lj Q') ∧ (∀ (t : XT) (li : Nat → Int32) (lj : Nat → Int64), wpX12_laysWays k 8 t li lj Q → wpX12_laysWays k' 8 t li lj Q') ∧ (∀ (t : XT) (li : Nat → Int32) (lj : Nat → Int64), wpX12_laysWays k 9 t li lj Q → wpX12_laysWays k' 9 t li lj Q') ∧ (∀ (t : XT) (li : Nat → Int32) (lj : Nat → Int64), wpX12_laysWays k 10 t li lj Q → wpX12_laysWays k' 10 t li lj Q') ∧ (∀ (t : XT) (li : Nat → Int32) (lj : Nat → Int64), wpX12_laysWays k 11 t li lj Q → wpX12_laysWays k' 11 t li lj Q') := by
  intro k
  induction k with
  | zero => intro k' _; exact ⟨fun _ _ _ hR => False.elim hR, fun _ _ _ hR => False.elim hR, fun _ _ _ hR => False.elim hR, fun _ _ _ hR => False.elim hR, fun _ _ _ hR => False.elim hR, fun _ _ _ hR => False.elim hR, fun _ _ _ hR => False.elim hR, fun _ _ _ hR => False.elim hR, fun _ _ _ hR => False.elim hR, fun _ _ _ hR => False.elim hR, fun _ _ _ hR => False.elim hR, fun _ _ _ hR => False.elim hR⟩
  | succ k ih =>
    intro k' hk
    cases k' with
    | zero => exact absurd hk (Nat.not_succ_le_zero k)
    | succ k' =>
      have hk := Nat.le_of_succ_le_succ hk
      have ihk := ih k' hk
      refine ⟨?_, ?_, ?_, ?_, ?_, ?_, ?_, ?_, ?_, ?_, ?_, ?_⟩
      · intro t li lj hR
        have hR : wbX12_laysWays_0 (wpX12_laysWays k) k t li lj Q := hR
        show wbX12_laysWays_0 (wpX12_laysWays k') k' t li lj Q'
        unfold wbX12_laysWays_0 at hR ⊢
        exact ihk.2.1 _ _ _ hR
      · intro t li lj hR
        have hR : wbX12_laysWays_1 (wpX12_laysWays k) k t li lj Q := hR
        show wbX12_laysWays_1 (wpX12_laysWays k') k' t li lj Q'
        unfold wbX12_laysWays_1 at hR ⊢
        exact ⟨fun c5 => ihk.2.2.2.2.2.2.2.1 _ _ _ (hR.1 c5), fun c5 => wmX12_isThere hk (fun y14_0 y14_1 h14 => ⟨fun c4 => ihk.2.2.1 _ _ _ (h14.1 c4), fun c4 => ⟨fun c3 => ihk.2.2.1 _ _ _ ((h14.2 c4).1 c3), fun c3 => wmX12_isLower hk (fun y15_0 y15_1 h15 => ⟨fun c2 => ihk.2.2.1 _ _ _ (h15.1 c2), fun c2 => wmX12_dimOf hk (fun y16_0 y16_1 h16 => wmX12_dimOf hk (fun y17_0 y17_1 h17 => ⟨fun c1 => ihk.2.2.1 _ _ _ (h17.1 c1), fun c1 => ihk.2.2.2.1 _ _ _ (h17.2 c1)⟩) h16) (h15.2 c2)⟩) ((h14.2 c4).2 c3)⟩⟩) (hR.2 c5)⟩
      · intro t li lj hR
        have hR : wbX12_laysWays_2 (wpX12_laysWays k) k t li lj Q := hR
        show wbX12_laysWays_2 (wpX12_laysWays k') k' t li lj Q'
        unfold wbX12_laysWays_2 at hR ⊢
        exact ihk.2.2.2.1 _ _ _ hR
      · intro t li lj hR
        have hR : wbX12_laysWays_3 (wpX12_laysWays k) k t li lj Q := hR
        show wbX12_laysWays_3 (wpX12_laysWays k') k' t li lj Q'
        unfold wbX12_laysWays_3 at hR ⊢
        exact ⟨fun c7 => ⟨fun c6 => ihk.2.2.2.2.1 _ _ _ ((hR.1 c7).1 c6), fun c6 => ihk.2.2.2.2.1 _ _ _ ((hR.1 c7).2 c6)⟩, fun c7 => ihk.2.2.2.2.2.1 _ _ _ (hR.2 c7)⟩
      · intro t li lj hR
        have hR : wbX12_laysWays_4 (wpX12_laysWays k) k t li lj Q := hR
        show wbX12_laysWays_4 (wpX12_laysWays k') k' t li lj Q'
        unfold wbX12_laysWays_4 at hR ⊢
        exact wmX12_truth hk (fun y18_0 h18 => fun x19 e19 => ihk.2.2.2.2.2.1 _ _ _ (h18 x19 e19)) hR
      · intro t li lj hR
        have hR : wbX12_laysWays_5 (wpX12_laysWays k) k t li lj Q := hR
        show wbX12_laysWays_5 (wpX12_laysWays k') k' t li lj Q'
        unfold wbX12_laysWays_5 at hR ⊢
        exact ⟨hR.1, fun x20 e20 => ⟨fun c8 => ihk.2.2.2.2.2.2.1 _ _ _ ((hR.2 x20 e20).1 c8), fun c8 => ihk.2.2.2.2.2.2.1 _ _ _ ((hR.2 x20 e20).2 c8)⟩⟩
      · intro t li lj hR
        have hR : wbX12_laysWays_6 (wpX12_laysWays k) k t li lj Q := hR
        show wbX12_laysWays_6 (wpX12_laysWays k') k' t li lj Q'
        unfold wbX12_laysWays_6 at hR ⊢
        exact wmX12_truth hk (fun y21_0 h21 => fun x22 e22 => ⟨(h21 x22 e22).1, fun x23 e23 => fun x24 e24 => ihk.2.1 _ _ _ (((h21 x22 e22).2 x23 e23) x24 e24)⟩) hR
      · intro t li lj hR
        have hR : wbX12_laysWays_7 (wpX12_laysWays k) k t li lj Q := hR
        show wbX12_laysWays_7 (wpX12_laysWays k') k' t li lj Q'
        unfold wbX12_laysWays_7 at hR ⊢
        exact ⟨fun c9 => hQ _ (hR.1 c9), fun c9 => ihk.2.2.2.2.2.2.2.2.1 _ _ _ (hR.2 c9)⟩
      · intro t li lj hR
        have hR : wbX12_laysWays_8 (wpX12_laysWays k) k t li lj Q := hR
        show wbX12_laysWays_8 (wpX12_laysWays k') k' t li lj Q'
        unfold wbX12_laysWays_8 at hR ⊢
        exact ⟨fun c13 => ihk.2.2.2.2.2.2.2.1 _ _ _ (hR.1 c13), fun c13 => ⟨(hR.2 c13).1, fun x25 e25 => fun x26 e26 => ⟨fun c12 => ihk.2.2.2.2.2.2.2.2.2.2.2 _ _ _ ((((hR.2 c13).2 x25 e25) x26 e26).1 c12), fun c12 => wmX12_laysWay hk (fun y27_0 y27_1 h27 => ⟨fun c11 => ihk.2.2.2.2.2.2.2.2.2.1 _ _ _ (h27.1 c11), fun c11 => ⟨fun c10 => ihk.2.2.2.2.2.2.2.2.2.2.1 _ _ _ ((h27.2 c11).1 c10), fun c10 => ihk.2.2.2.2.2.2.2.2.2.1 _ _ _ ((h27.2 c11).2 c10)⟩⟩) ((((hR.2 c13).2 x25 e25) x26 e26).2 c12)⟩⟩⟩
      · intro t li lj hR
        have hR : wbX12_laysWays_9 (wpX12_laysWays k) k t li lj Q := hR
        show wbX12_laysWays_9 (wpX12_laysWays k') k' t li lj Q'
        unfold wbX12_laysWays_9 at hR ⊢
        exact ihk.2.2.2.2.2.2.2.2.2.2.1 _ _ _ hR
      · intro t li lj hR
        have hR : wbX12_laysWays_10 (wpX12_laysWays k) k t li lj Q := hR
        show wbX12_laysWays_10 (wpX12_laysWays k') k' t li lj Q'
        unfold wbX12_laysWays_10 at hR ⊢
        exact ihk.2.2.2.2.2.2.2.2.2.2.2 _ _ _ hR
      · intro t li lj hR
        have hR : wbX12_laysWays_11 (wpX12_laysWays k) k t li lj Q := hR
        show wbX12_laysWays_11 (wpX12_laysWays k') k' t li lj Q'
        unfold wbX12_laysWays_11 at hR ⊢
        exact fun x28 e28 => ihk.2.2.2.2.2.2.2.2.1 _ _ _ (hR x28 e28)
theorem wmX12_laysWays {k k' : Nat} {t : XT} {a1 : Int32} {Q Q' : XT → Prop} (hk : k ≤ k') (hQ : (∀ (t : XT), Q t → Q' t)) (hR : wqX12_laysWays k t a1 Q) : wqX12_laysWays k' t a1 Q' := (wnX12_laysWays Q Q' hQ k k' hk).1 _ _ _ hR
set_option maxHeartbeats 4000000 in
set_option maxRecDepth 100000 in
theorem wnX12_waysFrom (Q Q' : Int64 → XT → Prop) (hQ : (∀ (r : Int64) (t : XT), Q r t → Q' r t)) : ∀ k k' : Nat, k ≤ k' → (∀ (t : XT) (li : Nat → Int32) (lj : Nat → Int64), wpX12_waysFrom k 0 t li lj Q → wpX12_waysFrom k' 0 t li lj Q') ∧ (∀ (t : XT) (li : Nat → Int32) (lj : Nat → Int64), wpX12_waysFrom k 1 t li lj Q → wpX12_waysFrom k' 1 t li lj Q') ∧ (∀ (t : XT) (li : Nat → Int32) (lj : Nat → Int64), wpX12_waysFrom k 2 t li lj Q → wpX12_waysFrom k' 2 t li lj Q') := by
  intro k
  induction k with
  | zero => intro k' _; exact ⟨fun _ _ _ hR => False.elim hR, fun _ _ _ hR => False.elim hR, fun _ _ _ hR => False.elim hR⟩
  | succ k ih =>
    intro k' hk
    cases k' with
    | zero => exact absurd hk (Nat.not_succ_le_zero k)
    | succ k' =>
      have hk := Nat.le_of_succ_le_succ hk
      have ihk := ih k' hk
      refine ⟨?_, ?_, ?_⟩
      · intro t li lj hR
        have hR : wbX12_waysFrom_0 (wpX12_waysFrom k) k t li lj Q := hR
        show wbX12_waysFrom_0 (wpX12_waysFrom k') k' t li lj Q'
        unfold wbX12_waysFrom_0 at hR ⊢
        exact wmX12_laysWays hk (fun y3_0 h3 => ihk.2.1 _ _ _ h3) hR
      · intro t li lj hR
        have hR : wbX12_waysFrom_1 (wpX12_waysFrom k) k t li lj Q := hR
        show wbX12_waysFrom_1 (wpX12_waysFrom k') k' t li lj Q'
        unfold wbX12_waysFrom_1 at hR ⊢
        exact ⟨fun c2 => hQ _ _ (hR.1 c2), fun c2 => wmX12_isFaceThere hk (fun y4_0 y4_1 h4 => ⟨fun c1 => ihk.2.2 _ _ _ (h4.1 c1), fun c1 => ⟨(h4.2 c1).1, fun x5 e5 => ihk.2.2 _ _ _ ((h4.2 c1).2 x5 e5)⟩⟩) (hR.2 c2)⟩
      · intro t li lj hR
        have hR : wbX12_waysFrom_2 (wpX12_waysFrom k) k t li lj Q := hR
        show wbX12_waysFrom_2 (wpX12_waysFrom k') k' t li lj Q'
        unfold wbX12_waysFrom_2 at hR ⊢
        exact fun x6 e6 => fun x7 e7 => ihk.2.1 _ _ _ ((hR x6 e6) x7 e7)
theorem wmX12_waysFrom {k k' : Nat} {t : XT} {a1 : Int32} {a2 : Int32} {Q Q' : Int64 → XT → Prop} (hk : k ≤ k') (hQ : (∀ (r : Int64) (t : XT), Q r t → Q' r t)) (hR : wqX12_waysFrom k t a1 a2 Q) : wqX12_waysFrom k' t a1 a2 Q' := (wnX12_waysFrom Q Q' hQ k k' hk).1 _ _ _ hR
set_option maxHeartbeats 4000000 in
set_option maxRecDepth 100000 in
theorem wnX12_rows (Q Q' : XT → Prop) (hQ : (∀ (t : XT), Q t → Q' t)) : ∀ k k' : Nat, k ≤ k' → (∀ (t : XT) (li : Nat → Int32) (lj : Nat → Int64), wpX12_rows k 0 t li lj Q → wpX12_rows k' 0 t li lj Q') := by
  intro k
  induction k with
  | zero => intro k' _; exact fun _ _ _ hR => False.elim hR
  | succ k ih =>
    intro k' hk
    cases k' with
    | zero => exact absurd hk (Nat.not_succ_le_zero k)
    | succ k' =>
      have hk := Nat.le_of_succ_le_succ hk
      have ihk := ih k' hk
      intro t li lj hR
      have hR : wbX12_rows_0 (wpX12_rows k) k t li lj Q := hR
      show wbX12_rows_0 (wpX12_rows k') k' t li lj Q'
      unfold wbX12_rows_0 at hR ⊢
      exact ⟨hR.1, fun x1 e1 => fun x2 e2 => fun x3 e3 => hQ _ (((hR.2 x1 e1) x2 e2) x3 e3)⟩
theorem wmX12_rows {k k' : Nat} {t : XT} {a1 : Int32} {Q Q' : XT → Prop} (hk : k ≤ k') (hQ : (∀ (t : XT), Q t → Q' t)) (hR : wqX12_rows k t a1 Q) : wqX12_rows k' t a1 Q' := (wnX12_rows Q Q' hQ k k' hk) _ _ _ hR
set_option maxHeartbeats 4000000 in
set_option maxRecDepth 100000 in
theorem wnX12_laysPath (Q Q' : Int32 → XT → Prop) (hQ : (∀ (r : Int32) (t : XT), Q r t → Q' r t)) : ∀ k k' : Nat, k ≤ k' → (∀ (t : XT) (li : Nat → Int32) (lj : Nat → Int64), wpX12_laysPath k 0 t li lj Q → wpX12_laysPath k' 0 t li lj Q') ∧ (∀ (t : XT) (li : Nat → Int32) (lj : Nat → Int64), wpX12_laysPath k 1 t li lj Q → wpX12_laysPath k' 1 t li lj Q') ∧ (∀ (t : XT) (li : Nat → Int32) (lj : Nat → Int64), wpX12_laysPath k 2 t li lj Q → wpX12_laysPath k' 2 t li lj Q') ∧ (∀ (t : XT) (li : Nat → Int32) (lj : Nat → Int64), wpX12_laysPath k 3 t li lj Q → wpX12_laysPath k' 3 t li lj Q') ∧ (∀ (t : XT) (li : Nat → Int32) (lj : Nat → Int64), wpX12_laysPath k 4 t li lj Q → wpX12_laysPath k' 4 t li lj Q') ∧ (∀ (t : XT) (li : Nat → Int32) (lj : Nat → Int64), wpX12_laysPath k 5 t li lj Q → wpX12_laysPath k' 5 t li lj Q') ∧ (∀ (t : XT) (li : Nat → Int32) (lj : Nat → Int64), wpX12_laysPath k 6 t li lj Q → wpX12_laysPath k' 6 t li lj Q') := by
  intro k
  induction k with
  | zero => intro k' _; exact ⟨fun _ _ _ hR => False.elim hR, fun _ _ _ hR => False.elim hR, fun _ _ _ hR => False.elim hR, fun _ _ _ hR => False.elim hR, fun _ _ _ hR => False.elim hR, fun _ _ _ hR => False.elim hR, fun _ _ _ hR => False.elim hR⟩
  | succ k ih =>
    intro k' hk
    cases k' with
    | zero => exact absurd hk (Nat.not_succ_le_zero k)
    | succ k' =>
      have hk := Nat.le_of_succ_le_succ hk
      have ihk := ih k' hk
      refine ⟨?_, ?_, ?_, ?_, ?_, ?_, ?_⟩
      · intro t li lj hR
        have hR : wbX12_laysPath_0 (wpX12_laysPath k) k t li lj Q := hR
        show wbX12_laysPath_0 (wpX12_laysPath k') k' t li lj Q'
        unfold wbX12_laysPath_0 at hR ⊢
        exact wmX12_waysFrom hk (fun y9_0 y9_1 h9 => fun x10 e10 => ⟨fun c1 => fun x11 e11 => wmX12_rows hk (fun y12_0 h12 => ihk.2.1 _ _ _ h12) (((h9 x10 e10).1 c1) x11 e11), fun c1 => hQ _ _ ((h9 x10 e10).2 c1)⟩) hR
      · intro t li lj hR
        have hR : wbX12_laysPath_1 (wpX12_laysPath k) k t li lj Q := hR
        show wbX12_laysPath_1 (wpX12_laysPath k') k' t li lj Q'
        unfold wbX12_laysPath_1 at hR ⊢
        exact ⟨fun c2 => hQ _ _ (hR.1 c2), fun c2 => ihk.2.2.1 _ _ _ (hR.2 c2)⟩
      · intro t li lj hR
        have hR : wbX12_laysPath_2 (wpX12_laysPath k) k t li lj Q := hR
        show wbX12_laysPath_2 (wpX12_laysPath k') k' t li lj Q'
        unfold wbX12_laysPath_2 at hR ⊢
        exact ⟨fun c6 => ihk.2.2.2.1 _ _ _ (hR.1 c6), fun c6 => wmX12_isFaceThere hk (fun y13_0 y13_1 h13 => ⟨fun c5 => ihk.2.2.2.1 _ _ _ (h13.1 c5), fun c5 => ⟨(h13.2 c5).1, fun x14 e14 => fun x15 e15 => ⟨fun c4 => wmX12_rows hk (fun y16_0 h16 => ⟨fun c3 => ihk.2.2.2.2.2.2 _ _ _ (h16.1 c3), fun c3 => ⟨(h16.2 c3).1, fun x17 e17 => wmX12_rows hk (fun y18_0 h18 => ihk.2.2.2.2.2.2 _ _ _ h18) ((h16.2 c3).2 x17 e17)⟩⟩) ((((h13.2 c5).2 x14 e14) x15 e15).1 c4), fun c4 => ihk.2.2.2.1 _ _ _ ((((h13.2 c5).2 x14 e14) x15 e15).2 c4)⟩⟩⟩) (hR.2 c6)⟩
      · intro t li lj hR
        have hR : wbX12_laysPath_3 (wpX12_laysPath k) k t li lj Q := hR
        show wbX12_laysPath_3 (wpX12_laysPath k') k' t li lj Q'
        unfold wbX12_laysPath_3 at hR ⊢
        exact ⟨fun c8 => ihk.2.2.2.2.1 _ _ _ (hR.1 c8), fun c8 => wmX12_isFaceThere hk (fun y19_0 y19_1 h19 => ⟨fun c7 => ihk.2.2.2.2.1 _ _ _ (h19.1 c7), fun c7 => ⟨(h19.2 c7).1, fun x20 e20 => ihk.2.2.2.2.2.1 _ _ _ ((h19.2 c7).2 x20 e20)⟩⟩) (hR.2 c8)⟩
      · intro t li lj hR
        have hR : wbX12_laysPath_4 (wpX12_laysPath k) k t li lj Q := hR
        show wbX12_laysPath_4 (wpX12_laysPath k') k' t li lj Q'
        unfold wbX12_laysPath_4 at hR ⊢
        exact ihk.2.2.2.2.2.1 _ _ _ hR
      · intro t li lj hR
        have hR : wbX12_laysPath_5 (wpX12_laysPath k) k t li lj Q := hR
        show wbX12_laysPath_5 (wpX12_laysPath k') k' t li lj Q'
        unfold wbX12_laysPath_5 at hR ⊢
        exact fun x21 e21 => fun x22 e22 => ihk.2.2.1 _ _ _ ((hR x21 e21) x22 e22)
      · intro t li lj hR
        have hR : wbX12_laysPath_6 (wpX12_laysPath k) k t li lj Q := hR
        show wbX12_laysPath_6 (wpX12_laysPath k') k' t li lj Q'
        unfold wbX12_laysPath_6 at hR ⊢
        exact ihk.2.1 _ _ _ hR
theorem wmX12_laysPath {k k' : Nat} {t : XT} {a1 : Int32} {a2 : Int32} {a3 : Int64} {Q Q' : Int32 → XT → Prop} (hk : k ≤ k') (hQ : (∀ (r : Int32) (t : XT), Q r t → Q' r t)) (hR : wqX12_laysPath k t a1 a2 a3 Q) : wqX12_laysPath k' t a1 a2 a3 Q' := (wnX12_laysPath Q Q' hQ k k' hk).1 _ _ _ hR
set_option maxHeartbeats 4000000 in
set_option maxRecDepth 100000 in
theorem wnX12_cancel (Q Q' : Int32 → XT → Prop) (hQ : (∀ (r : Int32) (t : XT), Q r t → Q' r t)) : ∀ k k' : Nat, k ≤ k' → (∀ (t : XT) (li : Nat → Int32) (lj : Nat → Int64), wpX12_cancel k 0 t li lj Q → wpX12_cancel k' 0 t li lj Q') ∧ (∀ (t : XT) (li : Nat → Int32) (lj : Nat → Int64), wpX12_cancel k 1 t li lj Q → wpX12_cancel k' 1 t li lj Q') ∧ (∀ (t : XT) (li : Nat → Int32) (lj : Nat → Int64), wpX12_cancel k 2 t li lj Q → wpX12_cancel k' 2 t li lj Q') := by
  intro k
  induction k with
  | zero => intro k' _; exact ⟨fun _ _ _ hR => False.elim hR, fun _ _ _ hR => False.elim hR, fun _ _ _ hR => False.elim hR⟩
  | succ k ih =>
    intro k' hk
    cases k' with
    | zero => exact absurd hk (Nat.not_succ_le_zero k)
    | succ k' =>
      have hk := Nat.le_of_succ_le_succ hk
      have ihk := ih k' hk
      refine ⟨?_, ?_, ?_⟩
      · intro t li lj hR
        have hR : wbX12_cancel_0 (wpX12_cancel k) k t li lj Q := hR
        show wbX12_cancel_0 (wpX12_cancel k') k' t li lj Q'
        unfold wbX12_cancel_0 at hR ⊢
        exact wmX12_areEnds hk (fun y5_0 y5_1 h5 => ⟨fun c2 => wmX12_waysFrom hk (fun y6_0 y6_1 h6 => fun x7 e7 => ⟨fun c1 => wmX12_laysPath hk (fun y8_0 y8_1 h8 => wmX12_remembers hk (fun y9_0 h9 => ihk.2.1 _ _ _ h9) h8) ((h6 x7 e7).1 c1), fun c1 => hQ _ _ ((h6 x7 e7).2 c1)⟩) (h5.1 c2), fun c2 => hQ _ _ (h5.2 c2)⟩) hR
      · intro t li lj hR
        have hR : wbX12_cancel_1 (wpX12_cancel k) k t li lj Q := hR
        show wbX12_cancel_1 (wpX12_cancel k') k' t li lj Q'
        unfold wbX12_cancel_1 at hR ⊢
        exact ⟨fun c3 => ihk.2.2 _ _ _ (hR.1 c3), fun c3 => ⟨(hR.2 c3).1, fun x10 e10 => ⟨((hR.2 c3).2 x10 e10).1, fun x11 e11 => fun x12 e12 => ihk.2.1 _ _ _ ((((hR.2 c3).2 x10 e10).2 x11 e11) x12 e12)⟩⟩⟩
      · intro t li lj hR
        have hR : wbX12_cancel_2 (wpX12_cancel k) k t li lj Q := hR
        show wbX12_cancel_2 (wpX12_cancel k') k' t li lj Q'
        unfold wbX12_cancel_2 at hR ⊢
        exact fun x13 e13 => ⟨fun c4 => wmX12_criticalMany hk (fun y14_0 y14_1 h14 => hQ _ _ h14) ((hR x13 e13).1 c4), fun c4 => ⟨((hR x13 e13).2 c4).1, fun x15 e15 => fun x16 e16 => ⟨((((hR x13 e13).2 c4).2 x15 e15) x16 e16).1, fun x17 e17 => ⟨(((((hR x13 e13).2 c4).2 x15 e15) x16 e16).2 x17 e17).1, fun x18 e18 => fun x19 e19 => ⟨(((((((hR x13 e13).2 c4).2 x15 e15) x16 e16).2 x17 e17).2 x18 e18) x19 e19).1, fun x20 e20 => ⟨((((((((hR x13 e13).2 c4).2 x15 e15) x16 e16).2 x17 e17).2 x18 e18) x19 e19).2 x20 e20).1, fun x21 e21 => ⟨(((((((((hR x13 e13).2 c4).2 x15 e15) x16 e16).2 x17 e17).2 x18 e18) x19 e19).2 x20 e20).2 x21 e21).1, fun x22 e22 => fun x23 e23 => ihk.2.2 _ _ _ (((((((((((hR x13 e13).2 c4).2 x15 e15) x16 e16).2 x17 e17).2 x18 e18) x19 e19).2 x20 e20).2 x21 e21).2 x22 e22) x23 e23)⟩⟩⟩⟩⟩⟩⟩
theorem wmX12_cancel {k k' : Nat} {t : XT} {a1 : Int32} {a2 : Int32} {Q Q' : Int32 → XT → Prop} (hk : k ≤ k') (hQ : (∀ (r : Int32) (t : XT), Q r t → Q' r t)) (hR : wqX12_cancel k t a1 a2 Q) : wqX12_cancel k' t a1 a2 Q' := (wnX12_cancel Q Q' hQ k k' hk).1 _ _ _ hR
set_option maxHeartbeats 4000000 in
set_option maxRecDepth 100000 in
theorem wnX12_overOf (Q Q' : Int32 → XT → Prop) (hQ : (∀ (r : Int32) (t : XT), Q r t → Q' r t)) : ∀ k k' : Nat, k ≤ k' → (∀ (t : XT) (li : Nat → Int32) (lj : Nat → Int64), wpX12_overOf k 0 t li lj Q → wpX12_overOf k' 0 t li lj Q') ∧ (∀ (t : XT) (li : Nat → Int32) (lj : Nat → Int64), wpX12_overOf k 1 t li lj Q → wpX12_overOf k' 1 t li lj Q') := by
  intro k
  induction k with
  | zero => intro k' _; exact ⟨fun _ _ _ hR => False.elim hR, fun _ _ _ hR => False.elim hR⟩
  | succ k ih =>
    intro k' hk
    cases k' with
    | zero => exact absurd hk (Nat.not_succ_le_zero k)
    | succ k' =>
      have hk := Nat.le_of_succ_le_succ hk
      have ihk := ih k' hk
      refine ⟨?_, ?_⟩
      · intro t li lj hR
        have hR : wbX12_overOf_0 (wpX12_overOf k) k t li lj Q := hR
        show wbX12_overOf_0 (wpX12_overOf k') k' t li lj Q'
        unfold wbX12_overOf_0 at hR ⊢
        exact ihk.2 _ _ _ hR
      · intro t li lj hR
        have hR : wbX12_overOf_1 (wpX12_overOf k) k t li lj Q := hR
        show wbX12_overOf_1 (wpX12_overOf k') k' t li lj Q'
        unfold wbX12_overOf_1 at hR ⊢
        exact wmX12_isFaceThere hk (fun y2_0 y2_1 h2 => ⟨fun c1 => hQ _ _ (h2.1 c1), fun c1 => fun x3 e3 => ihk.2 _ _ _ ((h2.2 c1) x3 e3)⟩) hR
theorem wmX12_overOf {k k' : Nat} {t : XT} {a1 : Int32} {Q Q' : Int32 → XT → Prop} (hk : k ≤ k') (hQ : (∀ (r : Int32) (t : XT), Q r t → Q' r t)) (hR : wqX12_overOf k t a1 Q) : wqX12_overOf k' t a1 Q' := (wnX12_overOf Q Q' hQ k k' hk).1 _ _ _ hR
set_option maxHeartbeats 4000000 in
set_option maxRecDepth 100000 in
theorem wnX12_isFreeFace (Q Q' : Int32 → XT → Prop) (hQ : (∀ (r : Int32) (t : XT), Q r t → Q' r t)) : ∀ k k' : Nat, k ≤ k' → (∀ (t : XT) (li : Nat → Int32) (lj : Nat → Int64), wpX12_isFreeFace k 0 t li lj Q → wpX12_isFreeFace k' 0 t li lj Q') ∧ (∀ (t : XT) (li : Nat → Int32) (lj : Nat → Int64), wpX12_isFreeFace k 1 t li lj Q → wpX12_isFreeFace k' 1 t li lj Q') := by
  intro k
  induction k with
  | zero => intro k' _; exact ⟨fun _ _ _ hR => False.elim hR, fun _ _ _ hR => False.elim hR⟩
  | succ k ih =>
    intro k' hk
    cases k' with
    | zero => exact absurd hk (Nat.not_succ_le_zero k)
    | succ k' =>
      have hk := Nat.le_of_succ_le_succ hk
      have ihk := ih k' hk
      refine ⟨?_, ?_⟩
      · intro t li lj hR
        have hR : wbX12_isFreeFace_0 (wpX12_isFreeFace k) k t li lj Q := hR
        show wbX12_isFreeFace_0 (wpX12_isFreeFace k') k' t li lj Q'
        unfold wbX12_isFreeFace_0 at hR ⊢
        exact wmX12_isThere hk (fun y4_0 y4_1 h4 => ⟨fun c3 => ihk.2 _ _ _ (h4.1 c3), fun c3 => wmX12_facesOver hk (fun y5_0 y5_1 h5 => ⟨fun c2 => wmX12_overOf hk (fun y6_0 y6_1 h6 => wmX12_facesOver hk (fun y7_0 y7_1 h7 => ⟨fun c1 => hQ _ _ (h7.1 c1), fun c1 => hQ _ _ (h7.2 c1)⟩) h6) (h5.1 c2), fun c2 => ihk.2 _ _ _ (h5.2 c2)⟩) (h4.2 c3)⟩) hR
      · intro t li lj hR
        have hR : wbX12_isFreeFace_1 (wpX12_isFreeFace k) k t li lj Q := hR
        show wbX12_isFreeFace_1 (wpX12_isFreeFace k') k' t li lj Q'
        unfold wbX12_isFreeFace_1 at hR ⊢
        exact hQ _ _ hR
theorem wmX12_isFreeFace {k k' : Nat} {t : XT} {a1 : Int32} {Q Q' : Int32 → XT → Prop} (hk : k ≤ k') (hQ : (∀ (r : Int32) (t : XT), Q r t → Q' r t)) (hR : wqX12_isFreeFace k t a1 Q) : wqX12_isFreeFace k' t a1 Q' := (wnX12_isFreeFace Q Q' hQ k k' hk).1 _ _ _ hR
set_option maxHeartbeats 4000000 in
set_option maxRecDepth 100000 in
theorem wnX12_thereMany (Q Q' : Int32 → XT → Prop) (hQ : (∀ (r : Int32) (t : XT), Q r t → Q' r t)) : ∀ k k' : Nat, k ≤ k' → (∀ (t : XT) (li : Nat → Int32) (lj : Nat → Int64), wpX12_thereMany k 0 t li lj Q → wpX12_thereMany k' 0 t li lj Q') ∧ (∀ (t : XT) (li : Nat → Int32) (lj : Nat → Int64), wpX12_thereMany k 1 t li lj Q → wpX12_thereMany k' 1 t li lj Q') ∧ (∀ (t : XT) (li : Nat → Int32) (lj : Nat → Int64), wpX12_thereMany k 2 t li lj Q → wpX12_thereMany k' 2 t li lj Q') := by
  intro k
  induction k with
  | zero => intro k' _; exact ⟨fun _ _ _ hR => False.elim hR, fun _ _ _ hR => False.elim hR, fun _ _ _ hR => False.elim hR⟩
  | succ k ih =>
    intro k' hk
    cases k' with
    | zero => exact absurd hk (Nat.not_succ_le_zero k)
    | succ k' =>
      have hk := Nat.le_of_succ_le_succ hk
      have ihk := ih k' hk
      refine ⟨?_, ?_, ?_⟩
      · intro t li lj hR
        have hR : wbX12_thereMany_0 (wpX12_thereMany k) k t li lj Q := hR
        show wbX12_thereMany_0 (wpX12_thereMany k') k' t li lj Q'
        unfold wbX12_thereMany_0 at hR ⊢
        exact ihk.2.1 _ _ _ hR
      · intro t li lj hR
        have hR : wbX12_thereMany_1 (wpX12_thereMany k) k t li lj Q := hR
        show wbX12_thereMany_1 (wpX12_thereMany k') k' t li lj Q'
        unfold wbX12_thereMany_1 at hR ⊢
        exact ⟨fun c2 => hQ _ _ (hR.1 c2), fun c2 => ⟨(hR.2 c2).1, fun x3 e3 => ⟨fun c1 => ihk.2.2 _ _ _ (((hR.2 c2).2 x3 e3).1 c1), fun c1 => ihk.2.2 _ _ _ (((hR.2 c2).2 x3 e3).2 c1)⟩⟩⟩
      · intro t li lj hR
        have hR : wbX12_thereMany_2 (wpX12_thereMany k) k t li lj Q := hR
        show wbX12_thereMany_2 (wpX12_thereMany k') k' t li lj Q'
        unfold wbX12_thereMany_2 at hR ⊢
        exact wmX12_truth hk (fun y4_0 h4 => fun x5 e5 => fun x6 e6 => ihk.2.1 _ _ _ ((h4 x5 e5) x6 e6)) hR
theorem wmX12_thereMany {k k' : Nat} {t : XT}  {Q Q' : Int32 → XT → Prop} (hk : k ≤ k') (hQ : (∀ (r : Int32) (t : XT), Q r t → Q' r t)) (hR : wqX12_thereMany k t  Q) : wqX12_thereMany k' t  Q' := (wnX12_thereMany Q Q' hQ k k' hk).1 _ _ _ hR
set_option maxHeartbeats 4000000 in
set_option maxRecDepth 100000 in
theorem wnX12_collapse (Q Q' : Int32 → XT → Prop) (hQ : (∀ (r : Int32) (t : XT), Q r t → Q' r t)) : ∀ k k' : Nat, k ≤ k' → (∀ (t : XT) (li : Nat → Int32) (lj : Nat → Int64), wpX12_collapse k 0 t li lj Q → wpX12_collapse k' 0 t li lj Q') := by
  intro k
  induction k with
  | zero => intro k' _; exact fun _ _ _ hR => False.elim hR
  | succ k ih =>
    intro k' hk
    cases k' with
    | zero => exact absurd hk (Nat.not_succ_le_zero k)
    | succ k' =>
      have hk := Nat.le_of_succ_le_succ hk
      have ihk := ih k' hk
      intro t li lj hR
      have hR : wbX12_collapse_0 (wpX12_collapse k) k t li lj Q := hR
      show wbX12_collapse_0 (wpX12_collapse k') k' t li lj Q'
      unfold wbX12_collapse_0 at hR ⊢
      exact wmX12_isThere hk (fun y3_0 y3_1 h3 => ⟨fun c2 => wmX12_isFreeFace hk (fun y4_0 y4_1 h4 => ⟨fun c1 => wmX12_remembers hk (fun y5_0 h5 => wmX12_overOf hk (fun y6_0 y6_1 h6 => wmX12_frees hk (fun y7_0 h7 => wmX12_frees hk (fun y8_0 h8 => ⟨h8.1, fun x9 e9 => ⟨(h8.2 x9 e9).1, fun x10 e10 => wmX12_thereMany hk (fun y11_0 y11_1 h11 => hQ _ _ h11) ((h8.2 x9 e9).2 x10 e10)⟩⟩) h7) h6) h5) (h4.1 c1), fun c1 => hQ _ _ (h4.2 c1)⟩) (h3.1 c2), fun c2 => hQ _ _ (h3.2 c2)⟩) hR
theorem wmX12_collapse {k k' : Nat} {t : XT} {a1 : Int32} {Q Q' : Int32 → XT → Prop} (hk : k ≤ k') (hQ : (∀ (r : Int32) (t : XT), Q r t → Q' r t)) (hR : wqX12_collapse k t a1 Q) : wqX12_collapse k' t a1 Q' := (wnX12_collapse Q Q' hQ k k' hk) _ _ _ hR
