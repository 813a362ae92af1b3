set_option maxHeartbeats 4000000 in
set_option maxRecDepth 100000 in
theorem wnX12_undo (Q Q' : Int32 → XT → Prop) (hQ : (∀ (r : Int32) (t : XT), Q r t → Q' r t)) : ∀ k k' : Nat, k ≤ k' → (∀ (t : XT) (li : Nat → Int32) (lj : Nat → Int64), wpX12_undo k 0 t li lj Q → wpX12_undo k' 0 t li lj Q') ∧ (∀ (t : XT) (li : Nat → Int32) (lj : Nat → Int64), wpX12_undo k 1 t li lj Q → wpX12_undo k' 1 t li lj Q') ∧ (∀ (t : XT) (li : Nat → Int32) (lj : Nat → Int64), wpX12_undo k 2 t li lj Q → wpX12_undo k' 2 t li lj Q') := by
  intro k
  induction k with
  | zero => intro k' _; exact ⟨fun _ _ _ hR => False.elim hR, fun _ _ _ hR => False.elim hR, fun _ _ _ hR => False.elim hR⟩
  | succ k ih =>
    intro k' hk
    cases k' with
    | zero => exact absurd hk (Nat.not_succ_le_zero k)
    | succ k' =>
      have hk := Nat.le_of_succ_le_succ hk
      have ihk := ih k' hk
      refine ⟨?_, ?_, ?_⟩
      · intro t li lj hR
        have hR : wbX12_undo_0 (wpX12_undo k) k t li lj Q := hR
        show wbX12_undo_0 (wpX12_undo k') k' t li lj Q'
        unfold wbX12_undo_0 at hR ⊢
        exact ⟨fun c1 => fun x4 e4 => fun x5 e5 => fun x6 e6 => ihk.2.1 _ _ _ ((((hR.1 c1) x4 e4) x5 e5) x6 e6), fun c1 => hQ _ _ (hR.2 c1)⟩
      · intro t li lj hR
        have hR : wbX12_undo_1 (wpX12_undo k) k t li lj Q := hR
        show wbX12_undo_1 (wpX12_undo k') k' t li lj Q'
        unfold wbX12_undo_1 at hR ⊢
        exact ⟨fun c3 => hQ _ _ (hR.1 c3), fun c3 => fun x7 e7 => ⟨((hR.2 c3) x7 e7).1, fun x8 e8 => ⟨(((hR.2 c3) x7 e7).2 x8 e8).1, fun x9 e9 => fun x10 e10 => fun x11 e11 => ⟨((((((hR.2 c3) x7 e7).2 x8 e8).2 x9 e9) x10 e10) x11 e11).1, fun x12 e12 => ⟨fun c2 => ihk.2.2 _ _ _ ((((((((hR.2 c3) x7 e7).2 x8 e8).2 x9 e9) x10 e10) x11 e11).2 x12 e12).1 c2), fun c2 => ihk.2.2 _ _ _ ((((((((hR.2 c3) x7 e7).2 x8 e8).2 x9 e9) x10 e10) x11 e11).2 x12 e12).2 c2)⟩⟩⟩⟩⟩
      · intro t li lj hR
        have hR : wbX12_undo_2 (wpX12_undo k) k t li lj Q := hR
        show wbX12_undo_2 (wpX12_undo k') k' t li lj Q'
        unfold wbX12_undo_2 at hR ⊢
        exact ⟨hR.1, fun x13 e13 => fun x14 e14 => ihk.2.1 _ _ _ ((hR.2 x13 e13) x14 e14)⟩
theorem wmX12_undo {k k' : Nat} {t : XT}  {Q Q' : Int32 → XT → Prop} (hk : k ≤ k') (hQ : (∀ (r : Int32) (t : XT), Q r t → Q' r t)) (hR : wqX12_undo k t  Q) : wqX12_undo k' t  Q' := (wnX12_undo Q Q' hQ k k' hk).1 _ _ _ hR
set_option maxHeartbeats 4000000 in
set_option maxRecDepth 100000 in
theorem wnX12_critical (Q Q' : Int32 → XT → Prop) (hQ : (∀ (r : Int32) (t : XT), Q r t → Q' r t)) : ∀ k k' : Nat, k ≤ k' → (∀ (t : XT) (li : Nat → Int32) (lj : Nat → Int64), wpX12_critical k 0 t li lj Q → wpX12_critical k' 0 t li lj Q') ∧ (∀ (t : XT) (li : Nat → Int32) (lj : Nat → Int64), wpX12_critical k 1 t li lj Q → wpX12_critical k' 1 t li lj Q') ∧ (∀ (t : XT) (li : Nat → Int32) (lj : Nat → Int64), wpX12_critical k 2 t li lj Q → wpX12_critical k' 2 t li lj Q') ∧ (∀ (t : XT) (li : Nat → Int32) (lj : Nat → Int64), wpX12_critical k 3 t li lj Q → wpX12_critical k' 3 t li lj Q') := by
  intro k
  induction k with
  | zero => intro k' _; exact ⟨fun _ _ _ hR => False.elim hR, fun _ _ _ hR => False.elim hR, fun _ _ _ hR => False.elim hR, fun _ _ _ hR => False.elim hR⟩
  | succ k ih =>
    intro k' hk
    cases k' with
    | zero => exact absurd hk (Nat.not_succ_le_zero k)
    | succ k' =>
      have hk := Nat.le_of_succ_le_succ hk
      have ihk := ih k' hk
      refine ⟨?_, ?_, ?_, ?_⟩
      · intro t li lj hR
        have hR : wbX12_critical_0 (wpX12_critical k) k t li lj Q := hR
        show wbX12_critical_0 (wpX12_critical k') k' t li lj Q'
        unfold wbX12_critical_0 at hR ⊢
        exact wmX12_in hk (fun y8_0 h8 => ⟨fun c2 => ihk.2.1 _ _ _ (h8.1 c2), fun c2 => ⟨fun c1 => ihk.2.2.1 _ _ _ ((h8.2 c2).1 c1), fun c1 => ihk.2.1 _ _ _ ((h8.2 c2).2 c1)⟩⟩) hR
      · intro t li lj hR
        have hR : wbX12_critical_1 (wpX12_critical k) k t li lj Q := hR
        show wbX12_critical_1 (wpX12_critical k') k' t li lj Q'
        unfold wbX12_critical_1 at hR ⊢
        exact hQ _ _ hR
      · intro t li lj hR
        have hR : wbX12_critical_2 (wpX12_critical k) k t li lj Q := hR
        show wbX12_critical_2 (wpX12_critical k') k' t li lj Q'
        unfold wbX12_critical_2 at hR ⊢
        exact ⟨fun c7 => ⟨fun c3 => hQ _ _ ((hR.1 c7).1 c3), fun c3 => hQ _ _ ((hR.1 c7).2 c3)⟩, fun c7 => wmX12_isCritical hk (fun y9_0 y9_1 h9 => ⟨fun c6 => ihk.2.2.2 _ _ _ (h9.1 c6), fun c6 => wmX12_dimOf hk (fun y10_0 y10_1 h10 => ⟨fun c5 => ihk.2.2.2 _ _ _ (h10.1 c5), fun c5 => ⟨fun c4 => fun x11 e11 => ihk.2.2.2 _ _ _ (((h10.2 c5).1 c4) x11 e11), fun c4 => hQ _ _ ((h10.2 c5).2 c4)⟩⟩) (h9.2 c6)⟩) (hR.2 c7)⟩
      · intro t li lj hR
        have hR : wbX12_critical_3 (wpX12_critical k) k t li lj Q := hR
        show wbX12_critical_3 (wpX12_critical k') k' t li lj Q'
        unfold wbX12_critical_3 at hR ⊢
        exact fun x12 e12 => ihk.2.2.1 _ _ _ (hR x12 e12)
theorem wmX12_critical {k k' : Nat} {t : XT} {a1 : Int32} {a2 : Int32} {Q Q' : Int32 → XT → Prop} (hk : k ≤ k') (hQ : (∀ (r : Int32) (t : XT), Q r t → Q' r t)) (hR : wqX12_critical k t a1 a2 Q) : wqX12_critical k' t a1 a2 Q' := (wnX12_critical Q Q' hQ k k' hk).1 _ _ _ hR
set_option maxHeartbeats 4000000 in
set_option maxRecDepth 100000 in
theorem wnX12_paths (Q Q' : Int64 → XT → Prop) (hQ : (∀ (r : Int64) (t : XT), Q r t → Q' r t)) : ∀ k k' : Nat, k ≤ k' → (∀ (t : XT) (li : Nat → Int32) (lj : Nat → Int64), wpX12_paths k 0 t li lj Q → wpX12_paths k' 0 t li lj Q') := by
  intro k
  induction k with
  | zero => intro k' _; exact fun _ _ _ hR => False.elim hR
  | succ k ih =>
    intro k' hk
    cases k' with
    | zero => exact absurd hk (Nat.not_succ_le_zero k)
    | succ k' =>
      have hk := Nat.le_of_succ_le_succ hk
      have ihk := ih k' hk
      intro t li lj hR
      have hR : wbX12_paths_0 (wpX12_paths k) k t li lj Q := hR
      show wbX12_paths_0 (wpX12_paths k') k' t li lj Q'
      unfold wbX12_paths_0 at hR ⊢
      exact wmX12_areEnds hk (fun y2_0 y2_1 h2 => ⟨fun c1 => hQ _ _ (h2.1 c1), fun c1 => wmX12_waysFrom hk (fun y3_0 y3_1 h3 => hQ _ _ h3) (h2.2 c1)⟩) hR
theorem wmX12_paths {k k' : Nat} {t : XT} {a1 : Int32} {a2 : Int32} {Q Q' : Int64 → XT → Prop} (hk : k ≤ k') (hQ : (∀ (r : Int64) (t : XT), Q r t → Q' r t)) (hR : wqX12_paths k t a1 a2 Q) : wqX12_paths k' t a1 a2 Q' := (wnX12_paths Q Q' hQ k k' hk) _ _ _ hR
set_option maxHeartbeats 4000000 in
set_option maxRecDepth 100000 in
theorem wnX12_path (Q Q' : Int32 → XT → Prop) (hQ : (∀ (r : Int32) (t : XT), Q r t → Q' r t)) : ∀ k k' : Nat, k ≤ k' → (∀ (t : XT) (li : Nat → Int32) (lj : Nat → Int64), wpX12_path k 0 t li lj Q → wpX12_path k' 0 t li lj Q') ∧ (∀ (t : XT) (li : Nat → Int32) (lj : Nat → Int64), wpX12_path k 1 t li lj Q → wpX12_path k' 1 t li lj Q') := by
  intro k
  induction k with
  | zero => intro k' _; exact ⟨fun _ _ _ hR => False.elim hR, fun _ _ _ hR => False.elim hR⟩
  | succ k ih =>
    intro k' hk
    cases k' with
    | zero => exact absurd hk (Nat.not_succ_le_zero k)
    | succ k' =>
      have hk := Nat.le_of_succ_le_succ hk
      have ihk := ih k' hk
      refine ⟨?_, ?_⟩
      · intro t li lj hR
        have hR : wbX12_path_0 (wpX12_path k) k t li lj Q := hR
        show wbX12_path_0 (wpX12_path k') k' t li lj Q'
        unfold wbX12_path_0 at hR ⊢
        exact wmX12_areEnds hk (fun y7_0 y7_1 h7 => ⟨fun c6 => ihk.2 _ _ _ (h7.1 c6), fun c6 => ⟨fun c5 => ihk.2 _ _ _ ((h7.2 c6).1 c5), fun c5 => ⟨fun c4 => fun x8 e8 => wmX12_laysPath hk (fun y9_0 y9_1 h9 => ⟨fun c3 => ⟨fun c2 => ⟨fun c1 => hQ _ _ (((h9.1 c3).1 c2).1 c1), fun c1 => ⟨(((h9.1 c3).1 c2).2 c1).1, fun x10 e10 => hQ _ _ ((((h9.1 c3).1 c2).2 c1).2 x10 e10)⟩⟩, fun c2 => hQ _ _ ((h9.1 c3).2 c2)⟩, fun c3 => hQ _ _ (h9.2 c3)⟩) ((((h7.2 c6).2 c5).1 c4) x8 e8), fun c4 => ihk.2 _ _ _ (((h7.2 c6).2 c5).2 c4)⟩⟩⟩) hR
      · intro t li lj hR
        have hR : wbX12_path_1 (wpX12_path k) k t li lj Q := hR
        show wbX12_path_1 (wpX12_path k') k' t li lj Q'
        unfold wbX12_path_1 at hR ⊢
        exact hQ _ _ hR
theorem wmX12_path {k k' : Nat} {t : XT} {a1 : Int32} {a2 : Int32} {a3 : Int32} {a4 : Int32} {Q Q' : Int32 → XT → Prop} (hk : k ≤ k') (hQ : (∀ (r : Int32) (t : XT), Q r t → Q' r t)) (hR : wqX12_path k t a1 a2 a3 a4 Q) : wqX12_path k' t a1 a2 a3 a4 Q' := (wnX12_path Q Q' hQ k k' hk).1 _ _ _ hR
set_option maxHeartbeats 4000000 in
set_option maxRecDepth 100000 in
theorem wnX12_incidenceOf (Q Q' : Int64 → XT → Prop) (hQ : (∀ (r : Int64) (t : XT), Q r t → Q' r t)) : ∀ k k' : Nat, k ≤ k' → (∀ (t : XT) (li : Nat → Int32) (lj : Nat → Int64), wpX12_incidenceOf k 0 t li lj Q → wpX12_incidenceOf k' 0 t li lj Q') ∧ (∀ (t : XT) (li : Nat → Int32) (lj : Nat → Int64), wpX12_incidenceOf k 1 t li lj Q → wpX12_incidenceOf k' 1 t li lj Q') ∧ (∀ (t : XT) (li : Nat → Int32) (lj : Nat → Int64), wpX12_incidenceOf k 2 t li lj Q → wpX12_incidenceOf k' 2 t li lj Q') := by
  intro k
  induction k with
  | zero => intro k' _; exact ⟨fun _ _ _ hR => False.elim hR, fun _ _ _ hR => False.elim hR, fun _ _ _ hR => False.elim hR⟩
  | succ k ih =>
    intro k' hk
    cases k' with
    | zero => exact absurd hk (Nat.not_succ_le_zero k)
    | succ k' =>
      have hk := Nat.le_of_succ_le_succ hk
      have ihk := ih k' hk
      refine ⟨?_, ?_, ?_⟩
      · intro t li lj hR
        have hR : wbX12_incidenceOf_0 (wpX12_incidenceOf k) k t li lj Q := hR
        show wbX12_incidenceOf_0 (wpX12_incidenceOf k') k' t li lj Q'
        unfold wbX12_incidenceOf_0 at hR ⊢
        exact wmX12_laysWays hk (fun y3_0 h3 => ihk.2.1 _ _ _ h3) hR
      · intro t li lj hR
        have hR : wbX12_incidenceOf_1 (wpX12_incidenceOf k) k t li lj Q := hR
        show wbX12_incidenceOf_1 (wpX12_incidenceOf k') k' t li lj Q'
        unfold wbX12_incidenceOf_1 at hR ⊢
        exact ⟨fun c2 => hQ _ _ (hR.1 c2), fun c2 => wmX12_isFaceThere hk (fun y4_0 y4_1 h4 => ⟨fun c1 => ihk.2.2 _ _ _ (h4.1 c1), fun c1 => wmX12_signOf hk (fun y5_0 y5_1 h5 => fun x6 e6 => ⟨(h5 x6 e6).1, fun x7 e7 => fun x8 e8 => ihk.2.2 _ _ _ (((h5 x6 e6).2 x7 e7) x8 e8)⟩) (h4.2 c1)⟩) (hR.2 c2)⟩
      · intro t li lj hR
        have hR : wbX12_incidenceOf_2 (wpX12_incidenceOf k) k t li lj Q := hR
        show wbX12_incidenceOf_2 (wpX12_incidenceOf k') k' t li lj Q'
        unfold wbX12_incidenceOf_2 at hR ⊢
        exact fun x9 e9 => fun x10 e10 => ihk.2.1 _ _ _ ((hR x9 e9) x10 e10)
theorem wmX12_incidenceOf {k k' : Nat} {t : XT} {a1 : Int32} {a2 : Int32} {Q Q' : Int64 → XT → Prop} (hk : k ≤ k') (hQ : (∀ (r : Int64) (t : XT), Q r t → Q' r t)) (hR : wqX12_incidenceOf k t a1 a2 Q) : wqX12_incidenceOf k' t a1 a2 Q' := (wnX12_incidenceOf Q Q' hQ k k' hk).1 _ _ _ hR
set_option maxHeartbeats 4000000 in
set_option maxRecDepth 100000 in
theorem wnX12_incidence (Q Q' : Int64 → XT → Prop) (hQ : (∀ (r : Int64) (t : XT), Q r t → Q' r t)) : ∀ k k' : Nat, k ≤ k' → (∀ (t : XT) (li : Nat → Int32) (lj : Nat → Int64), wpX12_incidence k 0 t li lj Q → wpX12_incidence k' 0 t li lj Q') := by
  intro k
  induction k with
  | zero => intro k' _; exact fun _ _ _ hR => False.elim hR
  | succ k ih =>
    intro k' hk
    cases k' with
    | zero => exact absurd hk (Nat.not_succ_le_zero k)
    | succ k' =>
      have hk := Nat.le_of_succ_le_succ hk
      have ihk := ih k' hk
      intro t li lj hR
      have hR : wbX12_incidence_0 (wpX12_incidence k) k t li lj Q := hR
      show wbX12_incidence_0 (wpX12_incidence k') k' t li lj Q'
      unfold wbX12_incidence_0 at hR ⊢
      exact wmX12_areEnds hk (fun y2_0 y2_1 h2 => ⟨fun c1 => hQ _ _ (h2.1 c1), fun c1 => wmX12_incidenceOf hk (fun y3_0 y3_1 h3 => hQ _ _ h3) (h2.2 c1)⟩) hR
theorem wmX12_incidence {k k' : Nat} {t : XT} {a1 : Int32} {a2 : Int32} {Q Q' : Int64 → XT → Prop} (hk : k ≤ k') (hQ : (∀ (r : Int64) (t : XT), Q r t → Q' r t)) (hR : wqX12_incidence k t a1 a2 Q) : wqX12_incidence k' t a1 a2 Q' := (wnX12_incidence Q Q' hQ k k' hk) _ _ _ hR
set_option maxHeartbeats 4000000 in
set_option maxRecDepth 100000 in
theorem wnX12_laysLink (Q Q' : Int32 → XT → Prop) (hQ : (∀ (r : Int32) (t : XT), Q r t → Q' r t)) : ∀ k k' : Nat, k ≤ k' → (∀ (t : XT) (li : Nat → Int32) (lj : Nat → Int64), wpX12_laysLink k 0 t li lj Q → wpX12_laysLink k' 0 t li lj Q') ∧ (∀ (t : XT) (li : Nat → Int32) (lj : Nat → Int64), wpX12_laysLink k 1 t li lj Q → wpX12_laysLink k' 1 t li lj Q') ∧ (∀ (t : XT) (li : Nat → Int32) (lj : Nat → Int64), wpX12_laysLink k 2 t li lj Q → wpX12_laysLink k' 2 t li lj Q') := by
  intro k
  induction k with
  | zero => intro k' _; exact ⟨fun _ _ _ hR => False.elim hR, fun _ _ _ hR => False.elim hR, fun _ _ _ hR => False.elim hR⟩
  | succ k ih =>
    intro k' hk
    cases k' with
    | zero => exact absurd hk (Nat.not_succ_le_zero k)
    | succ k' =>
      have hk := Nat.le_of_succ_le_succ hk
      have ihk := ih k' hk
      refine ⟨?_, ?_, ?_⟩
      · intro t li lj hR
        have hR : wbX12_laysLink_0 (wpX12_laysLink k) k t li lj Q := hR
        show wbX12_laysLink_0 (wpX12_laysLink k') k' t li lj Q'
        unfold wbX12_laysLink_0 at hR ⊢
        exact ⟨hR.1, fun x5 e5 => ihk.2.1 _ _ _ (hR.2 x5 e5)⟩
      · intro t li lj hR
        have hR : wbX12_laysLink_1 (wpX12_laysLink k) k t li lj Q := hR
        show wbX12_laysLink_1 (wpX12_laysLink k') k' t li lj Q'
        unfold wbX12_laysLink_1 at hR ⊢
        exact ⟨fun c4 => wmX12_signOf hk (fun y6_0 y6_1 h6 => fun x7 e7 => fun x8 e8 => fun x9 e9 => ⟨(((h6 x7 e7) x8 e8) x9 e9).1, fun x10 e10 => hQ _ _ ((((h6 x7 e7) x8 e8) x9 e9).2 x10 e10)⟩) (hR.1 c4), fun c4 => ⟨fun c3 => ihk.2.2 _ _ _ ((hR.2 c4).1 c3), fun c3 => wmX12_isFaceThere hk (fun y11_0 y11_1 h11 => ⟨fun c2 => ⟨(h11.1 c2).1, fun x12 e12 => fun x13 e13 => ⟨fun c1 => wmX12_signOf hk (fun y14_0 y14_1 h14 => fun x15 e15 => ⟨(h14 x15 e15).1, fun x16 e16 => fun x17 e17 => fun x18 e18 => ihk.2.2 _ _ _ ((((h14 x15 e15).2 x16 e16) x17 e17) x18 e18)⟩) ((((h11.1 c2).2 x12 e12) x13 e13).1 c1), fun c1 => hQ _ _ ((((h11.1 c2).2 x12 e12) x13 e13).2 c1)⟩⟩, fun c2 => ihk.2.2 _ _ _ (h11.2 c2)⟩) ((hR.2 c4).2 c3)⟩⟩
      · intro t li lj hR
        have hR : wbX12_laysLink_2 (wpX12_laysLink k) k t li lj Q := hR
        show wbX12_laysLink_2 (wpX12_laysLink k') k' t li lj Q'
        unfold wbX12_laysLink_2 at hR ⊢
        exact fun x19 e19 => ihk.2.1 _ _ _ (hR x19 e19)
theorem wmX12_laysLink {k k' : Nat} {t : XT} {a1 : Int32} {Q Q' : Int32 → XT → Prop} (hk : k ≤ k') (hQ : (∀ (r : Int32) (t : XT), Q r t → Q' r t)) (hR : wqX12_laysLink k t a1 Q) : wqX12_laysLink k' t a1 Q' := (wnX12_laysLink Q Q' hQ k k' hk).1 _ _ _ hR
set_option maxHeartbeats 4000000 in
set_option maxRecDepth 100000 in
theorem wnX12_chain (Q Q' : Int64 → XT → Prop) (hQ : (∀ (r : Int64) (t : XT), Q r t → Q' r t)) : ∀ k k' : Nat, k ≤ k' → (∀ (t : XT) (li : Nat → Int32) (lj : Nat → Int64), wpX12_chain k 0 t li lj Q → wpX12_chain k' 0 t li lj Q') ∧ (∀ (t : XT) (li : Nat → Int32) (lj : Nat → Int64), wpX12_chain k 1 t li lj Q → wpX12_chain k' 1 t li lj Q') ∧ (∀ (t : XT) (li : Nat → Int32) (lj : Nat → Int64), wpX12_chain k 2 t li lj Q → wpX12_chain k' 2 t li lj Q') ∧ (∀ (t : XT) (li : Nat → Int32) (lj : Nat → Int64), wpX12_chain k 3 t li lj Q → wpX12_chain k' 3 t li lj Q') ∧ (∀ (t : XT) (li : Nat → Int32) (lj : Nat → Int64), wpX12_chain k 4 t li lj Q → wpX12_chain k' 4 t li lj Q') ∧ (∀ (t : XT) (li : Nat → Int32) (lj : Nat → Int64), wpX12_chain k 5 t li lj Q → wpX12_chain k' 5 t li lj Q') ∧ (∀ (t : XT) (li : Nat → Int32) (lj : Nat → Int64), wpX12_chain k 6 t li lj Q → wpX12_chain k' 6 t li lj Q') ∧ (∀ (t : XT) (li : Nat → Int32) (lj : Nat → Int64), wpX12_chain k 7 t li lj Q → wpX12_chain k' 7 t li lj Q') ∧ (∀ (t : XT) (li : Nat → Int32) (lj : Nat → Int64), wpX12_chain k 8 t li lj Q → wpX12_chain k' 8 t li lj Q') ∧ (∀ (t : XT) (li : Nat → Int32) (lj : Nat → Int64), wpX12_chain k 9 t li lj Q → wpX12_chain k' 9 t li lj Q') ∧ (∀ (t : XT) (li : Nat → Int32) (lj : Nat → Int64), wpX12_chain k 10 t li lj Q → wpX12_chain k' 10 t li lj Q') ∧ (∀ (t : XT) (li : Nat → Int32) (lj : Nat → Int64), wpX12_chain k 11 t li lj Q → wpX12_chain k' 11 t li lj Q') := by
  intro k
  induction k with
  | zero => intro k' _; exact ⟨fun _ _ _ hR => False.elim hR, fun _ _ _ hR => False.elim hR, fun _ _ _ hR => False.elim hR, fun _ _ _ hR => False.elim hR, fun _ _ _ hR => False.elim hR, fun _ _ _ hR => False.elim hR, fun _ _ _ hR => False.elim hR, fun _ _ _ hR => False.elim hR, fun _ _ _ hR => False.elim hR, fun _ _ _ hR => False.elim hR, fun _ _ _ hR => False.elim hR, fun _ _ _ hR => False.elim hR⟩
  | succ k ih =>
    intro k' hk
    cases k' with
    | zero => exact absurd hk (Nat.not_succ_le_zero k)
    | succ k' =>
      have hk := Nat.le_of_succ_le_succ hk
      have ihk := ih k' hk
      refine ⟨?_, ?_, ?_, ?_, ?_, ?_, ?_, ?_, ?_, ?_, ?_, ?_⟩
      · intro t li lj hR
        have hR : wbX12_chain_0 (wpX12_chain k) k t li lj Q := hR
        show wbX12_chain_0 (wpX12_chain k') k' t li lj Q'
        unfold wbX12_chain_0 at hR ⊢
        exact wmX12_isCritical hk (fun y16_0 y16_1 h16 => ⟨fun c3 => ihk.2.1 _ _ _ (h16.1 c3), fun c3 => wmX12_isThere hk (fun y17_0 y17_1 h17 => ⟨fun c2 => ihk.2.1 _ _ _ (h17.1 c2), fun c2 => wmX12_dimOf hk (fun y18_0 y18_1 h18 => wmX12_dimOf hk (fun y19_0 y19_1 h19 => ⟨fun c1 => ihk.2.2.1 _ _ _ (h19.1 c1), fun c1 => ihk.2.1 _ _ _ (h19.2 c1)⟩) h18) (h17.2 c2)⟩) (h16.2 c3)⟩) hR
      · intro t li lj hR
        have hR : wbX12_chain_1 (wpX12_chain k) k t li lj Q := hR
        show wbX12_chain_1 (wpX12_chain k') k' t li lj Q'
        unfold wbX12_chain_1 at hR ⊢
        exact hQ _ _ hR
      · intro t li lj hR
        have hR : wbX12_chain_2 (wpX12_chain k) k t li lj Q := hR
        show wbX12_chain_2 (wpX12_chain k') k' t li lj Q'
        unfold wbX12_chain_2 at hR ⊢
        exact ⟨fun c8 => ihk.2.2.2.2.2.2.2.1 _ _ _ (hR.1 c8), fun c8 => wmX12_isThere hk (fun y20_0 y20_1 h20 => ⟨fun c7 => ihk.2.2.2.1 _ _ _ (h20.1 c7), fun c7 => ⟨(h20.2 c7).1, fun x21 e21 => ⟨fun c6 => ihk.2.2.2.1 _ _ _ (((h20.2 c7).2 x21 e21).1 c6), fun c6 => wmX12_isLower hk (fun y22_0 y22_1 h22 => ⟨fun c5 => ihk.2.2.2.1 _ _ _ (h22.1 c5), fun c5 => wmX12_dimOf hk (fun y23_0 y23_1 h23 => wmX12_dimOf hk (fun y24_0 y24_1 h24 => ⟨fun c4 => ihk.2.2.2.1 _ _ _ (h24.1 c4), fun c4 => ihk.2.2.2.2.1 _ _ _ (h24.2 c4)⟩) h23) (h22.2 c5)⟩) (((h20.2 c7).2 x21 e21).2 c6)⟩⟩⟩) (hR.2 c8)⟩
      · intro t li lj hR
        have hR : wbX12_chain_3 (wpX12_chain k) k t li lj Q := hR
        show wbX12_chain_3 (wpX12_chain k') k' t li lj Q'
        unfold wbX12_chain_3 at hR ⊢
        exact ihk.2.2.2.2.1 _ _ _ hR
      · intro t li lj hR
        have hR : wbX12_chain_4 (wpX12_chain k) k t li lj Q := hR
        show wbX12_chain_4 (wpX12_chain k') k' t li lj Q'
        unfold wbX12_chain_4 at hR ⊢
        exact ⟨fun c10 => ⟨fun c9 => ihk.2.2.2.2.2.1 _ _ _ ((hR.1 c10).1 c9), fun c9 => ihk.2.2.2.2.2.1 _ _ _ ((hR.1 c10).2 c9)⟩, fun c10 => ihk.2.2.2.2.2.2.1 _ _ _ (hR.2 c10)⟩
      · intro t li lj hR
        have hR : wbX12_chain_5 (wpX12_chain k) k t li lj Q := hR
        show wbX12_chain_5 (wpX12_chain k') k' t li lj Q'
        unfold wbX12_chain_5 at hR ⊢
        exact wmX12_truth hk (fun y25_0 h25 => fun x26 e26 => ihk.2.2.2.2.2.2.1 _ _ _ (h25 x26 e26)) hR
      · intro t li lj hR
        have hR : wbX12_chain_6 (wpX12_chain k) k t li lj Q := hR
        show wbX12_chain_6 (wpX12_chain k') k' t li lj Q'
        unfold wbX12_chain_6 at hR ⊢
        exact ⟨hR.1, fun x27 e27 => fun x28 e28 => ihk.2.2.1 _ _ _ ((hR.2 x27 e27) x28 e28)⟩
      · intro t li lj hR
        have hR : wbX12_chain_7 (wpX12_chain k) k t li lj Q := hR
        show wbX12_chain_7 (wpX12_chain k') k' t li lj Q'
        unfold wbX12_chain_7 at hR ⊢
        exact ⟨fun c11 => ⟨(hR.1 c11).1, fun x29 e29 => hQ _ _ ((hR.1 c11).2 x29 e29)⟩, fun c11 => ihk.2.2.2.2.2.2.2.2.1 _ _ _ (hR.2 c11)⟩
      · intro t li lj hR
        have hR : wbX12_chain_8 (wpX12_chain k) k t li lj Q := hR
        show wbX12_chain_8 (wpX12_chain k') k' t li lj Q'
        unfold wbX12_chain_8 at hR ⊢
        exact ⟨fun c15 => ihk.2.2.2.2.2.2.2.1 _ _ _ (hR.1 c15), fun c15 => ⟨(hR.2 c15).1, fun x30 e30 => fun x31 e31 => ⟨fun c14 => ihk.2.2.2.2.2.2.2.2.2.2.2 _ _ _ ((((hR.2 c15).2 x30 e30) x31 e31).1 c14), fun c14 => wmX12_laysLink hk (fun y32_0 y32_1 h32 => ⟨fun c13 => ihk.2.2.2.2.2.2.2.2.2.1 _ _ _ (h32.1 c13), fun c13 => ⟨fun c12 => ihk.2.2.2.2.2.2.2.2.2.2.1 _ _ _ ((h32.2 c13).1 c12), fun c12 => ihk.2.2.2.2.2.2.2.2.2.1 _ _ _ ((h32.2 c13).2 c12)⟩⟩) ((((hR.2 c15).2 x30 e30) x31 e31).2 c14)⟩⟩⟩
      · intro t li lj hR
        have hR : wbX12_chain_9 (wpX12_chain k) k t li lj Q := hR
        show wbX12_chain_9 (wpX12_chain k') k' t li lj Q'
        unfold wbX12_chain_9 at hR ⊢
        exact ihk.2.2.2.2.2.2.2.2.2.2.1 _ _ _ hR
      · intro t li lj hR
        have hR : wbX12_chain_10 (wpX12_chain k) k t li lj Q := hR
        show wbX12_chain_10 (wpX12_chain k') k' t li lj Q'
        unfold wbX12_chain_10 at hR ⊢
        exact ihk.2.2.2.2.2.2.2.2.2.2.2 _ _ _ hR
      · intro t li lj hR
        have hR : wbX12_chain_11 (wpX12_chain k) k t li lj Q := hR
        show wbX12_chain_11 (wpX12_chain k') k' t li lj Q'
        unfold wbX12_chain_11 at hR ⊢
        exact fun x33 e33 => ihk.2.2.2.2.2.2.2.2.1 _ _ _ (hR x33 e33)
theorem wmX12_chain {k k' : Nat} {t : XT} {a1 : Int32} {a2 : Int32} {Q Q' : Int64 → XT → Prop} (hk : k ≤ k') (hQ : (∀ (r : Int64) (t : XT), Q r t → Q' r t)) (hR : wqX12_chain k t a1 a2 Q) : wqX12_chain k' t a1 a2 Q' := (wnX12_chain Q Q' hQ k k' hk).1 _ _ _ hR
set_option maxHeartbeats 4000000 in
set_option maxRecDepth 100000 in
theorem wnX12_root (Q Q' : Int32 → XT → Prop) (hQ : (∀ (r : Int32) (t : XT), Q r t → Q' r t)) : ∀ k k' : Nat, k ≤ k' → (∀ (t : XT) (li : Nat → Int32) (lj : Nat → Int64), wpX12_root k 0 t li lj Q → wpX12_root k' 0 t li lj Q') ∧ (∀ (t : XT) (li : Nat → Int32) (lj : Nat → Int64), wpX12_root k 1 t li lj Q → wpX12_root k' 1 t li lj Q') ∧ (∀ (t : XT) (li : Nat → Int32) (lj : Nat → Int64), wpX12_root k 2 t li lj Q → wpX12_root k' 2 t li lj Q') := by
  intro k
  induction k with
  | zero => intro k' _; exact ⟨fun _ _ _ hR => False.elim hR, fun _ _ _ hR => False.elim hR, fun _ _ _ hR => False.elim hR⟩
  | succ k ih =>
    intro k' hk
    cases k' with
    | zero => exact absurd hk (Nat.not_succ_le_zero k)
    | succ k' =>
      have hk := Nat.le_of_succ_le_succ hk
      have ihk := ih k' hk
      refine ⟨?_, ?_, ?_⟩
      · intro t li lj hR
        have hR : wbX12_root_0 (wpX12_root k) k t li lj Q := hR
        show wbX12_root_0 (wpX12_root k') k' t li lj Q'
        unfold wbX12_root_0 at hR ⊢
        exact wmX12_isThere hk (fun y6_0 y6_1 h6 => ⟨fun c3 => ihk.2.1 _ _ _ (h6.1 c3), fun c3 => wmX12_dimOf hk (fun y7_0 y7_1 h7 => ⟨fun c2 => ihk.2.1 _ _ _ (h7.1 c2), fun c2 => wmX12_in hk (fun y8_0 h8 => ⟨fun c1 => ihk.2.2 _ _ _ (h8.1 c1), fun c1 => ihk.2.1 _ _ _ (h8.2 c1)⟩) (h7.2 c2)⟩) (h6.2 c3)⟩) hR
      · intro t li lj hR
        have hR : wbX12_root_1 (wpX12_root k) k t li lj Q := hR
        show wbX12_root_1 (wpX12_root k') k' t li lj Q'
        unfold wbX12_root_1 at hR ⊢
        exact hQ _ _ hR
      · intro t li lj hR
        have hR : wbX12_root_2 (wpX12_root k) k t li lj Q := hR
        show wbX12_root_2 (wpX12_root k') k' t li lj Q'
        unfold wbX12_root_2 at hR ⊢
        exact ⟨hR.1, fun x9 e9 => ⟨fun c5 => ⟨fun c4 => hQ _ _ (((hR.2 x9 e9).1 c5).1 c4), fun c4 => hQ _ _ (((hR.2 x9 e9).1 c5).2 c4)⟩, fun c5 => ⟨((hR.2 x9 e9).2 c5).1, fun x10 e10 => ⟨(((hR.2 x9 e9).2 c5).2 x10 e10).1, fun x11 e11 => ⟨((((hR.2 x9 e9).2 c5).2 x10 e10).2 x11 e11).1, fun x12 e12 => fun x13 e13 => fun x14 e14 => ⟨(((((((hR.2 x9 e9).2 c5).2 x10 e10).2 x11 e11).2 x12 e12) x13 e13) x14 e14).1, fun x15 e15 => fun x16 e16 => ihk.2.2 _ _ _ (((((((((hR.2 x9 e9).2 c5).2 x10 e10).2 x11 e11).2 x12 e12) x13 e13) x14 e14).2 x15 e15) x16 e16)⟩⟩⟩⟩⟩⟩
theorem wmX12_root {k k' : Nat} {t : XT} {a1 : Int32} {a2 : Int32} {Q Q' : Int32 → XT → Prop} (hk : k ≤ k') (hQ : (∀ (r : Int32) (t : XT), Q r t → Q' r t)) (hR : wqX12_root k t a1 a2 Q) : wqX12_root k' t a1 a2 Q' := (wnX12_root Q Q' hQ k k' hk).1 _ _ _ hR
set_option maxHeartbeats 4000000 in
set_option maxRecDepth 100000 in
theorem wnX12_laysReach (Q Q' : Int32 → XT → Prop) (hQ : (∀ (r : Int32) (t : XT), Q r t → Q' r t)) : ∀ k k' : Nat, k ≤ k' → (∀ (t : XT) (li : Nat → Int32) (lj : Nat → Int64), wpX12_laysReach k 0 t li lj Q → wpX12_laysReach k' 0 t li lj Q') ∧ (∀ (t : XT) (li : Nat → Int32) (lj : Nat → Int64), wpX12_laysReach k 1 t li lj Q → wpX12_laysReach k' 1 t li lj Q') ∧ (∀ (t : XT) (li : Nat → Int32) (lj : Nat → Int64), wpX12_laysReach k 2 t li lj Q → wpX12_laysReach k' 2 t li lj Q') := by
  intro k
  induction k with
  | zero => intro k' _; exact ⟨fun _ _ _ hR => False.elim hR, fun _ _ _ hR => False.elim hR, fun _ _ _ hR => False.elim hR⟩
  | succ k ih =>
    intro k' hk
    cases k' with
    | zero => exact absurd hk (Nat.not_succ_le_zero k)
    | succ k' =>
      have hk := Nat.le_of_succ_le_succ hk
      have ihk := ih k' hk
      refine ⟨?_, ?_, ?_⟩
      · intro t li lj hR
        have hR : wbX12_laysReach_0 (wpX12_laysReach k) k t li lj Q := hR
        show wbX12_laysReach_0 (wpX12_laysReach k') k' t li lj Q'
        unfold wbX12_laysReach_0 at hR ⊢
        exact wmX12_isFaceThere hk (fun y8_0 y8_1 h8 => wmX12_truth hk (fun y9_0 h9 => fun x10 e10 => ihk.2.1 _ _ _ (h9 x10 e10)) h8) hR
      · intro t li lj hR
        have hR : wbX12_laysReach_1 (wpX12_laysReach k) k t li lj Q := hR
        show wbX12_laysReach_1 (wpX12_laysReach k') k' t li lj Q'
        unfold wbX12_laysReach_1 at hR ⊢
        exact ⟨fun c7 => ⟨(hR.1 c7).1, fun x11 e11 => hQ _ _ ((hR.1 c7).2 x11 e11)⟩, fun c7 => ⟨fun c6 => ihk.2.2 _ _ _ ((hR.2 c7).1 c6), fun c6 => wmX12_isThere hk (fun y12_0 y12_1 h12 => ⟨fun c5 => ihk.2.2 _ _ _ (h12.1 c5), fun c5 => wmX12_isLower hk (fun y13_0 y13_1 h13 => ⟨fun c4 => ihk.2.2 _ _ _ (h13.1 c4), fun c4 => wmX12_dimOf hk (fun y14_0 y14_1 h14 => wmX12_dimOf hk (fun y15_0 y15_1 h15 => ⟨fun c3 => ihk.2.2 _ _ _ (h15.1 c3), fun c3 => ⟨(h15.2 c3).1, fun x16 e16 => wmX12_isFaceThere hk (fun y17_0 y17_1 h17 => ⟨fun c2 => ⟨(h17.1 c2).1, fun x18 e18 => fun x19 e19 => ⟨fun c1 => ⟨((((h17.1 c2).2 x18 e18) x19 e19).1 c1).1, fun x20 e20 => fun x21 e21 => ihk.2.2 _ _ _ ((((((h17.1 c2).2 x18 e18) x19 e19).1 c1).2 x20 e20) x21 e21)⟩, fun c1 => hQ _ _ ((((h17.1 c2).2 x18 e18) x19 e19).2 c1)⟩⟩, fun c2 => ihk.2.2 _ _ _ (h17.2 c2)⟩) ((h15.2 c3).2 x16 e16)⟩⟩) h14) (h13.2 c4)⟩) (h12.2 c5)⟩) ((hR.2 c7).2 c6)⟩⟩
      · intro t li lj hR
        have hR : wbX12_laysReach_2 (wpX12_laysReach k) k t li lj Q := hR
        show wbX12_laysReach_2 (wpX12_laysReach k') k' t li lj Q'
        unfold wbX12_laysReach_2 at hR ⊢
        exact fun x22 e22 => ihk.2.1 _ _ _ (hR x22 e22)
theorem wmX12_laysReach {k k' : Nat} {t : XT} {a1 : Int32} {a2 : Int32} {Q Q' : Int32 → XT → Prop} (hk : k ≤ k') (hQ : (∀ (r : Int32) (t : XT), Q r t → Q' r t)) (hR : wqX12_laysReach k t a1 a2 Q) : wqX12_laysReach k' t a1 a2 Q' := (wnX12_laysReach Q Q' hQ k k' hk).1 _ _ _ hR
set_option maxHeartbeats 4000000 in
set_option maxRecDepth 100000 in
theorem wnX12_through (Q Q' : Int64 → XT → Prop) (hQ : (∀ (r : Int64) (t : XT), Q r t → Q' r t)) : ∀ k k' : Nat, k ≤ k' → (∀ (t : XT) (li : Nat → Int32) (lj : Nat → Int64), wpX12_through k 0 t li lj Q → wpX12_through k' 0 t li lj Q') ∧ (∀ (t : XT) (li : Nat → Int32) (lj : Nat → Int64), wpX12_through k 1 t li lj Q → wpX12_through k' 1 t li lj Q') ∧ (∀ (t : XT) (li : Nat → Int32) (lj : Nat → Int64), wpX12_through k 2 t li lj Q → wpX12_through k' 2 t li lj Q') ∧ (∀ (t : XT) (li : Nat → Int32) (lj : Nat → Int64), wpX12_through k 3 t li lj Q → wpX12_through k' 3 t li lj Q') ∧ (∀ (t : XT) (li : Nat → Int32) (lj : Nat → Int64), wpX12_through k 4 t li lj Q → wpX12_through k' 4 t li lj Q') ∧ (∀ (t : XT) (li : Nat → Int32) (lj : Nat → Int64), wpX12_through k 5 t li lj Q → wpX12_through k' 5 t li lj Q') ∧ (∀ (t : XT) (li : Nat → Int32) (lj : Nat → Int64), wpX12_through k 6 t li lj Q → wpX12_through k' 6 t li lj Q') ∧ (∀ (t : XT) (li : Nat → Int32) (lj : Nat → Int64), wpX12_through k 7 t li lj Q → wpX12_through k' 7 t li lj Q') ∧ (∀ (t : XT) (li : Nat → Int32) (lj : Nat → Int64), wpX12_through k 8 t li lj Q → wpX12_through k' 8 t li lj Q') := by
  intro k
  induction k with
  | zero => intro k' _; exact ⟨fun _ _ _ hR => False.elim hR, fun _ _ _ hR => False.elim hR, fun _ _ _ hR => False.elim hR, fun _ _ _ hR => False.elim hR, fun _ _ _ hR => False.elim hR, fun _ _ _ hR => False.elim hR, fun _ _ _ hR => False.elim hR, fun _ _ _ hR => False.elim hR, fun _ _ _ hR => False.elim hR⟩
  | succ k ih =>
    intro k' hk
    cases k' with
    | zero => exact absurd hk (Nat.not_succ_le_zero k)
    | succ k' =>
      have hk := Nat.le_of_succ_le_succ hk
      have ihk := ih k' hk
      refine ⟨?_, ?_, ?_, ?_, ?_, ?_, ?_, ?_, ?_⟩
      · intro t li lj hR
        have hR : wbX12_through_0 (wpX12_through k) k t li lj Q := hR
        show wbX12_through_0 (wpX12_through k') k' t li lj Q'
        unfold wbX12_through_0 at hR ⊢
        exact wmX12_areEnds hk (fun y15_0 y15_1 h15 => ⟨fun c5 => ihk.2.1 _ _ _ (h15.1 c5), fun c5 => wmX12_isThere hk (fun y16_0 y16_1 h16 => ⟨fun c4 => wmX12_waysFrom hk (fun y17_0 y17_1 h17 => ⟨fun c3 => ihk.2.2.1 _ _ _ (h17.1 c3), fun c3 => ⟨fun c2 => wmX12_dimOf hk (fun y18_0 y18_1 h18 => wmX12_dimOf hk (fun y19_0 y19_1 h19 => ⟨fun c1 => ⟨(h19.1 c1).1, fun x20 e20 => ihk.2.2.2.1 _ _ _ ((h19.1 c1).2 x20 e20)⟩, fun c1 => ihk.2.2.2.1 _ _ _ (h19.2 c1)⟩) h18) ((h17.2 c3).1 c2), fun c2 => ihk.2.2.1 _ _ _ ((h17.2 c3).2 c2)⟩⟩) (h16.1 c4), fun c4 => ihk.2.1 _ _ _ (h16.2 c4)⟩) (h15.2 c5)⟩) hR
      · intro t li lj hR
        have hR : wbX12_through_1 (wpX12_through k) k t li lj Q := hR
        show wbX12_through_1 (wpX12_through k') k' t li lj Q'
        unfold wbX12_through_1 at hR ⊢
        exact hQ _ _ hR
      · intro t li lj hR
        have hR : wbX12_through_2 (wpX12_through k) k t li lj Q := hR
        show wbX12_through_2 (wpX12_through k') k' t li lj Q'
        unfold wbX12_through_2 at hR ⊢
        exact hQ _ _ hR
      · intro t li lj hR
        have hR : wbX12_through_3 (wpX12_through k) k t li lj Q := hR
        show wbX12_through_3 (wpX12_through k') k' t li lj Q'
        unfold wbX12_through_3 at hR ⊢
        exact ⟨fun c8 => ihk.2.2.2.2.1 _ _ _ (hR.1 c8), fun c8 => wmX12_dimOf hk (fun y21_0 y21_1 h21 => wmX12_dimOf hk (fun y22_0 y22_1 h22 => ⟨fun c7 => ihk.2.2.2.2.1 _ _ _ (h22.1 c7), fun c7 => wmX12_isLower hk (fun y23_0 y23_1 h23 => ⟨fun c6 => ihk.2.2.2.2.2.1 _ _ _ (h23.1 c6), fun c6 => ihk.2.2.2.2.1 _ _ _ (h23.2 c6)⟩) (h22.2 c7)⟩) h21) (hR.2 c8)⟩
      · intro t li lj hR
        have hR : wbX12_through_4 (wpX12_through k) k t li lj Q := hR
        show wbX12_through_4 (wpX12_through k') k' t li lj Q'
        unfold wbX12_through_4 at hR ⊢
        exact hQ _ _ hR
      · intro t li lj hR
        have hR : wbX12_through_5 (wpX12_through k) k t li lj Q := hR
        show wbX12_through_5 (wpX12_through k') k' t li lj Q'
        unfold wbX12_through_5 at hR ⊢
        exact ⟨fun c9 => ihk.2.2.2.2.2.2.1 _ _ _ (hR.1 c9), fun c9 => ⟨(hR.2 c9).1, fun x24 e24 => fun x25 e25 => ihk.2.2.2.2.2.1 _ _ _ (((hR.2 c9).2 x24 e24) x25 e25)⟩⟩
      · intro t li lj hR
        have hR : wbX12_through_6 (wpX12_through k) k t li lj Q := hR
        show wbX12_through_6 (wpX12_through k') k' t li lj Q'
        unfold wbX12_through_6 at hR ⊢
        exact ⟨hR.1, fun x26 e26 => fun x27 e27 => ⟨fun c10 => ⟨(((hR.2 x26 e26) x27 e27).1 c10).1, fun x28 e28 => ⟨((((hR.2 x26 e26) x27 e27).1 c10).2 x28 e28).1, fun x29 e29 => fun x30 e30 => hQ _ _ ((((((hR.2 x26 e26) x27 e27).1 c10).2 x28 e28).2 x29 e29) x30 e30)⟩⟩, fun c10 => ihk.2.2.2.2.2.2.2.1 _ _ _ (((hR.2 x26 e26) x27 e27).2 c10)⟩⟩
      · intro t li lj hR
        have hR : wbX12_through_7 (wpX12_through k) k t li lj Q := hR
        show wbX12_through_7 (wpX12_through k') k' t li lj Q'
        unfold wbX12_through_7 at hR ⊢
        exact ⟨fun c14 => ihk.2.2.2.2.2.2.1 _ _ _ (hR.1 c14), fun c14 => ⟨(hR.2 c14).1, fun x31 e31 => fun x32 e32 => ⟨fun c13 => ihk.2.2.2.2.2.2.2.2 _ _ _ ((((hR.2 c14).2 x31 e31) x32 e32).1 c13), fun c13 => wmX12_isThere hk (fun y33_0 y33_1 h33 => ⟨fun c12 => ihk.2.2.2.2.2.2.2.2 _ _ _ (h33.1 c12), fun c12 => wmX12_dimOf hk (fun y34_0 y34_1 h34 => wmX12_dimOf hk (fun y35_0 y35_1 h35 => ⟨fun c11 => ihk.2.2.2.2.2.2.2.2 _ _ _ (h35.1 c11), fun c11 => wmX12_laysReach hk (fun y36_0 y36_1 h36 => ihk.2.2.2.2.2.2.2.2 _ _ _ h36) (h35.2 c11)⟩) h34) (h33.2 c12)⟩) ((((hR.2 c14).2 x31 e31) x32 e32).2 c13)⟩⟩⟩
      · intro t li lj hR
        have hR : wbX12_through_8 (wpX12_through k) k t li lj Q := hR
        show wbX12_through_8 (wpX12_through k') k' t li lj Q'
        unfold wbX12_through_8 at hR ⊢
        exact fun x37 e37 => ihk.2.2.2.2.2.2.2.1 _ _ _ (hR x37 e37)
theorem wmX12_through {k k' : Nat} {t : XT} {a1 : Int32} {a2 : Int32} {a3 : Int32} {Q Q' : Int64 → XT → Prop} (hk : k ≤ k') (hQ : (∀ (r : Int64) (t : XT), Q r t → Q' r t)) (hR : wqX12_through k t a1 a2 a3 Q) : wqX12_through k' t a1 a2 a3 Q' := (wnX12_through Q Q' hQ k k' hk).1 _ _ _ hR
set_option maxHeartbeats 4000000 in
set_option maxRecDepth 100000 in
theorem wnX12_squareOf (Q Q' : Int64 → XT → Prop) (hQ : (∀ (r : Int64) (t : XT), Q r t → Q' r t)) : ∀ k k' : Nat, k ≤ k' → (∀ (t : XT) (li : Nat → Int32) (lj : Nat → Int64), wpX12_squareOf k 0 t li lj Q → wpX12_squareOf k' 0 t li lj Q') ∧ (∀ (t : XT) (li : Nat → Int32) (lj : Nat → Int64), wpX12_squareOf k 1 t li lj Q → wpX12_squareOf k' 1 t li lj Q') ∧ (∀ (t : XT) (li : Nat → Int32) (lj : Nat → Int64), wpX12_squareOf k 2 t li lj Q → wpX12_squareOf k' 2 t li lj Q') := by
  intro k
  induction k with
  | zero => intro k' _; exact ⟨fun _ _ _ hR => False.elim hR, fun _ _ _ hR => False.elim hR, fun _ _ _ hR => False.elim hR⟩
  | succ k ih =>
    intro k' hk
    cases k' with
    | zero => exact absurd hk (Nat.not_succ_le_zero k)
    | succ k' =>
      have hk := Nat.le_of_succ_le_succ hk
      have ihk := ih k' hk
      refine ⟨?_, ?_, ?_⟩
      · intro t li lj hR
        have hR : wbX12_squareOf_0 (wpX12_squareOf k) k t li lj Q := hR
        show wbX12_squareOf_0 (wpX12_squareOf k') k' t li lj Q'
        unfold wbX12_squareOf_0 at hR ⊢
        exact ihk.2.1 _ _ _ hR
      · intro t li lj hR
        have hR : wbX12_squareOf_1 (wpX12_squareOf k) k t li lj Q := hR
        show wbX12_squareOf_1 (wpX12_squareOf k') k' t li lj Q'
        unfold wbX12_squareOf_1 at hR ⊢
        exact ⟨fun c3 => hQ _ _ (hR.1 c3), fun c3 => wmX12_areEnds hk (fun y4_0 y4_1 h4 => ⟨fun c2 => ihk.2.2 _ _ _ (h4.1 c2), fun c2 => wmX12_areEnds hk (fun y5_0 y5_1 h5 => ⟨fun c1 => ihk.2.2 _ _ _ (h5.1 c1), fun c1 => wmX12_incidenceOf hk (fun y6_0 y6_1 h6 => wmX12_incidenceOf hk (fun y7_0 y7_1 h7 => fun x8 e8 => fun x9 e9 => ihk.2.2 _ _ _ ((h7 x8 e8) x9 e9)) h6) (h5.2 c1)⟩) (h4.2 c2)⟩) (hR.2 c3)⟩
      · intro t li lj hR
        have hR : wbX12_squareOf_2 (wpX12_squareOf k) k t li lj Q := hR
        show wbX12_squareOf_2 (wpX12_squareOf k') k' t li lj Q'
        unfold wbX12_squareOf_2 at hR ⊢
        exact fun x10 e10 => ihk.2.1 _ _ _ (hR x10 e10)
theorem wmX12_squareOf {k k' : Nat} {t : XT} {a1 : Int32} {a2 : Int32} {Q Q' : Int64 → XT → Prop} (hk : k ≤ k') (hQ : (∀ (r : Int64) (t : XT), Q r t → Q' r t)) (hR : wqX12_squareOf k t a1 a2 Q) : wqX12_squareOf k' t a1 a2 Q' := (wnX12_squareOf Q Q' hQ k k' hk).1 _ _ _ hR
set_option maxHeartbeats 4000000 in
set_option maxRecDepth 100000 in
theorem wnX12_squares (Q Q' : Int32 → XT → Prop) (hQ : (∀ (r : Int32) (t : XT), Q r t → Q' r t)) : ∀ k k' : Nat, k ≤ k' → (∀ (t : XT) (li : Nat → Int32) (lj : Nat → Int64), wpX12_squares k 0 t li lj Q → wpX12_squares k' 0 t li lj Q') ∧ (∀ (t : XT) (li : Nat → Int32) (lj : Nat → Int64), wpX12_squares k 1 t li lj Q → wpX12_squares k' 1 t li lj Q') ∧ (∀ (t : XT) (li : Nat → Int32) (lj : Nat → Int64), wpX12_squares k 2 t li lj Q → wpX12_squares k' 2 t li lj Q') ∧ (∀ (t : XT) (li : Nat → Int32) (lj : Nat → Int64), wpX12_squares k 3 t li lj Q → wpX12_squares k' 3 t li lj Q') ∧ (∀ (t : XT) (li : Nat → Int32) (lj : Nat → Int64), wpX12_squares k 4 t li lj Q → wpX12_squares k' 4 t li lj Q') := by
  intro k
  induction k with
  | zero => intro k' _; exact ⟨fun _ _ _ hR => False.elim hR, fun _ _ _ hR => False.elim hR, fun _ _ _ hR => False.elim hR, fun _ _ _ hR => False.elim hR, fun _ _ _ hR => False.elim hR⟩
  | succ k ih =>
    intro k' hk
    cases k' with
    | zero => exact absurd hk (Nat.not_succ_le_zero k)
    | succ k' =>
      have hk := Nat.le_of_succ_le_succ hk
      have ihk := ih k' hk
      refine ⟨?_, ?_, ?_, ?_, ?_⟩
      · intro t li lj hR
        have hR : wbX12_squares_0 (wpX12_squares k) k t li lj Q := hR
        show wbX12_squares_0 (wpX12_squares k') k' t li lj Q'
        unfold wbX12_squares_0 at hR ⊢
        exact ihk.2.1 _ _ _ hR
      · intro t li lj hR
        have hR : wbX12_squares_1 (wpX12_squares k) k t li lj Q := hR
        show wbX12_squares_1 (wpX12_squares k') k' t li lj Q'
        unfold wbX12_squares_1 at hR ⊢
        exact ⟨fun c1 => hQ _ _ (hR.1 c1), fun c1 => ihk.2.2.1 _ _ _ (hR.2 c1)⟩
      · intro t li lj hR
        have hR : wbX12_squares_2 (wpX12_squares k) k t li lj Q := hR
        show wbX12_squares_2 (wpX12_squares k') k' t li lj Q'
        unfold wbX12_squares_2 at hR ⊢
        exact ⟨fun c6 => fun x7 e7 => ihk.2.1 _ _ _ ((hR.1 c6) x7 e7), fun c6 => wmX12_isCritical hk (fun y8_0 y8_1 h8 => ⟨fun c5 => ihk.2.2.2.2 _ _ _ (h8.1 c5), fun c5 => wmX12_isCritical hk (fun y9_0 y9_1 h9 => ⟨fun c4 => ihk.2.2.2.2 _ _ _ (h9.1 c4), fun c4 => wmX12_dimOf hk (fun y10_0 y10_1 h10 => wmX12_dimOf hk (fun y11_0 y11_1 h11 => fun x12 e12 => ⟨fun c3 => ihk.2.2.2.2 _ _ _ ((h11 x12 e12).1 c3), fun c3 => wmX12_squareOf hk (fun y13_0 y13_1 h13 => fun x14 e14 => ⟨fun c2 => ihk.2.2.2.1 _ _ _ ((h13 x14 e14).1 c2), fun c2 => ihk.2.2.2.1 _ _ _ ((h13 x14 e14).2 c2)⟩) ((h11 x12 e12).2 c3)⟩) h10) (h9.2 c4)⟩) (h8.2 c5)⟩) (hR.2 c6)⟩
      · intro t li lj hR
        have hR : wbX12_squares_3 (wpX12_squares k) k t li lj Q := hR
        show wbX12_squares_3 (wpX12_squares k') k' t li lj Q'
        unfold wbX12_squares_3 at hR ⊢
        exact wmX12_truth hk (fun y15_0 h15 => fun x16 e16 => ihk.2.2.2.2 _ _ _ (h15 x16 e16)) hR
      · intro t li lj hR
        have hR : wbX12_squares_4 (wpX12_squares k) k t li lj Q := hR
        show wbX12_squares_4 (wpX12_squares k') k' t li lj Q'
        unfold wbX12_squares_4 at hR ⊢
        exact fun x17 e17 => ihk.2.2.1 _ _ _ (hR x17 e17)
theorem wmX12_squares {k k' : Nat} {t : XT}  {Q Q' : Int32 → XT → Prop} (hk : k ≤ k') (hQ : (∀ (r : Int32) (t : XT), Q r t → Q' r t)) (hR : wqX12_squares k t  Q) : wqX12_squares k' t  Q' := (wnX12_squares Q Q' hQ k k' hk).1 _ _ _ hR
set_option maxHeartbeats 4000000 in
set_option maxRecDepth 100000 in
theorem wnX12_takes (Q Q' : XT → Prop) (hQ : (∀ (t : XT), Q t → Q' t)) : ∀ k k' : Nat, k ≤ k' → (∀ (t : XT) (li : Nat → Int32) (lj : Nat → Int64), wpX12_takes k 0 t li lj Q → wpX12_takes k' 0 t li lj Q') ∧ (∀ (t : XT) (li : Nat → Int32) (lj : Nat → Int64), wpX12_takes k 1 t li lj Q → wpX12_takes k' 1 t li lj Q') ∧ (∀ (t : XT) (li : Nat → Int32) (lj : Nat → Int64), wpX12_takes k 2 t li lj Q → wpX12_takes k' 2 t li lj Q') := by
  intro k
  induction k with
  | zero => intro k' _; exact ⟨fun _ _ _ hR => False.elim hR, fun _ _ _ hR => False.elim hR, fun _ _ _ hR => False.elim hR⟩
  | succ k ih =>
    intro k' hk
    cases k' with
    | zero => exact absurd hk (Nat.not_succ_le_zero k)
    | succ k' =>
      have hk := Nat.le_of_succ_le_succ hk
      have ihk := ih k' hk
      refine ⟨?_, ?_, ?_⟩
      · intro t li lj hR
        have hR : wbX12_takes_0 (wpX12_takes k) k t li lj Q := hR
        show wbX12_takes_0 (wpX12_takes k') k' t li lj Q'
        unfold wbX12_takes_0 at hR ⊢
        exact ihk.2.1 _ _ _ hR
      · intro t li lj hR
        have hR : wbX12_takes_1 (wpX12_takes k) k t li lj Q := hR
        show wbX12_takes_1 (wpX12_takes k') k' t li lj Q'
        unfold wbX12_takes_1 at hR ⊢
        exact ⟨fun c3 => hQ _ (hR.1 c3), fun c3 => ⟨fun c2 => wmX12_isCritical hk (fun y4_0 y4_1 h4 => ihk.2.2 _ _ _ h4) ((hR.2 c3).1 c2), fun c2 => ⟨((hR.2 c3).2 c2).1, fun x5 e5 => ⟨fun c1 => ihk.2.2 _ _ _ ((((hR.2 c3).2 c2).2 x5 e5).1 c1), fun c1 => ihk.2.2 _ _ _ ((((hR.2 c3).2 c2).2 x5 e5).2 c1)⟩⟩⟩⟩
      · intro t li lj hR
        have hR : wbX12_takes_2 (wpX12_takes k) k t li lj Q := hR
        show wbX12_takes_2 (wpX12_takes k') k' t li lj Q'
        unfold wbX12_takes_2 at hR ⊢
        exact ⟨hR.1, fun x6 e6 => fun x7 e7 => ihk.2.1 _ _ _ ((hR.2 x6 e6) x7 e7)⟩
theorem wmX12_takes {k k' : Nat} {t : XT} {a1 : Int32} {Q Q' : XT → Prop} (hk : k ≤ k') (hQ : (∀ (t : XT), Q t → Q' t)) (hR : wqX12_takes k t a1 Q) : wqX12_takes k' t a1 Q' := (wnX12_takes Q Q' hQ k k' hk).1 _ _ _ hR
set_option maxHeartbeats 4000000 in
set_option maxRecDepth 100000 in
theorem wnX12_takenOf (Q Q' : Int32 → XT → Prop) (hQ : (∀ (r : Int32) (t : XT), Q r t → Q' r t)) : ∀ k k' : Nat, k ≤ k' → (∀ (t : XT) (li : Nat → Int32) (lj : Nat → Int64), wpX12_takenOf k 0 t li lj Q → wpX12_takenOf k' 0 t li lj Q') ∧ (∀ (t : XT) (li : Nat → Int32) (lj : Nat → Int64), wpX12_takenOf k 1 t li lj Q → wpX12_takenOf k' 1 t li lj Q') ∧ (∀ (t : XT) (li : Nat → Int32) (lj : Nat → Int64), wpX12_takenOf k 2 t li lj Q → wpX12_takenOf k' 2 t li lj Q') ∧ (∀ (t : XT) (li : Nat → Int32) (lj : Nat → Int64), wpX12_takenOf k 3 t li lj Q → wpX12_takenOf k' 3 t li lj Q') := by
  intro k
  induction k with
  | zero => intro k' _; exact ⟨fun _ _ _ hR => False.elim hR, fun _ _ _ hR => False.elim hR, fun _ _ _ hR => False.elim hR, fun _ _ _ hR => False.elim hR⟩
  | succ k ih =>
    intro k' hk
    cases k' with
    | zero => exact absurd hk (Nat.not_succ_le_zero k)
    | succ k' =>
      have hk := Nat.le_of_succ_le_succ hk
      have ihk := ih k' hk
      refine ⟨?_, ?_, ?_, ?_⟩
      · intro t li lj hR
        have hR : wbX12_takenOf_0 (wpX12_takenOf k) k t li lj Q := hR
        show wbX12_takenOf_0 (wpX12_takenOf k') k' t li lj Q'
        unfold wbX12_takenOf_0 at hR ⊢
        exact ihk.2.1 _ _ _ hR
      · intro t li lj hR
        have hR : wbX12_takenOf_1 (wpX12_takenOf k) k t li lj Q := hR
        show wbX12_takenOf_1 (wpX12_takenOf k') k' t li lj Q'
        unfold wbX12_takenOf_1 at hR ⊢
        exact ⟨fun c3 => hQ _ _ (hR.1 c3), fun c3 => ⟨(hR.2 c3).1, fun x4 e4 => ⟨fun c2 => ihk.2.2.1 _ _ _ (((hR.2 c3).2 x4 e4).1 c2), fun c2 => wmX12_dimOf hk (fun y5_0 y5_1 h5 => ⟨fun c1 => ihk.2.2.1 _ _ _ (h5.1 c1), fun c1 => ihk.2.2.2 _ _ _ (h5.2 c1)⟩) (((hR.2 c3).2 x4 e4).2 c2)⟩⟩⟩
      · intro t li lj hR
        have hR : wbX12_takenOf_2 (wpX12_takenOf k) k t li lj Q := hR
        show wbX12_takenOf_2 (wpX12_takenOf k') k' t li lj Q'
        unfold wbX12_takenOf_2 at hR ⊢
        exact ihk.2.2.2 _ _ _ hR
      · intro t li lj hR
        have hR : wbX12_takenOf_3 (wpX12_takenOf k) k t li lj Q := hR
        show wbX12_takenOf_3 (wpX12_takenOf k') k' t li lj Q'
        unfold wbX12_takenOf_3 at hR ⊢
        exact wmX12_truth hk (fun y6_0 h6 => fun x7 e7 => fun x8 e8 => ihk.2.1 _ _ _ ((h6 x7 e7) x8 e8)) hR
theorem wmX12_takenOf {k k' : Nat} {t : XT} {a1 : Int32} {Q Q' : Int32 → XT → Prop} (hk : k ≤ k') (hQ : (∀ (r : Int32) (t : XT), Q r t → Q' r t)) (hR : wqX12_takenOf k t a1 Q) : wqX12_takenOf k' t a1 Q' := (wnX12_takenOf Q Q' hQ k k' hk).1 _ _ _ hR
set_option maxHeartbeats 4000000 in
set_option maxRecDepth 100000 in
theorem wnX12_laysTable (Q Q' : XT → Prop) (hQ : (∀ (t : XT), Q t → Q' t)) : ∀ k k' : Nat, k ≤ k' → (∀ (t : XT) (li : Nat → Int32) (lj : Nat → Int64), wpX12_laysTable k 0 t li lj Q → wpX12_laysTable k' 0 t li lj Q') ∧ (∀ (t : XT) (li : Nat → Int32) (lj : Nat → Int64), wpX12_laysTable k 1 t li lj Q → wpX12_laysTable k' 1 t li lj Q') ∧ (∀ (t : XT) (li : Nat → Int32) (lj : Nat → Int64), wpX12_laysTable k 2 t li lj Q → wpX12_laysTable k' 2 t li lj Q') ∧ (∀ (t : XT) (li : Nat → Int32) (lj : Nat → Int64), wpX12_laysTable k 3 t li lj Q → wpX12_laysTable k' 3 t li lj Q') ∧ (∀ (t : XT) (li : Nat → Int32) (lj : Nat → Int64), wpX12_laysTable k 4 t li lj Q → wpX12_laysTable k' 4 t li lj Q') ∧ (∀ (t : XT) (li : Nat → Int32) (lj : Nat → Int64), wpX12_laysTable k 5 t li lj Q → wpX12_laysTable k' 5 t li lj Q') := by
  intro k
  induction k with
  | zero => intro k' _; exact ⟨fun _ _ _ hR => False.elim hR, fun _ _ _ hR => False.elim hR, fun _ _ _ hR => False.elim hR, fun _ _ _ hR => False.elim hR, fun _ _ _ hR => False.elim hR, fun _ _ _ hR => False.elim hR⟩
  | succ k ih =>
    intro k' hk
    cases k' with
    | zero => exact absurd hk (Nat.not_succ_le_zero k)
    | succ k' =>
      have hk := Nat.le_of_succ_le_succ hk
      have ihk := ih k' hk
      refine ⟨?_, ?_, ?_, ?_, ?_, ?_⟩
      · intro t li lj hR
        have hR : wbX12_laysTable_0 (wpX12_laysTable k) k t li lj Q := hR
        show wbX12_laysTable_0 (wpX12_laysTable k') k' t li lj Q'
        unfold wbX12_laysTable_0 at hR ⊢
        exact wmX12_takenOf hk (fun y9_0 y9_1 h9 => fun x10 e10 => fun x11 e11 => wmX12_takenOf hk (fun y12_0 y12_1 h12 => fun x13 e13 => ihk.2.1 _ _ _ (h12 x13 e13)) ((h9 x10 e10) x11 e11)) hR
      · intro t li lj hR
        have hR : wbX12_laysTable_1 (wpX12_laysTable k) k t li lj Q := hR
        show wbX12_laysTable_1 (wpX12_laysTable k') k' t li lj Q'
        unfold wbX12_laysTable_1 at hR ⊢
        exact ⟨fun c3 => hQ _ (hR.1 c3), fun c3 => ⟨(hR.2 c3).1, fun x14 e14 => ⟨fun c2 => ihk.2.2.2.2.2 _ _ _ (((hR.2 c3).2 x14 e14).1 c2), fun c2 => wmX12_dimOf hk (fun y15_0 y15_1 h15 => ⟨fun c1 => ihk.2.2.1 _ _ _ (h15.1 c1), fun c1 => ihk.2.2.2.2.2 _ _ _ (h15.2 c1)⟩) (((hR.2 c3).2 x14 e14).2 c2)⟩⟩⟩
      · intro t li lj hR
        have hR : wbX12_laysTable_2 (wpX12_laysTable k) k t li lj Q := hR
        show wbX12_laysTable_2 (wpX12_laysTable k') k' t li lj Q'
        unfold wbX12_laysTable_2 at hR ⊢
        exact ⟨fun c8 => fun x16 e16 => ihk.2.2.2.2.2 _ _ _ ((hR.1 c8) x16 e16), fun c8 => ⟨(hR.2 c8).1, fun x17 e17 => ⟨fun c7 => ihk.2.2.2.2.1 _ _ _ (((hR.2 c8).2 x17 e17).1 c7), fun c7 => wmX12_dimOf hk (fun y18_0 y18_1 h18 => fun x19 e19 => ⟨fun c6 => ihk.2.2.2.2.1 _ _ _ ((h18 x19 e19).1 c6), fun c6 => fun x20 e20 => fun x21 e21 => ⟨fun c5 => wmX12_isFace hk (fun y22_0 y22_1 h22 => ⟨fun c4 => ihk.2.2.2.1 _ _ _ (h22.1 c4), fun c4 => wmX12_signOf hk (fun y23_0 y23_1 h23 => fun x24 e24 => ihk.2.2.2.1 _ _ _ (h23 x24 e24)) (h22.2 c4)⟩) (((((h18 x19 e19).2 c6) x20 e20) x21 e21).1 c5), fun c5 => wmX12_incidenceOf hk (fun y25_0 y25_1 h25 => ihk.2.2.2.1 _ _ _ h25) (((((h18 x19 e19).2 c6) x20 e20) x21 e21).2 c5)⟩⟩) (((hR.2 c8).2 x17 e17).2 c7)⟩⟩⟩
      · intro t li lj hR
        have hR : wbX12_laysTable_3 (wpX12_laysTable k) k t li lj Q := hR
        show wbX12_laysTable_3 (wpX12_laysTable k') k' t li lj Q'
        unfold wbX12_laysTable_3 at hR ⊢
        exact ⟨hR.1, fun x26 e26 => fun x27 e27 => ihk.2.2.2.2.1 _ _ _ ((hR.2 x26 e26) x27 e27)⟩
      · intro t li lj hR
        have hR : wbX12_laysTable_4 (wpX12_laysTable k) k t li lj Q := hR
        show wbX12_laysTable_4 (wpX12_laysTable k') k' t li lj Q'
        unfold wbX12_laysTable_4 at hR ⊢
        exact fun x28 e28 => ihk.2.2.1 _ _ _ (hR x28 e28)
      · intro t li lj hR
        have hR : wbX12_laysTable_5 (wpX12_laysTable k) k t li lj Q := hR
        show wbX12_laysTable_5 (wpX12_laysTable k') k' t li lj Q'
        unfold wbX12_laysTable_5 at hR ⊢
        exact fun x29 e29 => ihk.2.1 _ _ _ (hR x29 e29)
theorem wmX12_laysTable {k k' : Nat} {t : XT} {a1 : Int32} {a2 : Int32} {Q Q' : XT → Prop} (hk : k ≤ k') (hQ : (∀ (t : XT), Q t → Q' t)) (hR : wqX12_laysTable k t a1 a2 Q) : wqX12_laysTable k' t a1 a2 Q' := (wnX12_laysTable Q Q' hQ k k' hk).1 _ _ _ hR
set_option maxHeartbeats 4000000 in
set_option maxRecDepth 100000 in
theorem wnX12_cell (Q Q' : Int64 → XT → Prop) (hQ : (∀ (r : Int64) (t : XT), Q r t → Q' r t)) : ∀ k k' : Nat, k ≤ k' → (∀ (t : XT) (li : Nat → Int32) (lj : Nat → Int64), wpX12_cell k 0 t li lj Q → wpX12_cell k' 0 t li lj Q') := by
  intro k
  induction k with
  | zero => intro k' _; exact fun _ _ _ hR => False.elim hR
  | succ k ih =>
    intro k' hk
    cases k' with
    | zero => exact absurd hk (Nat.not_succ_le_zero k)
    | succ k' =>
      have hk := Nat.le_of_succ_le_succ hk
      have ihk := ih k' hk
      intro t li lj hR
      have hR : wbX12_cell_0 (wpX12_cell k) k t li lj Q := hR
      show wbX12_cell_0 (wpX12_cell k') k' t li lj Q'
      unfold wbX12_cell_0 at hR ⊢
      exact fun x1 e1 => fun x2 e2 => ⟨((hR x1 e1) x2 e2).1, fun x3 e3 => hQ _ _ (((hR x1 e1) x2 e2).2 x3 e3)⟩
theorem wmX12_cell {k k' : Nat} {t : XT} {a1 : Int32} {a2 : Int32} {Q Q' : Int64 → XT → Prop} (hk : k ≤ k') (hQ : (∀ (r : Int64) (t : XT), Q r t → Q' r t)) (hR : wqX12_cell k t a1 a2 Q) : wqX12_cell k' t a1 a2 Q' := (wnX12_cell Q Q' hQ k k' hk) _ _ _ hR
set_option maxHeartbeats 4000000 in
set_option maxRecDepth 100000 in
theorem wnX12_swapsRows (Q Q' : XT → Prop) (hQ : (∀ (t : XT), Q t → Q' t)) : ∀ k k' : Nat, k ≤ k' → (∀ (t : XT) (li : Nat → Int32) (lj : Nat → Int64), wpX12_swapsRows k 0 t li lj Q → wpX12_swapsRows k' 0 t li lj Q') ∧ (∀ (t : XT) (li : Nat → Int32) (lj : Nat → Int64), wpX12_swapsRows k 1 t li lj Q → wpX12_swapsRows k' 1 t li lj Q') := by
  intro k
  induction k with
  | zero => intro k' _; exact ⟨fun _ _ _ hR => False.elim hR, fun _ _ _ hR => False.elim hR⟩
  | succ k ih =>
    intro k' hk
    cases k' with
    | zero => exact absurd hk (Nat.not_succ_le_zero k)
    | succ k' =>
      have hk := Nat.le_of_succ_le_succ hk
      have ihk := ih k' hk
      refine ⟨?_, ?_⟩
      · intro t li lj hR
        have hR : wbX12_swapsRows_0 (wpX12_swapsRows k) k t li lj Q := hR
        show wbX12_swapsRows_0 (wpX12_swapsRows k') k' t li lj Q'
        unfold wbX12_swapsRows_0 at hR ⊢
        exact ihk.2 _ _ _ hR
      · intro t li lj hR
        have hR : wbX12_swapsRows_1 (wpX12_swapsRows k) k t li lj Q := hR
        show wbX12_swapsRows_1 (wpX12_swapsRows k') k' t li lj Q'
        unfold wbX12_swapsRows_1 at hR ⊢
        exact ⟨fun c1 => hQ _ (hR.1 c1), fun c1 => wmX12_cell hk (fun y2_0 y2_1 h2 => fun x3 e3 => fun x4 e4 => wmX12_cell hk (fun y5_0 y5_1 h5 => ⟨h5.1, fun x6 e6 => fun x7 e7 => fun x8 e8 => ⟨(((h5.2 x6 e6) x7 e7) x8 e8).1, fun x9 e9 => fun x10 e10 => ihk.2 _ _ _ (((((h5.2 x6 e6) x7 e7) x8 e8).2 x9 e9) x10 e10)⟩⟩) ((h2 x3 e3) x4 e4)) (hR.2 c1)⟩
theorem wmX12_swapsRows {k k' : Nat} {t : XT} {a1 : Int32} {a2 : Int32} {Q Q' : XT → Prop} (hk : k ≤ k') (hQ : (∀ (t : XT), Q t → Q' t)) (hR : wqX12_swapsRows k t a1 a2 Q) : wqX12_swapsRows k' t a1 a2 Q' := (wnX12_swapsRows Q Q' hQ k k' hk).1 _ _ _ hR
set_option maxHeartbeats 4000000 in
set_option maxRecDepth 100000 in
theorem wnX12_swapsColumns (Q Q' : XT → Prop) (hQ : (∀ (t : XT), Q t → Q' t)) : ∀ k k' : Nat, k ≤ k' → (∀ (t : XT) (li : Nat → Int32) (lj : Nat → Int64), wpX12_swapsColumns k 0 t li lj Q → wpX12_swapsColumns k' 0 t li lj Q') ∧ (∀ (t : XT) (li : Nat → Int32) (lj : Nat → Int64), wpX12_swapsColumns k 1 t li lj Q → wpX12_swapsColumns k' 1 t li lj Q') := by
  intro k
  induction k with
  | zero => intro k' _; exact ⟨fun _ _ _ hR => False.elim hR, fun _ _ _ hR => False.elim hR⟩
  | succ k ih =>
    intro k' hk
    cases k' with
    | zero => exact absurd hk (Nat.not_succ_le_zero k)
    | succ k' =>
      have hk := Nat.le_of_succ_le_succ hk
      have ihk := ih k' hk
      refine ⟨?_, ?_⟩
      · intro t li lj hR
        have hR : wbX12_swapsColumns_0 (wpX12_swapsColumns k) k t li lj Q := hR
        show wbX12_swapsColumns_0 (wpX12_swapsColumns k') k' t li lj Q'
        unfold wbX12_swapsColumns_0 at hR ⊢
        exact ihk.2 _ _ _ hR
      · intro t li lj hR
        have hR : wbX12_swapsColumns_1 (wpX12_swapsColumns k) k t li lj Q := hR
        show wbX12_swapsColumns_1 (wpX12_swapsColumns k') k' t li lj Q'
        unfold wbX12_swapsColumns_1 at hR ⊢
        exact ⟨fun c1 => hQ _ (hR.1 c1), fun c1 => wmX12_cell hk (fun y2_0 y2_1 h2 => fun x3 e3 => fun x4 e4 => wmX12_cell hk (fun y5_0 y5_1 h5 => ⟨h5.1, fun x6 e6 => fun x7 e7 => fun x8 e8 => ⟨(((h5.2 x6 e6) x7 e7) x8 e8).1, fun x9 e9 => fun x10 e10 => ihk.2 _ _ _ (((((h5.2 x6 e6) x7 e7) x8 e8).2 x9 e9) x10 e10)⟩⟩) ((h2 x3 e3) x4 e4)) (hR.2 c1)⟩
theorem wmX12_swapsColumns {k k' : Nat} {t : XT} {a1 : Int32} {a2 : Int32} {Q Q' : XT → Prop} (hk : k ≤ k') (hQ : (∀ (t : XT), Q t → Q' t)) (hR : wqX12_swapsColumns k t a1 a2 Q) : wqX12_swapsColumns k' t a1 a2 Q' := (wnX12_swapsColumns Q Q' hQ k k' hk).1 _ _ _ hR
set_option maxHeartbeats 4000000 in
set_option maxRecDepth 100000 in
theorem wnX12_bringsLeast (Q Q' : Int32 → XT → Prop) (hQ : (∀ (r : Int32) (t : XT), Q r t → Q' r t)) : ∀ k k' : Nat, k ≤ k' → (∀ (t : XT) (li : Nat → Int32) (lj : Nat → Int64), wpX12_bringsLeast k 0 t li lj Q → wpX12_bringsLeast k' 0 t li lj Q') ∧ (∀ (t : XT) (li : Nat → Int32) (lj : Nat → Int64), wpX12_bringsLeast k 1 t li lj Q → wpX12_bringsLeast k' 1 t li lj Q') ∧ (∀ (t : XT) (li : Nat → Int32) (lj : Nat → Int64), wpX12_bringsLeast k 2 t li lj Q → wpX12_bringsLeast k' 2 t li lj Q') ∧ (∀ (t : XT) (li : Nat → Int32) (lj : Nat → Int64), wpX12_bringsLeast k 3 t li lj Q → wpX12_bringsLeast k' 3 t li lj Q') ∧ (∀ (t : XT) (li : Nat → Int32) (lj : Nat → Int64), wpX12_bringsLeast k 4 t li lj Q → wpX12_bringsLeast k' 4 t li lj Q') ∧ (∀ (t : XT) (li : Nat → Int32) (lj : Nat → Int64), wpX12_bringsLeast k 5 t li lj Q → wpX12_bringsLeast k' 5 t li lj Q') ∧ (∀ (t : XT) (li : Nat → Int32) (lj : Nat → Int64), wpX12_bringsLeast k 6 t li lj Q → wpX12_bringsLeast k' 6 t li lj Q') ∧ (∀ (t : XT) (li : Nat → Int32) (lj : Nat → Int64), wpX12_bringsLeast k 7 t li lj Q → wpX12_bringsLeast k' 7 t li lj Q') := by
  intro k
  induction k with
  | zero => intro k' _; exact ⟨fun _ _ _ hR => False.elim hR, fun _ _ _ hR => False.elim hR, fun _ _ _ hR => False.elim hR, fun _ _ _ hR => False.elim hR, fun _ _ _ hR => False.elim hR, fun _ _ _ hR => False.elim hR, fun _ _ _ hR => False.elim hR, fun _ _ _ hR => False.elim hR⟩
  | succ k ih =>
    intro k' hk
    cases k' with
    | zero => exact absurd hk (Nat.not_succ_le_zero k)
    | succ k' =>
      have hk := Nat.le_of_succ_le_succ hk
      have ihk := ih k' hk
      refine ⟨?_, ?_, ?_, ?_, ?_, ?_, ?_, ?_⟩
      · intro t li lj hR
        have hR : wbX12_bringsLeast_0 (wpX12_bringsLeast k) k t li lj Q := hR
        show wbX12_bringsLeast_0 (wpX12_bringsLeast k') k' t li lj Q'
        unfold wbX12_bringsLeast_0 at hR ⊢
        exact ihk.2.1 _ _ _ hR
      · intro t li lj hR
        have hR : wbX12_bringsLeast_1 (wpX12_bringsLeast k) k t li lj Q := hR
        show wbX12_bringsLeast_1 (wpX12_bringsLeast k') k' t li lj Q'
        unfold wbX12_bringsLeast_1 at hR ⊢
        exact ⟨fun c2 => ⟨fun c1 => wmX12_swapsRows hk (fun y9_0 h9 => wmX12_swapsColumns hk (fun y10_0 h10 => hQ _ _ h10) h9) ((hR.1 c2).1 c1), fun c1 => hQ _ _ ((hR.1 c2).2 c1)⟩, fun c2 => ihk.2.2.1 _ _ _ (hR.2 c2)⟩
      · intro t li lj hR
        have hR : wbX12_bringsLeast_2 (wpX12_bringsLeast k) k t li lj Q := hR
        show wbX12_bringsLeast_2 (wpX12_bringsLeast k') k' t li lj Q'
        unfold wbX12_bringsLeast_2 at hR ⊢
        exact ⟨fun c6 => fun x11 e11 => ihk.2.1 _ _ _ ((hR.1 c6) x11 e11), fun c6 => wmX12_cell hk (fun y12_0 y12_1 h12 => fun x13 e13 => ⟨fun c5 => ihk.2.2.2.2.1 _ _ _ ((h12 x13 e13).1 c5), fun c5 => ⟨fun c4 => ihk.2.2.2.1 _ _ _ (((h12 x13 e13).2 c5).1 c4), fun c4 => wmX12_cell hk (fun y14_0 y14_1 h14 => fun x15 e15 => wmX12_cell hk (fun y16_0 y16_1 h16 => fun x17 e17 => fun x18 e18 => ⟨fun c3 => ihk.2.2.2.2.1 _ _ _ (((h16 x17 e17) x18 e18).1 c3), fun c3 => ihk.2.2.2.1 _ _ _ (((h16 x17 e17) x18 e18).2 c3)⟩) (h14 x15 e15)) (((h12 x13 e13).2 c5).2 c4)⟩⟩) (hR.2 c6)⟩
      · intro t li lj hR
        have hR : wbX12_bringsLeast_3 (wpX12_bringsLeast k) k t li lj Q := hR
        show wbX12_bringsLeast_3 (wpX12_bringsLeast k') k' t li lj Q'
        unfold wbX12_bringsLeast_3 at hR ⊢
        exact ihk.2.2.2.2.2.1 _ _ _ hR
      · intro t li lj hR
        have hR : wbX12_bringsLeast_4 (wpX12_bringsLeast k) k t li lj Q := hR
        show wbX12_bringsLeast_4 (wpX12_bringsLeast k') k' t li lj Q'
        unfold wbX12_bringsLeast_4 at hR ⊢
        exact ihk.2.2.2.2.2.1 _ _ _ hR
      · intro t li lj hR
        have hR : wbX12_bringsLeast_5 (wpX12_bringsLeast k) k t li lj Q := hR
        show wbX12_bringsLeast_5 (wpX12_bringsLeast k') k' t li lj Q'
        unfold wbX12_bringsLeast_5 at hR ⊢
        exact ⟨fun c7 => ihk.2.2.2.2.2.2.1 _ _ _ (hR.1 c7), fun c7 => ihk.2.2.2.2.2.2.1 _ _ _ (hR.2 c7)⟩
      · intro t li lj hR
        have hR : wbX12_bringsLeast_6 (wpX12_bringsLeast k) k t li lj Q := hR
        show wbX12_bringsLeast_6 (wpX12_bringsLeast k') k' t li lj Q'
        unfold wbX12_bringsLeast_6 at hR ⊢
        exact ⟨fun c8 => ihk.2.2.2.2.2.2.2 _ _ _ (hR.1 c8), fun c8 => ihk.2.2.2.2.2.2.2 _ _ _ (hR.2 c8)⟩
      · intro t li lj hR
        have hR : wbX12_bringsLeast_7 (wpX12_bringsLeast k) k t li lj Q := hR
        show wbX12_bringsLeast_7 (wpX12_bringsLeast k') k' t li lj Q'
        unfold wbX12_bringsLeast_7 at hR ⊢
        exact fun x19 e19 => ihk.2.2.1 _ _ _ (hR x19 e19)
theorem wmX12_bringsLeast {k k' : Nat} {t : XT} {a1 : Int32} {Q Q' : Int32 → XT → Prop} (hk : k ≤ k') (hQ : (∀ (r : Int32) (t : XT), Q r t → Q' r t)) (hR : wqX12_bringsLeast k t a1 Q) : wqX12_bringsLeast k' t a1 Q' := (wnX12_bringsLeast Q Q' hQ k k' hk).1 _ _ _ hR
set_option maxHeartbeats 4000000 in
set_option maxRecDepth 100000 in
theorem wnX12_addsRow (Q Q' : XT → Prop) (hQ : (∀ (t : XT), Q t → Q' t)) : ∀ k k' : Nat, k ≤ k' → (∀ (t : XT) (li : Nat → Int32) (lj : Nat → Int64), wpX12_addsRow k 0 t li lj Q → wpX12_addsRow k' 0 t li lj Q') ∧ (∀ (t : XT) (li : Nat → Int32) (lj : Nat → Int64), wpX12_addsRow k 1 t li lj Q → wpX12_addsRow k' 1 t li lj Q') := by
  intro k
  induction k with
  | zero => intro k' _; exact ⟨fun _ _ _ hR => False.elim hR, fun _ _ _ hR => False.elim hR⟩
  | succ k ih =>
    intro k' hk
    cases k' with
    | zero => exact absurd hk (Nat.not_succ_le_zero k)
    | succ k' =>
      have hk := Nat.le_of_succ_le_succ hk
      have ihk := ih k' hk
      refine ⟨?_, ?_⟩
      · intro t li lj hR
        have hR : wbX12_addsRow_0 (wpX12_addsRow k) k t li lj Q := hR
        show wbX12_addsRow_0 (wpX12_addsRow k') k' t li lj Q'
        unfold wbX12_addsRow_0 at hR ⊢
        exact ihk.2 _ _ _ hR
      · intro t li lj hR
        have hR : wbX12_addsRow_1 (wpX12_addsRow k) k t li lj Q := hR
        show wbX12_addsRow_1 (wpX12_addsRow k') k' t li lj Q'
        unfold wbX12_addsRow_1 at hR ⊢
        exact ⟨fun c1 => hQ _ (hR.1 c1), fun c1 => fun x2 e2 => fun x3 e3 => ⟨(((hR.2 c1) x2 e2) x3 e3).1, fun x4 e4 => wmX12_cell hk (fun y5_0 y5_1 h5 => fun x6 e6 => fun x7 e7 => ⟨((h5 x6 e6) x7 e7).1, fun x8 e8 => fun x9 e9 => ihk.2 _ _ _ ((((h5 x6 e6) x7 e7).2 x8 e8) x9 e9)⟩) ((((hR.2 c1) x2 e2) x3 e3).2 x4 e4)⟩⟩
theorem wmX12_addsRow {k k' : Nat} {t : XT} {a1 : Int32} {a2 : Int32} {a3 : Int64} {Q Q' : XT → Prop} (hk : k ≤ k') (hQ : (∀ (t : XT), Q t → Q' t)) (hR : wqX12_addsRow k t a1 a2 a3 Q) : wqX12_addsRow k' t a1 a2 a3 Q' := (wnX12_addsRow Q Q' hQ k k' hk).1 _ _ _ hR
set_option maxHeartbeats 4000000 in
set_option maxRecDepth 100000 in
theorem wnX12_addsColumn (Q Q' : XT → Prop) (hQ : (∀ (t : XT), Q t → Q' t)) : ∀ k k' : Nat, k ≤ k' → (∀ (t : XT) (li : Nat → Int32) (lj : Nat → Int64), wpX12_addsColumn k 0 t li lj Q → wpX12_addsColumn k' 0 t li lj Q') ∧ (∀ (t : XT) (li : Nat → Int32) (lj : Nat → Int64), wpX12_addsColumn k 1 t li lj Q → wpX12_addsColumn k' 1 t li lj Q') := by
  intro k
  induction k with
  | zero => intro k' _; exact ⟨fun _ _ _ hR => False.elim hR, fun _ _ _ hR => False.elim hR⟩
  | succ k ih =>
    intro k' hk
    cases k' with
    | zero => exact absurd hk (Nat.not_succ_le_zero k)
    | succ k' =>
      have hk := Nat.le_of_succ_le_succ hk
      have ihk := ih k' hk
      refine ⟨?_, ?_⟩
      · intro t li lj hR
        have hR : wbX12_addsColumn_0 (wpX12_addsColumn k) k t li lj Q := hR
        show wbX12_addsColumn_0 (wpX12_addsColumn k') k' t li lj Q'
        unfold wbX12_addsColumn_0 at hR ⊢
        exact ihk.2 _ _ _ hR
      · intro t li lj hR
        have hR : wbX12_addsColumn_1 (wpX12_addsColumn k) k t li lj Q := hR
        show wbX12_addsColumn_1 (wpX12_addsColumn k') k' t li lj Q'
        unfold wbX12_addsColumn_1 at hR ⊢
        exact ⟨fun c1 => hQ _ (hR.1 c1), fun c1 => fun x2 e2 => fun x3 e3 => ⟨(((hR.2 c1) x2 e2) x3 e3).1, fun x4 e4 => wmX12_cell hk (fun y5_0 y5_1 h5 => fun x6 e6 => fun x7 e7 => ⟨((h5 x6 e6) x7 e7).1, fun x8 e8 => fun x9 e9 => ihk.2 _ _ _ ((((h5 x6 e6) x7 e7).2 x8 e8) x9 e9)⟩) ((((hR.2 c1) x2 e2) x3 e3).2 x4 e4)⟩⟩
theorem wmX12_addsColumn {k k' : Nat} {t : XT} {a1 : Int32} {a2 : Int32} {a3 : Int64} {Q Q' : XT → Prop} (hk : k ≤ k') (hQ : (∀ (t : XT), Q t → Q' t)) (hR : wqX12_addsColumn k t a1 a2 a3 Q) : wqX12_addsColumn k' t a1 a2 a3 Q' := (wnX12_addsColumn Q Q' hQ k k' hk).1 _ _ _ hR
