set_option maxHeartbeats 4000000 in
set_option maxRecDepth 100000 in
theorem wnX12_clears (Q Q' : Int32 → XT → Prop) (hQ : (∀ (r : Int32) (t : XT), Q r t → Q' r t)) : ∀ k k' : Nat, k ≤ k' → (∀ (t : XT) (li : Nat → Int32) (lj : Nat → Int64), wpX12_clears k 0 t li lj Q → wpX12_clears k' 0 t li lj Q') ∧ (∀ (t : XT) (li : Nat → Int32) (lj : Nat → Int64), wpX12_clears k 1 t li lj Q → wpX12_clears k' 1 t li lj Q') ∧ (∀ (t : XT) (li : Nat → Int32) (lj : Nat → Int64), wpX12_clears k 2 t li lj Q → wpX12_clears k' 2 t li lj Q') ∧ (∀ (t : XT) (li : Nat → Int32) (lj : Nat → Int64), wpX12_clears k 3 t li lj Q → wpX12_clears k' 3 t li lj Q') ∧ (∀ (t : XT) (li : Nat → Int32) (lj : Nat → Int64), wpX12_clears k 4 t li lj Q → wpX12_clears k' 4 t li lj Q') ∧ (∀ (t : XT) (li : Nat → Int32) (lj : Nat → Int64), wpX12_clears k 5 t li lj Q → wpX12_clears k' 5 t li lj Q') ∧ (∀ (t : XT) (li : Nat → Int32) (lj : Nat → Int64), wpX12_clears k 6 t li lj Q → wpX12_clears k' 6 t li lj Q') := by
  intro k
  induction k with
  | zero => intro k' _; exact ⟨fun _ _ _ hR => False.elim hR, fun _ _ _ hR => False.elim hR, fun _ _ _ hR => False.elim hR, fun _ _ _ hR => False.elim hR, fun _ _ _ hR => False.elim hR, fun _ _ _ hR => False.elim hR, fun _ _ _ hR => False.elim hR⟩
  | succ k ih =>
    intro k' hk
    cases k' with
    | zero => exact absurd hk (Nat.not_succ_le_zero k)
    | succ k' =>
      have hk := Nat.le_of_succ_le_succ hk
      have ihk := ih k' hk
      refine ⟨?_, ?_, ?_, ?_, ?_, ?_, ?_⟩
      · intro t li lj hR
        have hR : wbX12_clears_0 (wpX12_clears k) k t li lj Q := hR
        show wbX12_clears_0 (wpX12_clears k') k' t li lj Q'
        unfold wbX12_clears_0 at hR ⊢
        exact fun x7 e7 => ihk.2.1 _ _ _ (hR x7 e7)
      · intro t li lj hR
        have hR : wbX12_clears_1 (wpX12_clears k) k t li lj Q := hR
        show wbX12_clears_1 (wpX12_clears k') k' t li lj Q'
        unfold wbX12_clears_1 at hR ⊢
        exact ⟨fun c3 => fun x8 e8 => ihk.2.2.2.2.1 _ _ _ ((hR.1 c3) x8 e8), fun c3 => wmX12_cell hk (fun y9_0 y9_1 h9 => wmX12_cell hk (fun y10_0 y10_1 h10 => ⟨h10.1, fun x11 e11 => fun x12 e12 => wmX12_addsRow hk (fun y13_0 h13 => ⟨fun c2 => ihk.2.2.1 _ _ _ (h13.1 c2), fun c2 => wmX12_cell hk (fun y14_0 y14_1 h14 => fun x15 e15 => ⟨fun c1 => ihk.2.2.1 _ _ _ ((h14 x15 e15).1 c1), fun c1 => ihk.2.2.2.1 _ _ _ ((h14 x15 e15).2 c1)⟩) (h13.2 c2)⟩) ((h10.2 x11 e11) x12 e12)⟩) h9) (hR.2 c3)⟩
      · intro t li lj hR
        have hR : wbX12_clears_2 (wpX12_clears k) k t li lj Q := hR
        show wbX12_clears_2 (wpX12_clears k') k' t li lj Q'
        unfold wbX12_clears_2 at hR ⊢
        exact ihk.2.2.2.1 _ _ _ hR
      · intro t li lj hR
        have hR : wbX12_clears_3 (wpX12_clears k) k t li lj Q := hR
        show wbX12_clears_3 (wpX12_clears k') k' t li lj Q'
        unfold wbX12_clears_3 at hR ⊢
        exact fun x16 e16 => ihk.2.1 _ _ _ (hR x16 e16)
      · intro t li lj hR
        have hR : wbX12_clears_4 (wpX12_clears k) k t li lj Q := hR
        show wbX12_clears_4 (wpX12_clears k') k' t li lj Q'
        unfold wbX12_clears_4 at hR ⊢
        exact ⟨fun c6 => ⟨(hR.1 c6).1, hQ _ _ (hR.1 c6).2⟩, fun c6 => wmX12_cell hk (fun y18_0 y18_1 h18 => wmX12_cell hk (fun y19_0 y19_1 h19 => ⟨h19.1, fun x20 e20 => fun x21 e21 => wmX12_addsColumn hk (fun y22_0 h22 => ⟨fun c5 => ihk.2.2.2.2.2.1 _ _ _ (h22.1 c5), fun c5 => wmX12_cell hk (fun y23_0 y23_1 h23 => fun x24 e24 => ⟨fun c4 => ihk.2.2.2.2.2.1 _ _ _ ((h23 x24 e24).1 c4), fun c4 => ihk.2.2.2.2.2.2 _ _ _ ((h23 x24 e24).2 c4)⟩) (h22.2 c5)⟩) ((h19.2 x20 e20) x21 e21)⟩) h18) (hR.2 c6)⟩
      · intro t li lj hR
        have hR : wbX12_clears_5 (wpX12_clears k) k t li lj Q := hR
        show wbX12_clears_5 (wpX12_clears k') k' t li lj Q'
        unfold wbX12_clears_5 at hR ⊢
        exact ihk.2.2.2.2.2.2 _ _ _ hR
      · intro t li lj hR
        have hR : wbX12_clears_6 (wpX12_clears k) k t li lj Q := hR
        show wbX12_clears_6 (wpX12_clears k') k' t li lj Q'
        unfold wbX12_clears_6 at hR ⊢
        exact fun x25 e25 => ihk.2.2.2.2.1 _ _ _ (hR x25 e25)
theorem wmX12_clears {k k' : Nat} {t : XT} {a1 : Int32} {Q Q' : Int32 → XT → Prop} (hk : k ≤ k') (hQ : (∀ (r : Int32) (t : XT), Q r t → Q' r t)) (hR : wqX12_clears k t a1 Q) : wqX12_clears k' t a1 Q' := (wnX12_clears Q Q' hQ k k' hk).1 _ _ _ hR
set_option maxHeartbeats 4000000 in
set_option maxRecDepth 100000 in
theorem wnX12_undivided (Q Q' : Int32 → XT → Prop) (hQ : (∀ (r : Int32) (t : XT), Q r t → Q' r t)) : ∀ k k' : Nat, k ≤ k' → (∀ (t : XT) (li : Nat → Int32) (lj : Nat → Int64), wpX12_undivided k 0 t li lj Q → wpX12_undivided k' 0 t li lj Q') ∧ (∀ (t : XT) (li : Nat → Int32) (lj : Nat → Int64), wpX12_undivided k 1 t li lj Q → wpX12_undivided k' 1 t li lj Q') ∧ (∀ (t : XT) (li : Nat → Int32) (lj : Nat → Int64), wpX12_undivided k 2 t li lj Q → wpX12_undivided k' 2 t li lj Q') := by
  intro k
  induction k with
  | zero => intro k' _; exact ⟨fun _ _ _ hR => False.elim hR, fun _ _ _ hR => False.elim hR, fun _ _ _ hR => False.elim hR⟩
  | succ k ih =>
    intro k' hk
    cases k' with
    | zero => exact absurd hk (Nat.not_succ_le_zero k)
    | succ k' =>
      have hk := Nat.le_of_succ_le_succ hk
      have ihk := ih k' hk
      refine ⟨?_, ?_, ?_⟩
      · intro t li lj hR
        have hR : wbX12_undivided_0 (wpX12_undivided k) k t li lj Q := hR
        show wbX12_undivided_0 (wpX12_undivided k') k' t li lj Q'
        unfold wbX12_undivided_0 at hR ⊢
        exact fun x4 e4 => ihk.2.1 _ _ _ (hR x4 e4)
      · intro t li lj hR
        have hR : wbX12_undivided_1 (wpX12_undivided k) k t li lj Q := hR
        show wbX12_undivided_1 (wpX12_undivided k') k' t li lj Q'
        unfold wbX12_undivided_1 at hR ⊢
        exact ⟨fun c1 => hQ _ _ (hR.1 c1), fun c1 => fun x5 e5 => ihk.2.2 _ _ _ ((hR.2 c1) x5 e5)⟩
      · intro t li lj hR
        have hR : wbX12_undivided_2 (wpX12_undivided k) k t li lj Q := hR
        show wbX12_undivided_2 (wpX12_undivided k') k' t li lj Q'
        unfold wbX12_undivided_2 at hR ⊢
        exact ⟨fun c3 => fun x6 e6 => ihk.2.1 _ _ _ ((hR.1 c3) x6 e6), fun c3 => wmX12_cell hk (fun y7_0 y7_1 h7 => wmX12_cell hk (fun y8_0 y8_1 h8 => ⟨h8.1, fun x9 e9 => fun x10 e10 => ⟨fun c2 => fun x11 e11 => ihk.2.2 _ _ _ ((((h8.2 x9 e9) x10 e10).1 c2) x11 e11), fun c2 => hQ _ _ (((h8.2 x9 e9) x10 e10).2 c2)⟩⟩) h7) (hR.2 c3)⟩
theorem wmX12_undivided {k k' : Nat} {t : XT} {a1 : Int32} {Q Q' : Int32 → XT → Prop} (hk : k ≤ k') (hQ : (∀ (r : Int32) (t : XT), Q r t → Q' r t)) (hR : wqX12_undivided k t a1 Q) : wqX12_undivided k' t a1 Q' := (wnX12_undivided Q Q' hQ k k' hk).1 _ _ _ hR
set_option maxHeartbeats 4000000 in
set_option maxRecDepth 100000 in
theorem wnX12_laysSteps (Q Q' : Int32 → XT → Prop) (hQ : (∀ (r : Int32) (t : XT), Q r t → Q' r t)) : ∀ k k' : Nat, k ≤ k' → (∀ (t : XT) (li : Nat → Int32) (lj : Nat → Int64), wpX12_laysSteps k 0 t li lj Q → wpX12_laysSteps k' 0 t li lj Q') ∧ (∀ (t : XT) (li : Nat → Int32) (lj : Nat → Int64), wpX12_laysSteps k 1 t li lj Q → wpX12_laysSteps k' 1 t li lj Q') ∧ (∀ (t : XT) (li : Nat → Int32) (lj : Nat → Int64), wpX12_laysSteps k 2 t li lj Q → wpX12_laysSteps k' 2 t li lj Q') := by
  intro k
  induction k with
  | zero => intro k' _; exact ⟨fun _ _ _ hR => False.elim hR, fun _ _ _ hR => False.elim hR, fun _ _ _ hR => False.elim hR⟩
  | succ k ih =>
    intro k' hk
    cases k' with
    | zero => exact absurd hk (Nat.not_succ_le_zero k)
    | succ k' =>
      have hk := Nat.le_of_succ_le_succ hk
      have ihk := ih k' hk
      refine ⟨?_, ?_, ?_⟩
      · intro t li lj hR
        have hR : wbX12_laysSteps_0 (wpX12_laysSteps k) k t li lj Q := hR
        show wbX12_laysSteps_0 (wpX12_laysSteps k') k' t li lj Q'
        unfold wbX12_laysSteps_0 at hR ⊢
        exact ihk.2.1 _ _ _ hR
      · intro t li lj hR
        have hR : wbX12_laysSteps_1 (wpX12_laysSteps k) k t li lj Q := hR
        show wbX12_laysSteps_1 (wpX12_laysSteps k') k' t li lj Q'
        unfold wbX12_laysSteps_1 at hR ⊢
        exact ⟨fun c5 => ihk.2.2 _ _ _ (hR.1 c5), fun c5 => ⟨fun c4 => ihk.2.2 _ _ _ ((hR.2 c5).1 c4), fun c4 => wmX12_bringsLeast hk (fun y6_0 y6_1 h6 => ⟨fun c3 => ihk.2.2 _ _ _ (h6.1 c3), fun c3 => wmX12_clears hk (fun y7_0 y7_1 h7 => ⟨fun c2 => wmX12_undivided hk (fun y8_0 y8_1 h8 => ⟨fun c1 => wmX12_cell hk (fun y9_0 y9_1 h9 => fun x10 e10 => ⟨(h9 x10 e10).1, fun x11 e11 => fun x12 e12 => ihk.2.1 _ _ _ (((h9 x10 e10).2 x11 e11) x12 e12)⟩) (h8.1 c1), fun c1 => wmX12_addsRow hk (fun y13_0 h13 => ihk.2.1 _ _ _ h13) (h8.2 c1)⟩) (h7.1 c2), fun c2 => ihk.2.1 _ _ _ (h7.2 c2)⟩) (h6.2 c3)⟩) ((hR.2 c5).2 c4)⟩⟩
      · intro t li lj hR
        have hR : wbX12_laysSteps_2 (wpX12_laysSteps k) k t li lj Q := hR
        show wbX12_laysSteps_2 (wpX12_laysSteps k') k' t li lj Q'
        unfold wbX12_laysSteps_2 at hR ⊢
        exact hQ _ _ hR
theorem wmX12_laysSteps {k k' : Nat} {t : XT}  {Q Q' : Int32 → XT → Prop} (hk : k ≤ k') (hQ : (∀ (r : Int32) (t : XT), Q r t → Q' r t)) (hR : wqX12_laysSteps k t  Q) : wqX12_laysSteps k' t  Q' := (wnX12_laysSteps Q Q' hQ k k' hk).1 _ _ _ hR
set_option maxHeartbeats 4000000 in
set_option maxRecDepth 100000 in
theorem wnX12_rankOf (Q Q' : Int32 → XT → Prop) (hQ : (∀ (r : Int32) (t : XT), Q r t → Q' r t)) : ∀ k k' : Nat, k ≤ k' → (∀ (t : XT) (li : Nat → Int32) (lj : Nat → Int64), wpX12_rankOf k 0 t li lj Q → wpX12_rankOf k' 0 t li lj Q') := by
  intro k
  induction k with
  | zero => intro k' _; exact fun _ _ _ hR => False.elim hR
  | succ k ih =>
    intro k' hk
    cases k' with
    | zero => exact absurd hk (Nat.not_succ_le_zero k)
    | succ k' =>
      have hk := Nat.le_of_succ_le_succ hk
      have ihk := ih k' hk
      intro t li lj hR
      have hR : wbX12_rankOf_0 (wpX12_rankOf k) k t li lj Q := hR
      show wbX12_rankOf_0 (wpX12_rankOf k') k' t li lj Q'
      unfold wbX12_rankOf_0 at hR ⊢
      exact wmX12_in hk (fun y2_0 h2 => ⟨fun c1 => wmX12_laysTable hk (fun y3_0 h3 => wmX12_laysSteps hk (fun y4_0 y4_1 h4 => hQ _ _ h4) h3) (h2.1 c1), fun c1 => hQ _ _ (h2.2 c1)⟩) hR
theorem wmX12_rankOf {k k' : Nat} {t : XT} {a1 : Int32} {a2 : Int32} {Q Q' : Int32 → XT → Prop} (hk : k ≤ k') (hQ : (∀ (r : Int32) (t : XT), Q r t → Q' r t)) (hR : wqX12_rankOf k t a1 a2 Q) : wqX12_rankOf k' t a1 a2 Q' := (wnX12_rankOf Q Q' hQ k k' hk) _ _ _ hR
set_option maxHeartbeats 4000000 in
set_option maxRecDepth 100000 in
theorem wnX12_bettiTaken (Q Q' : Int32 → XT → Prop) (hQ : (∀ (r : Int32) (t : XT), Q r t → Q' r t)) : ∀ k k' : Nat, k ≤ k' → (∀ (t : XT) (li : Nat → Int32) (lj : Nat → Int64), wpX12_bettiTaken k 0 t li lj Q → wpX12_bettiTaken k' 0 t li lj Q') := by
  intro k
  induction k with
  | zero => intro k' _; exact fun _ _ _ hR => False.elim hR
  | succ k ih =>
    intro k' hk
    cases k' with
    | zero => exact absurd hk (Nat.not_succ_le_zero k)
    | succ k' =>
      have hk := Nat.le_of_succ_le_succ hk
      have ihk := ih k' hk
      intro t li lj hR
      have hR : wbX12_bettiTaken_0 (wpX12_bettiTaken k) k t li lj Q := hR
      show wbX12_bettiTaken_0 (wpX12_bettiTaken k') k' t li lj Q'
      unfold wbX12_bettiTaken_0 at hR ⊢
      exact wmX12_takenOf hk (fun y1_0 y1_1 h1 => wmX12_rankOf hk (fun y2_0 y2_1 h2 => fun x3 e3 => fun x4 e4 => wmX12_rankOf hk (fun y5_0 y5_1 h5 => fun x6 e6 => hQ _ _ (h5 x6 e6)) ((h2 x3 e3) x4 e4)) h1) hR
theorem wmX12_bettiTaken {k k' : Nat} {t : XT} {a1 : Int32} {a2 : Int32} {Q Q' : Int32 → XT → Prop} (hk : k ≤ k') (hQ : (∀ (r : Int32) (t : XT), Q r t → Q' r t)) (hR : wqX12_bettiTaken k t a1 a2 Q) : wqX12_bettiTaken k' t a1 a2 Q' := (wnX12_bettiTaken Q Q' hQ k k' hk) _ _ _ hR
set_option maxHeartbeats 4000000 in
set_option maxRecDepth 100000 in
theorem wnX12_betti (Q Q' : Int32 → XT → Prop) (hQ : (∀ (r : Int32) (t : XT), Q r t → Q' r t)) : ∀ k k' : Nat, k ≤ k' → (∀ (t : XT) (li : Nat → Int32) (lj : Nat → Int64), wpX12_betti k 0 t li lj Q → wpX12_betti k' 0 t li lj Q') ∧ (∀ (t : XT) (li : Nat → Int32) (lj : Nat → Int64), wpX12_betti k 1 t li lj Q → wpX12_betti k' 1 t li lj Q') := by
  intro k
  induction k with
  | zero => intro k' _; exact ⟨fun _ _ _ hR => False.elim hR, fun _ _ _ hR => False.elim hR⟩
  | succ k ih =>
    intro k' hk
    cases k' with
    | zero => exact absurd hk (Nat.not_succ_le_zero k)
    | succ k' =>
      have hk := Nat.le_of_succ_le_succ hk
      have ihk := ih k' hk
      refine ⟨?_, ?_⟩
      · intro t li lj hR
        have hR : wbX12_betti_0 (wpX12_betti k) k t li lj Q := hR
        show wbX12_betti_0 (wpX12_betti k') k' t li lj Q'
        unfold wbX12_betti_0 at hR ⊢
        exact wmX12_in hk (fun y3_0 h3 => ⟨fun c2 => ihk.2 _ _ _ (h3.1 c2), fun c2 => wmX12_in hk (fun y4_0 h4 => ⟨fun c1 => wmX12_takes hk (fun y5_0 h5 => wmX12_bettiTaken hk (fun y6_0 y6_1 h6 => hQ _ _ h6) h5) (h4.1 c1), fun c1 => ihk.2 _ _ _ (h4.2 c1)⟩) (h3.2 c2)⟩) hR
      · intro t li lj hR
        have hR : wbX12_betti_1 (wpX12_betti k) k t li lj Q := hR
        show wbX12_betti_1 (wpX12_betti k') k' t li lj Q'
        unfold wbX12_betti_1 at hR ⊢
        exact hQ _ _ hR
theorem wmX12_betti {k k' : Nat} {t : XT} {a1 : Int32} {a2 : Int32} {Q Q' : Int32 → XT → Prop} (hk : k ≤ k') (hQ : (∀ (r : Int32) (t : XT), Q r t → Q' r t)) (hR : wqX12_betti k t a1 a2 Q) : wqX12_betti k' t a1 a2 Q' := (wnX12_betti Q Q' hQ k k' hk).1 _ _ _ hR
set_option maxHeartbeats 4000000 in
set_option maxRecDepth 100000 in
theorem wnX12_torsion (Q Q' : Int64 → XT → Prop) (hQ : (∀ (r : Int64) (t : XT), Q r t → Q' r t)) : ∀ k k' : Nat, k ≤ k' → (∀ (t : XT) (li : Nat → Int32) (lj : Nat → Int64), wpX12_torsion k 0 t li lj Q → wpX12_torsion k' 0 t li lj Q') ∧ (∀ (t : XT) (li : Nat → Int32) (lj : Nat → Int64), wpX12_torsion k 1 t li lj Q → wpX12_torsion k' 1 t li lj Q') ∧ (∀ (t : XT) (li : Nat → Int32) (lj : Nat → Int64), wpX12_torsion k 2 t li lj Q → wpX12_torsion k' 2 t li lj Q') ∧ (∀ (t : XT) (li : Nat → Int32) (lj : Nat → Int64), wpX12_torsion k 3 t li lj Q → wpX12_torsion k' 3 t li lj Q') := by
  intro k
  induction k with
  | zero => intro k' _; exact ⟨fun _ _ _ hR => False.elim hR, fun _ _ _ hR => False.elim hR, fun _ _ _ hR => False.elim hR, fun _ _ _ hR => False.elim hR⟩
  | succ k ih =>
    intro k' hk
    cases k' with
    | zero => exact absurd hk (Nat.not_succ_le_zero k)
    | succ k' =>
      have hk := Nat.le_of_succ_le_succ hk
      have ihk := ih k' hk
      refine ⟨?_, ?_, ?_, ?_⟩
      · intro t li lj hR
        have hR : wbX12_torsion_0 (wpX12_torsion k) k t li lj Q := hR
        show wbX12_torsion_0 (wpX12_torsion k') k' t li lj Q'
        unfold wbX12_torsion_0 at hR ⊢
        exact wmX12_in hk (fun y8_0 h8 => ⟨fun c3 => ihk.2.1 _ _ _ (h8.1 c3), fun c3 => wmX12_in hk (fun y9_0 h9 => ⟨fun c2 => ihk.2.1 _ _ _ (h9.1 c2), fun c2 => ⟨fun c1 => wmX12_takes hk (fun y10_0 h10 => fun x11 e11 => wmX12_rankOf hk (fun y12_0 y12_1 h12 => ihk.2.2.1 _ _ _ h12) (h10 x11 e11)) ((h9.2 c2).1 c1), fun c1 => ihk.2.1 _ _ _ ((h9.2 c2).2 c1)⟩⟩) (h8.2 c3)⟩) hR
      · intro t li lj hR
        have hR : wbX12_torsion_1 (wpX12_torsion k) k t li lj Q := hR
        show wbX12_torsion_1 (wpX12_torsion k') k' t li lj Q'
        unfold wbX12_torsion_1 at hR ⊢
        exact hQ _ _ hR
      · intro t li lj hR
        have hR : wbX12_torsion_2 (wpX12_torsion k) k t li lj Q := hR
        show wbX12_torsion_2 (wpX12_torsion k') k' t li lj Q'
        unfold wbX12_torsion_2 at hR ⊢
        exact ⟨fun c7 => ⟨fun c4 => hQ _ _ ((hR.1 c7).1 c4), fun c4 => fun x13 e13 => hQ _ _ (((hR.1 c7).2 c4) x13 e13)⟩, fun c7 => ⟨(hR.2 c7).1, fun x14 e14 => fun x15 e15 => ⟨fun c6 => ihk.2.2.2 _ _ _ ((((hR.2 c7).2 x14 e14) x15 e15).1 c6), fun c6 => ⟨fun c5 => fun x16 e16 => ihk.2.2.2 _ _ _ ((((((hR.2 c7).2 x14 e14) x15 e15).2 c6).1 c5) x16 e16), fun c5 => ⟨(((((hR.2 c7).2 x14 e14) x15 e15).2 c6).2 c5).1, fun x17 e17 => hQ _ _ ((((((hR.2 c7).2 x14 e14) x15 e15).2 c6).2 c5).2 x17 e17)⟩⟩⟩⟩⟩
      · intro t li lj hR
        have hR : wbX12_torsion_3 (wpX12_torsion k) k t li lj Q := hR
        show wbX12_torsion_3 (wpX12_torsion k') k' t li lj Q'
        unfold wbX12_torsion_3 at hR ⊢
        exact fun x18 e18 => ihk.2.2.1 _ _ _ (hR x18 e18)
theorem wmX12_torsion {k k' : Nat} {t : XT} {a1 : Int32} {a2 : Int32} {a3 : Int32} {Q Q' : Int64 → XT → Prop} (hk : k ≤ k') (hQ : (∀ (r : Int64) (t : XT), Q r t → Q' r t)) (hR : wqX12_torsion k t a1 a2 a3 Q) : wqX12_torsion k' t a1 a2 a3 Q' := (wnX12_torsion Q Q' hQ k k' hk).1 _ _ _ hR
set_option maxHeartbeats 4000000 in
set_option maxRecDepth 100000 in
theorem wnX12_slack (Q Q' : Int32 → XT → Prop) (hQ : (∀ (r : Int32) (t : XT), Q r t → Q' r t)) : ∀ k k' : Nat, k ≤ k' → (∀ (t : XT) (li : Nat → Int32) (lj : Nat → Int64), wpX12_slack k 0 t li lj Q → wpX12_slack k' 0 t li lj Q') ∧ (∀ (t : XT) (li : Nat → Int32) (lj : Nat → Int64), wpX12_slack k 1 t li lj Q → wpX12_slack k' 1 t li lj Q') := by
  intro k
  induction k with
  | zero => intro k' _; exact ⟨fun _ _ _ hR => False.elim hR, fun _ _ _ hR => False.elim hR⟩
  | succ k ih =>
    intro k' hk
    cases k' with
    | zero => exact absurd hk (Nat.not_succ_le_zero k)
    | succ k' =>
      have hk := Nat.le_of_succ_le_succ hk
      have ihk := ih k' hk
      refine ⟨?_, ?_⟩
      · intro t li lj hR
        have hR : wbX12_slack_0 (wpX12_slack k) k t li lj Q := hR
        show wbX12_slack_0 (wpX12_slack k') k' t li lj Q'
        unfold wbX12_slack_0 at hR ⊢
        exact wmX12_in hk (fun y3_0 h3 => ⟨fun c1 => ihk.2 _ _ _ (h3.1 c1), fun c1 => hQ _ _ (h3.2 c1)⟩) hR
      · intro t li lj hR
        have hR : wbX12_slack_1 (wpX12_slack k) k t li lj Q := hR
        show wbX12_slack_1 (wpX12_slack k') k' t li lj Q'
        unfold wbX12_slack_1 at hR ⊢
        exact ⟨fun c2 => hQ _ _ (hR.1 c2), fun c2 => wmX12_critical hk (fun y4_0 y4_1 h4 => wmX12_betti hk (fun y5_0 y5_1 h5 => fun x6 e6 => fun x7 e7 => fun x8 e8 => ihk.2 _ _ _ (((h5 x6 e6) x7 e7) x8 e8)) h4) (hR.2 c2)⟩
theorem wmX12_slack {k k' : Nat} {t : XT} {a1 : Int32} {Q Q' : Int32 → XT → Prop} (hk : k ≤ k') (hQ : (∀ (r : Int32) (t : XT), Q r t → Q' r t)) (hR : wqX12_slack k t a1 Q) : wqX12_slack k' t a1 Q' := (wnX12_slack Q Q' hQ k k' hk).1 _ _ _ hR
set_option maxHeartbeats 4000000 in
set_option maxRecDepth 100000 in
theorem wnX12_free (Q Q' : Int32 → XT → Prop) (hQ : (∀ (r : Int32) (t : XT), Q r t → Q' r t)) : ∀ k k' : Nat, k ≤ k' → (∀ (t : XT) (li : Nat → Int32) (lj : Nat → Int64), wpX12_free k 0 t li lj Q → wpX12_free k' 0 t li lj Q') ∧ (∀ (t : XT) (li : Nat → Int32) (lj : Nat → Int64), wpX12_free k 1 t li lj Q → wpX12_free k' 1 t li lj Q') ∧ (∀ (t : XT) (li : Nat → Int32) (lj : Nat → Int64), wpX12_free k 2 t li lj Q → wpX12_free k' 2 t li lj Q') := by
  intro k
  induction k with
  | zero => intro k' _; exact ⟨fun _ _ _ hR => False.elim hR, fun _ _ _ hR => False.elim hR, fun _ _ _ hR => False.elim hR⟩
  | succ k ih =>
    intro k' hk
    cases k' with
    | zero => exact absurd hk (Nat.not_succ_le_zero k)
    | succ k' =>
      have hk := Nat.le_of_succ_le_succ hk
      have ihk := ih k' hk
      refine ⟨?_, ?_, ?_⟩
      · intro t li lj hR
        have hR : wbX12_free_0 (wpX12_free k) k t li lj Q := hR
        show wbX12_free_0 (wpX12_free k') k' t li lj Q'
        unfold wbX12_free_0 at hR ⊢
        exact ⟨fun c1 => ihk.2.1 _ _ _ (hR.1 c1), fun c1 => hQ _ _ (hR.2 c1)⟩
      · intro t li lj hR
        have hR : wbX12_free_1 (wpX12_free k) k t li lj Q := hR
        show wbX12_free_1 (wpX12_free k') k' t li lj Q'
        unfold wbX12_free_1 at hR ⊢
        exact ⟨fun c5 => ⟨fun c2 => hQ _ _ ((hR.1 c5).1 c2), fun c2 => hQ _ _ ((hR.1 c5).2 c2)⟩, fun c5 => wmX12_isFreeFace hk (fun y6_0 y6_1 h6 => ⟨fun c4 => ihk.2.2 _ _ _ (h6.1 c4), fun c4 => ⟨fun c3 => fun x7 e7 => ihk.2.2 _ _ _ (((h6.2 c4).1 c3) x7 e7), fun c3 => hQ _ _ ((h6.2 c4).2 c3)⟩⟩) (hR.2 c5)⟩
      · intro t li lj hR
        have hR : wbX12_free_2 (wpX12_free k) k t li lj Q := hR
        show wbX12_free_2 (wpX12_free k') k' t li lj Q'
        unfold wbX12_free_2 at hR ⊢
        exact fun x8 e8 => ihk.2.1 _ _ _ (hR x8 e8)
theorem wmX12_free {k k' : Nat} {t : XT} {a1 : Int32} {Q Q' : Int32 → XT → Prop} (hk : k ≤ k') (hQ : (∀ (r : Int32) (t : XT), Q r t → Q' r t)) (hR : wqX12_free k t a1 Q) : wqX12_free k' t a1 Q' := (wnX12_free Q Q' hQ k k' hk).1 _ _ _ hR
set_option maxHeartbeats 4000000 in
set_option maxRecDepth 100000 in
theorem wnX12_facet (Q Q' : Int32 → XT → Prop) (hQ : (∀ (r : Int32) (t : XT), Q r t → Q' r t)) : ∀ k k' : Nat, k ≤ k' → (∀ (t : XT) (li : Nat → Int32) (lj : Nat → Int64), wpX12_facet k 0 t li lj Q → wpX12_facet k' 0 t li lj Q') ∧ (∀ (t : XT) (li : Nat → Int32) (lj : Nat → Int64), wpX12_facet k 1 t li lj Q → wpX12_facet k' 1 t li lj Q') ∧ (∀ (t : XT) (li : Nat → Int32) (lj : Nat → Int64), wpX12_facet k 2 t li lj Q → wpX12_facet k' 2 t li lj Q') := by
  intro k
  induction k with
  | zero => intro k' _; exact ⟨fun _ _ _ hR => False.elim hR, fun _ _ _ hR => False.elim hR, fun _ _ _ hR => False.elim hR⟩
  | succ k ih =>
    intro k' hk
    cases k' with
    | zero => exact absurd hk (Nat.not_succ_le_zero k)
    | succ k' =>
      have hk := Nat.le_of_succ_le_succ hk
      have ihk := ih k' hk
      refine ⟨?_, ?_, ?_⟩
      · intro t li lj hR
        have hR : wbX12_facet_0 (wpX12_facet k) k t li lj Q := hR
        show wbX12_facet_0 (wpX12_facet k') k' t li lj Q'
        unfold wbX12_facet_0 at hR ⊢
        exact ⟨fun c1 => ihk.2.1 _ _ _ (hR.1 c1), fun c1 => hQ _ _ (hR.2 c1)⟩
      · intro t li lj hR
        have hR : wbX12_facet_1 (wpX12_facet k) k t li lj Q := hR
        show wbX12_facet_1 (wpX12_facet k') k' t li lj Q'
        unfold wbX12_facet_1 at hR ⊢
        exact ⟨fun c6 => ⟨fun c2 => hQ _ _ ((hR.1 c6).1 c2), fun c2 => hQ _ _ ((hR.1 c6).2 c2)⟩, fun c6 => wmX12_isThere hk (fun y7_0 y7_1 h7 => ⟨fun c5 => ihk.2.2 _ _ _ (h7.1 c5), fun c5 => wmX12_facesOver hk (fun y8_0 y8_1 h8 => ⟨fun c4 => ihk.2.2 _ _ _ (h8.1 c4), fun c4 => ⟨fun c3 => fun x9 e9 => ihk.2.2 _ _ _ (((h8.2 c4).1 c3) x9 e9), fun c3 => hQ _ _ ((h8.2 c4).2 c3)⟩⟩) (h7.2 c5)⟩) (hR.2 c6)⟩
      · intro t li lj hR
        have hR : wbX12_facet_2 (wpX12_facet k) k t li lj Q := hR
        show wbX12_facet_2 (wpX12_facet k') k' t li lj Q'
        unfold wbX12_facet_2 at hR ⊢
        exact fun x10 e10 => ihk.2.1 _ _ _ (hR x10 e10)
theorem wmX12_facet {k k' : Nat} {t : XT} {a1 : Int32} {Q Q' : Int32 → XT → Prop} (hk : k ≤ k') (hQ : (∀ (r : Int32) (t : XT), Q r t → Q' r t)) (hR : wqX12_facet k t a1 Q) : wqX12_facet k' t a1 Q' := (wnX12_facet Q Q' hQ k k' hk).1 _ _ _ hR
set_option maxHeartbeats 4000000 in
set_option maxRecDepth 100000 in
theorem wnX12_alternating (Q Q' : Int32 → XT → Prop) (hQ : (∀ (r : Int32) (t : XT), Q r t → Q' r t)) : ∀ k k' : Nat, k ≤ k' → (∀ (t : XT) (li : Nat → Int32) (lj : Nat → Int64), wpX12_alternating k 0 t li lj Q → wpX12_alternating k' 0 t li lj Q') := by
  intro k
  induction k with
  | zero => intro k' _; exact fun _ _ _ hR => False.elim hR
  | succ k ih =>
    intro k' hk
    cases k' with
    | zero => exact absurd hk (Nat.not_succ_le_zero k)
    | succ k' =>
      have hk := Nat.le_of_succ_le_succ hk
      have ihk := ih k' hk
      intro t li lj hR
      have hR : wbX12_alternating_0 (wpX12_alternating k) k t li lj Q := hR
      show wbX12_alternating_0 (wpX12_alternating k') k' t li lj Q'
      unfold wbX12_alternating_0 at hR ⊢
      exact wmX12_dimOf hk (fun y2_0 y2_1 h2 => ⟨h2.1, fun x3 e3 => ⟨fun c1 => hQ _ _ ((h2.2 x3 e3).1 c1), fun c1 => hQ _ _ ((h2.2 x3 e3).2 c1)⟩⟩) hR
theorem wmX12_alternating {k k' : Nat} {t : XT} {a1 : Int32} {Q Q' : Int32 → XT → Prop} (hk : k ≤ k') (hQ : (∀ (r : Int32) (t : XT), Q r t → Q' r t)) (hR : wqX12_alternating k t a1 Q) : wqX12_alternating k' t a1 Q' := (wnX12_alternating Q Q' hQ k k' hk) _ _ _ hR
set_option maxHeartbeats 4000000 in
set_option maxRecDepth 100000 in
theorem wnX12_link (Q Q' : Int32 → XT → Prop) (hQ : (∀ (r : Int32) (t : XT), Q r t → Q' r t)) : ∀ k k' : Nat, k ≤ k' → (∀ (t : XT) (li : Nat → Int32) (lj : Nat → Int64), wpX12_link k 0 t li lj Q → wpX12_link k' 0 t li lj Q') ∧ (∀ (t : XT) (li : Nat → Int32) (lj : Nat → Int64), wpX12_link k 1 t li lj Q → wpX12_link k' 1 t li lj Q') ∧ (∀ (t : XT) (li : Nat → Int32) (lj : Nat → Int64), wpX12_link k 2 t li lj Q → wpX12_link k' 2 t li lj Q') ∧ (∀ (t : XT) (li : Nat → Int32) (lj : Nat → Int64), wpX12_link k 3 t li lj Q → wpX12_link k' 3 t li lj Q') ∧ (∀ (t : XT) (li : Nat → Int32) (lj : Nat → Int64), wpX12_link k 4 t li lj Q → wpX12_link k' 4 t li lj Q') := by
  intro k
  induction k with
  | zero => intro k' _; exact ⟨fun _ _ _ hR => False.elim hR, fun _ _ _ hR => False.elim hR, fun _ _ _ hR => False.elim hR, fun _ _ _ hR => False.elim hR, fun _ _ _ hR => False.elim hR⟩
  | succ k ih =>
    intro k' hk
    cases k' with
    | zero => exact absurd hk (Nat.not_succ_le_zero k)
    | succ k' =>
      have hk := Nat.le_of_succ_le_succ hk
      have ihk := ih k' hk
      refine ⟨?_, ?_, ?_, ?_, ?_⟩
      · intro t li lj hR
        have hR : wbX12_link_0 (wpX12_link k) k t li lj Q := hR
        show wbX12_link_0 (wpX12_link k') k' t li lj Q'
        unfold wbX12_link_0 at hR ⊢
        exact wmX12_isThere hk (fun y9_0 y9_1 h9 => ⟨fun c2 => ihk.2.1 _ _ _ (h9.1 c2), fun c2 => wmX12_in hk (fun y10_0 h10 => ⟨fun c1 => ihk.2.2.1 _ _ _ (h10.1 c1), fun c1 => ihk.2.1 _ _ _ (h10.2 c1)⟩) (h9.2 c2)⟩) hR
      · intro t li lj hR
        have hR : wbX12_link_1 (wpX12_link k) k t li lj Q := hR
        show wbX12_link_1 (wpX12_link k') k' t li lj Q'
        unfold wbX12_link_1 at hR ⊢
        exact hQ _ _ hR
      · intro t li lj hR
        have hR : wbX12_link_2 (wpX12_link k) k t li lj Q := hR
        show wbX12_link_2 (wpX12_link k') k' t li lj Q'
        unfold wbX12_link_2 at hR ⊢
        exact ⟨fun c8 => hQ _ _ (hR.1 c8), fun c8 => wmX12_isThere hk (fun y11_0 y11_1 h11 => ⟨fun c7 => ihk.2.2.2.2 _ _ _ (h11.1 c7), fun c7 => ⟨(h11.2 c7).1, fun x12 e12 => ⟨((h11.2 c7).2 x12 e12).1, fun x13 e13 => fun x14 e14 => ⟨fun c6 => ⟨(((((h11.2 c7).2 x12 e12).2 x13 e13) x14 e14).1 c6).1, fun x15 e15 => ⟨((((((h11.2 c7).2 x12 e12).2 x13 e13) x14 e14).1 c6).2 x15 e15).1, fun x16 e16 => fun x17 e17 => ⟨((((((((h11.2 c7).2 x12 e12).2 x13 e13) x14 e14).1 c6).2 x15 e15).2 x16 e16) x17 e17).1, fun x18 e18 => ⟨fun c5 => ihk.2.2.2.2 _ _ _ ((((((((((h11.2 c7).2 x12 e12).2 x13 e13) x14 e14).1 c6).2 x15 e15).2 x16 e16) x17 e17).2 x18 e18).1 c5), fun c5 => wmX12_isThere hk (fun y19_0 y19_1 h19 => ⟨fun c4 => ihk.2.2.2.2 _ _ _ (h19.1 c4), fun c4 => ⟨fun c3 => wmX12_alternating hk (fun y20_0 y20_1 h20 => ihk.2.2.2.1 _ _ _ h20) ((h19.2 c4).1 c3), fun c3 => ihk.2.2.2.1 _ _ _ ((h19.2 c4).2 c3)⟩⟩) ((((((((((h11.2 c7).2 x12 e12).2 x13 e13) x14 e14).1 c6).2 x15 e15).2 x16 e16) x17 e17).2 x18 e18).2 c5)⟩⟩⟩⟩, fun c6 => ihk.2.2.2.2 _ _ _ (((((h11.2 c7).2 x12 e12).2 x13 e13) x14 e14).2 c6)⟩⟩⟩⟩) (hR.2 c8)⟩
      · intro t li lj hR
        have hR : wbX12_link_3 (wpX12_link k) k t li lj Q := hR
        show wbX12_link_3 (wpX12_link k') k' t li lj Q'
        unfold wbX12_link_3 at hR ⊢
        exact fun x21 e21 => ihk.2.2.2.2 _ _ _ (hR x21 e21)
      · intro t li lj hR
        have hR : wbX12_link_4 (wpX12_link k) k t li lj Q := hR
        show wbX12_link_4 (wpX12_link k') k' t li lj Q'
        unfold wbX12_link_4 at hR ⊢
        exact fun x22 e22 => ihk.2.2.1 _ _ _ (hR x22 e22)
theorem wmX12_link {k k' : Nat} {t : XT} {a1 : Int32} {a2 : Int32} {Q Q' : Int32 → XT → Prop} (hk : k ≤ k') (hQ : (∀ (r : Int32) (t : XT), Q r t → Q' r t)) (hR : wqX12_link k t a1 a2 Q) : wqX12_link k' t a1 a2 Q' := (wnX12_link Q Q' hQ k k' hk).1 _ _ _ hR
set_option maxHeartbeats 4000000 in
set_option maxRecDepth 100000 in
theorem wnX12_room (Q Q' : Int32 → XT → Prop) (hQ : (∀ (r : Int32) (t : XT), Q r t → Q' r t)) : ∀ k k' : Nat, k ≤ k' → (∀ (t : XT) (li : Nat → Int32) (lj : Nat → Int64), wpX12_room k 0 t li lj Q → wpX12_room k' 0 t li lj Q') ∧ (∀ (t : XT) (li : Nat → Int32) (lj : Nat → Int64), wpX12_room k 1 t li lj Q → wpX12_room k' 1 t li lj Q') ∧ (∀ (t : XT) (li : Nat → Int32) (lj : Nat → Int64), wpX12_room k 2 t li lj Q → wpX12_room k' 2 t li lj Q') ∧ (∀ (t : XT) (li : Nat → Int32) (lj : Nat → Int64), wpX12_room k 3 t li lj Q → wpX12_room k' 3 t li lj Q') := by
  intro k
  induction k with
  | zero => intro k' _; exact ⟨fun _ _ _ hR => False.elim hR, fun _ _ _ hR => False.elim hR, fun _ _ _ hR => False.elim hR, fun _ _ _ hR => False.elim hR⟩
  | succ k ih =>
    intro k' hk
    cases k' with
    | zero => exact absurd hk (Nat.not_succ_le_zero k)
    | succ k' =>
      have hk := Nat.le_of_succ_le_succ hk
      have ihk := ih k' hk
      refine ⟨?_, ?_, ?_, ?_⟩
      · intro t li lj hR
        have hR : wbX12_room_0 (wpX12_room k) k t li lj Q := hR
        show wbX12_room_0 (wpX12_room k') k' t li lj Q'
        unfold wbX12_room_0 at hR ⊢
        exact wmX12_in hk (fun y8_0 h8 => ⟨fun c1 => ihk.2.1 _ _ _ (h8.1 c1), fun c1 => hQ _ _ (h8.2 c1)⟩) hR
      · intro t li lj hR
        have hR : wbX12_room_1 (wpX12_room k) k t li lj Q := hR
        show wbX12_room_1 (wpX12_room k') k' t li lj Q'
        unfold wbX12_room_1 at hR ⊢
        exact ⟨fun c2 => hQ _ _ (hR.1 c2), fun c2 => ihk.2.2.1 _ _ _ (hR.2 c2)⟩
      · intro t li lj hR
        have hR : wbX12_room_2 (wpX12_room k) k t li lj Q := hR
        show wbX12_room_2 (wpX12_room k') k' t li lj Q'
        unfold wbX12_room_2 at hR ⊢
        exact ⟨fun c7 => fun x9 e9 => ihk.2.1 _ _ _ ((hR.1 c7) x9 e9), fun c7 => wmX12_dimOf hk (fun y10_0 y10_1 h10 => ⟨fun c6 => ihk.2.2.2 _ _ _ (h10.1 c6), fun c6 => wmX12_isFaceThere hk (fun y11_0 y11_1 h11 => ⟨fun c5 => ihk.2.2.2 _ _ _ (h11.1 c5), fun c5 => wmX12_isFree hk (fun y12_0 y12_1 h12 => ⟨fun c4 => ihk.2.2.2 _ _ _ (h12.1 c4), fun c4 => wmX12_couples hk (fun y13_0 y13_1 h13 => ⟨fun c3 => ihk.2.2.2 _ _ _ (h13.1 c3), fun c3 => wmX12_frees hk (fun y14_0 h14 => fun x15 e15 => ihk.2.2.2 _ _ _ (h14 x15 e15)) (h13.2 c3)⟩) (h12.2 c4)⟩) (h11.2 c5)⟩) (h10.2 c6)⟩) (hR.2 c7)⟩
      · intro t li lj hR
        have hR : wbX12_room_3 (wpX12_room k) k t li lj Q := hR
        show wbX12_room_3 (wpX12_room k') k' t li lj Q'
        unfold wbX12_room_3 at hR ⊢
        exact fun x16 e16 => ihk.2.2.1 _ _ _ (hR x16 e16)
theorem wmX12_room {k k' : Nat} {t : XT} {a1 : Int32} {Q Q' : Int32 → XT → Prop} (hk : k ≤ k') (hQ : (∀ (r : Int32) (t : XT), Q r t → Q' r t)) (hR : wqX12_room k t a1 Q) : wqX12_room k' t a1 Q' := (wnX12_room Q Q' hQ k k' hk).1 _ _ _ hR
set_option maxHeartbeats 4000000 in
set_option maxRecDepth 100000 in
theorem wnX12_draws (Q Q' : Int32 → XT → Prop) (hQ : (∀ (r : Int32) (t : XT), Q r t → Q' r t)) : ∀ k k' : Nat, k ≤ k' → (∀ (t : XT) (li : Nat → Int32) (lj : Nat → Int64), wpX12_draws k 0 t li lj Q → wpX12_draws k' 0 t li lj Q') := by
  intro k
  induction k with
  | zero => intro k' _; exact fun _ _ _ hR => False.elim hR
  | succ k ih =>
    intro k' hk
    cases k' with
    | zero => exact absurd hk (Nat.not_succ_le_zero k)
    | succ k' =>
      have hk := Nat.le_of_succ_le_succ hk
      have ihk := ih k' hk
      intro t li lj hR
      have hR : wbX12_draws_0 (wpX12_draws k) k t li lj Q := hR
      show wbX12_draws_0 (wpX12_draws k') k' t li lj Q'
      unfold wbX12_draws_0 at hR ⊢
      exact ⟨fun c1 => fun x2 e2 => hQ _ _ ((hR.1 c1) x2 e2), fun c1 => hQ _ _ (hR.2 c1)⟩
theorem wmX12_draws {k k' : Nat} {t : XT} {a1 : Int32} {Q Q' : Int32 → XT → Prop} (hk : k ≤ k') (hQ : (∀ (r : Int32) (t : XT), Q r t → Q' r t)) (hR : wqX12_draws k t a1 Q) : wqX12_draws k' t a1 Q' := (wnX12_draws Q Q' hQ k k' hk) _ _ _ hR
set_option maxHeartbeats 4000000 in
set_option maxRecDepth 100000 in
theorem wnX12_openDim (Q Q' : Int32 → XT → Prop) (hQ : (∀ (r : Int32) (t : XT), Q r t → Q' r t)) : ∀ k k' : Nat, k ≤ k' → (∀ (t : XT) (li : Nat → Int32) (lj : Nat → Int64), wpX12_openDim k 0 t li lj Q → wpX12_openDim k' 0 t li lj Q') ∧ (∀ (t : XT) (li : Nat → Int32) (lj : Nat → Int64), wpX12_openDim k 1 t li lj Q → wpX12_openDim k' 1 t li lj Q') ∧ (∀ (t : XT) (li : Nat → Int32) (lj : Nat → Int64), wpX12_openDim k 2 t li lj Q → wpX12_openDim k' 2 t li lj Q') := by
  intro k
  induction k with
  | zero => intro k' _; exact ⟨fun _ _ _ hR => False.elim hR, fun _ _ _ hR => False.elim hR, fun _ _ _ hR => False.elim hR⟩
  | succ k ih =>
    intro k' hk
    cases k' with
    | zero => exact absurd hk (Nat.not_succ_le_zero k)
    | succ k' =>
      have hk := Nat.le_of_succ_le_succ hk
      have ihk := ih k' hk
      refine ⟨?_, ?_, ?_⟩
      · intro t li lj hR
        have hR : wbX12_openDim_0 (wpX12_openDim k) k t li lj Q := hR
        show wbX12_openDim_0 (wpX12_openDim k') k' t li lj Q'
        unfold wbX12_openDim_0 at hR ⊢
        exact ihk.2.1 _ _ _ hR
      · intro t li lj hR
        have hR : wbX12_openDim_1 (wpX12_openDim k) k t li lj Q := hR
        show wbX12_openDim_1 (wpX12_openDim k') k' t li lj Q'
        unfold wbX12_openDim_1 at hR ⊢
        exact ⟨fun c2 => hQ _ _ (hR.1 c2), fun c2 => ⟨(hR.2 c2).1, fun x3 e3 => ⟨fun c1 => ihk.2.2 _ _ _ (((hR.2 c2).2 x3 e3).1 c1), fun c1 => wmX12_dimOf hk (fun y4_0 y4_1 h4 => fun x5 e5 => ihk.2.2 _ _ _ (h4 x5 e5)) (((hR.2 c2).2 x3 e3).2 c1)⟩⟩⟩
      · intro t li lj hR
        have hR : wbX12_openDim_2 (wpX12_openDim k) k t li lj Q := hR
        show wbX12_openDim_2 (wpX12_openDim k') k' t li lj Q'
        unfold wbX12_openDim_2 at hR ⊢
        exact fun x6 e6 => ihk.2.1 _ _ _ (hR x6 e6)
theorem wmX12_openDim {k k' : Nat} {t : XT}  {Q Q' : Int32 → XT → Prop} (hk : k ≤ k') (hQ : (∀ (r : Int32) (t : XT), Q r t → Q' r t)) (hR : wqX12_openDim k t  Q) : wqX12_openDim k' t  Q' := (wnX12_openDim Q Q' hQ k k' hk).1 _ _ _ hR
set_option maxHeartbeats 4000000 in
set_option maxRecDepth 100000 in
theorem wnX12_laysChoices (Q Q' : Int32 → XT → Prop) (hQ : (∀ (r : Int32) (t : XT), Q r t → Q' r t)) : ∀ k k' : Nat, k ≤ k' → (∀ (t : XT) (li : Nat → Int32) (lj : Nat → Int64), wpX12_laysChoices k 0 t li lj Q → wpX12_laysChoices k' 0 t li lj Q') ∧ (∀ (t : XT) (li : Nat → Int32) (lj : Nat → Int64), wpX12_laysChoices k 1 t li lj Q → wpX12_laysChoices k' 1 t li lj Q') ∧ (∀ (t : XT) (li : Nat → Int32) (lj : Nat → Int64), wpX12_laysChoices k 2 t li lj Q → wpX12_laysChoices k' 2 t li lj Q') ∧ (∀ (t : XT) (li : Nat → Int32) (lj : Nat → Int64), wpX12_laysChoices k 3 t li lj Q → wpX12_laysChoices k' 3 t li lj Q') := by
  intro k
  induction k with
  | zero => intro k' _; exact ⟨fun _ _ _ hR => False.elim hR, fun _ _ _ hR => False.elim hR, fun _ _ _ hR => False.elim hR, fun _ _ _ hR => False.elim hR⟩
  | succ k ih =>
    intro k' hk
    cases k' with
    | zero => exact absurd hk (Nat.not_succ_le_zero k)
    | succ k' =>
      have hk := Nat.le_of_succ_le_succ hk
      have ihk := ih k' hk
      refine ⟨?_, ?_, ?_, ?_⟩
      · intro t li lj hR
        have hR : wbX12_laysChoices_0 (wpX12_laysChoices k) k t li lj Q := hR
        show wbX12_laysChoices_0 (wpX12_laysChoices k') k' t li lj Q'
        unfold wbX12_laysChoices_0 at hR ⊢
        exact ihk.2.1 _ _ _ hR
      · intro t li lj hR
        have hR : wbX12_laysChoices_1 (wpX12_laysChoices k) k t li lj Q := hR
        show wbX12_laysChoices_1 (wpX12_laysChoices k') k' t li lj Q'
        unfold wbX12_laysChoices_1 at hR ⊢
        exact ⟨fun c5 => hQ _ _ (hR.1 c5), fun c5 => ⟨(hR.2 c5).1, fun x6 e6 => ⟨fun c4 => ihk.2.2.2 _ _ _ (((hR.2 c5).2 x6 e6).1 c4), fun c4 => ⟨fun c3 => wmX12_dimOf hk (fun y7_0 y7_1 h7 => ⟨fun c1 => ihk.2.2.2 _ _ _ (h7.1 c1), fun c1 => ihk.2.2.1 _ _ _ (h7.2 c1)⟩) ((((hR.2 c5).2 x6 e6).2 c4).1 c3), fun c3 => wmX12_onlyOver hk (fun y8_0 y8_1 h8 => ⟨fun c2 => ihk.2.2.2 _ _ _ (h8.1 c2), fun c2 => ihk.2.2.1 _ _ _ (h8.2 c2)⟩) ((((hR.2 c5).2 x6 e6).2 c4).2 c3)⟩⟩⟩⟩
      · intro t li lj hR
        have hR : wbX12_laysChoices_2 (wpX12_laysChoices k) k t li lj Q := hR
        show wbX12_laysChoices_2 (wpX12_laysChoices k') k' t li lj Q'
        unfold wbX12_laysChoices_2 at hR ⊢
        exact ⟨hR.1, fun x9 e9 => fun x10 e10 => ihk.2.2.2 _ _ _ ((hR.2 x9 e9) x10 e10)⟩
      · intro t li lj hR
        have hR : wbX12_laysChoices_3 (wpX12_laysChoices k) k t li lj Q := hR
        show wbX12_laysChoices_3 (wpX12_laysChoices k') k' t li lj Q'
        unfold wbX12_laysChoices_3 at hR ⊢
        exact fun x11 e11 => ihk.2.1 _ _ _ (hR x11 e11)
theorem wmX12_laysChoices {k k' : Nat} {t : XT} {a1 : Int32} {a2 : Int32} {Q Q' : Int32 → XT → Prop} (hk : k ≤ k') (hQ : (∀ (r : Int32) (t : XT), Q r t → Q' r t)) (hR : wqX12_laysChoices k t a1 a2 Q) : wqX12_laysChoices k' t a1 a2 Q' := (wnX12_laysChoices Q Q' hQ k k' hk).1 _ _ _ hR
set_option maxHeartbeats 4000000 in
set_option maxRecDepth 100000 in
theorem wnX12_drawnOf (Q Q' : Int32 → XT → Prop) (hQ : (∀ (r : Int32) (t : XT), Q r t → Q' r t)) : ∀ k k' : Nat, k ≤ k' → (∀ (t : XT) (li : Nat → Int32) (lj : Nat → Int64), wpX12_drawnOf k 0 t li lj Q → wpX12_drawnOf k' 0 t li lj Q') := by
  intro k
  induction k with
  | zero => intro k' _; exact fun _ _ _ hR => False.elim hR
  | succ k ih =>
    intro k' hk
    cases k' with
    | zero => exact absurd hk (Nat.not_succ_le_zero k)
    | succ k' =>
      have hk := Nat.le_of_succ_le_succ hk
      have ihk := ih k' hk
      intro t li lj hR
      have hR : wbX12_drawnOf_0 (wpX12_drawnOf k) k t li lj Q := hR
      show wbX12_drawnOf_0 (wpX12_drawnOf k') k' t li lj Q'
      unfold wbX12_drawnOf_0 at hR ⊢
      exact fun x1 e1 => fun x2 e2 => fun x3 e3 => ⟨(((hR x1 e1) x2 e2) x3 e3).1, fun x4 e4 => fun x5 e5 => fun x6 e6 => ⟨((((((hR x1 e1) x2 e2) x3 e3).2 x4 e4) x5 e5) x6 e6).1, fun x7 e7 => ⟨(((((((hR x1 e1) x2 e2) x3 e3).2 x4 e4) x5 e5) x6 e6).2 x7 e7).1, fun x8 e8 => hQ _ _ ((((((((hR x1 e1) x2 e2) x3 e3).2 x4 e4) x5 e5) x6 e6).2 x7 e7).2 x8 e8)⟩⟩⟩
theorem wmX12_drawnOf {k k' : Nat} {t : XT} {a1 : Int32} {Q Q' : Int32 → XT → Prop} (hk : k ≤ k') (hQ : (∀ (r : Int32) (t : XT), Q r t → Q' r t)) (hR : wqX12_drawnOf k t a1 Q) : wqX12_drawnOf k' t a1 Q' := (wnX12_drawnOf Q Q' hQ k k' hk) _ _ _ hR
set_option maxHeartbeats 4000000 in
set_option maxRecDepth 100000 in
theorem wnX12_drawnOnce (Q Q' : Int32 → XT → Prop) (hQ : (∀ (r : Int32) (t : XT), Q r t → Q' r t)) : ∀ k k' : Nat, k ≤ k' → (∀ (t : XT) (li : Nat → Int32) (lj : Nat → Int64), wpX12_drawnOnce k 0 t li lj Q → wpX12_drawnOnce k' 0 t li lj Q') ∧ (∀ (t : XT) (li : Nat → Int32) (lj : Nat → Int64), wpX12_drawnOnce k 1 t li lj Q → wpX12_drawnOnce k' 1 t li lj Q') ∧ (∀ (t : XT) (li : Nat → Int32) (lj : Nat → Int64), wpX12_drawnOnce k 2 t li lj Q → wpX12_drawnOnce k' 2 t li lj Q') := by
  intro k
  induction k with
  | zero => intro k' _; exact ⟨fun _ _ _ hR => False.elim hR, fun _ _ _ hR => False.elim hR, fun _ _ _ hR => False.elim hR⟩
  | succ k ih =>
    intro k' hk
    cases k' with
    | zero => exact absurd hk (Nat.not_succ_le_zero k)
    | succ k' =>
      have hk := Nat.le_of_succ_le_succ hk
      have ihk := ih k' hk
      refine ⟨?_, ?_, ?_⟩
      · intro t li lj hR
        have hR : wbX12_drawnOnce_0 (wpX12_drawnOnce k) k t li lj Q := hR
        show wbX12_drawnOnce_0 (wpX12_drawnOnce k') k' t li lj Q'
        unfold wbX12_drawnOnce_0 at hR ⊢
        exact wmX12_opensAll hk (fun y3_0 h3 => wmX12_openDim hk (fun y4_0 y4_1 h4 => ihk.2.1 _ _ _ h4) h3) hR
      · intro t li lj hR
        have hR : wbX12_drawnOnce_1 (wpX12_drawnOnce k) k t li lj Q := hR
        show wbX12_drawnOnce_1 (wpX12_drawnOnce k') k' t li lj Q'
        unfold wbX12_drawnOnce_1 at hR ⊢
        exact ⟨fun c2 => hQ _ _ (hR.1 c2), fun c2 => wmX12_laysChoices hk (fun y5_0 y5_1 h5 => ⟨fun c1 => wmX12_laysChoices hk (fun y6_0 y6_1 h6 => wmX12_drawnOf hk (fun y7_0 y7_1 h7 => ⟨h7.1, fun x8 e8 => ⟨(h7.2 x8 e8).1, fun x9 e9 => fun x10 e10 => ihk.2.2 _ _ _ (((h7.2 x8 e8).2 x9 e9) x10 e10)⟩⟩) h6) (h5.1 c1), fun c1 => wmX12_drawnOf hk (fun y11_0 y11_1 h11 => ⟨h11.1, fun x12 e12 => wmX12_onlyOver hk (fun y13_0 y13_1 h13 => wmX12_closes hk (fun y14_0 h14 => ihk.2.2 _ _ _ h14) h13) (h11.2 x12 e12)⟩) (h5.2 c1)⟩) (hR.2 c2)⟩
      · intro t li lj hR
        have hR : wbX12_drawnOnce_2 (wpX12_drawnOnce k) k t li lj Q := hR
        show wbX12_drawnOnce_2 (wpX12_drawnOnce k') k' t li lj Q'
        unfold wbX12_drawnOnce_2 at hR ⊢
        exact wmX12_openDim hk (fun y15_0 y15_1 h15 => ihk.2.1 _ _ _ h15) hR
theorem wmX12_drawnOnce {k k' : Nat} {t : XT}  {Q Q' : Int32 → XT → Prop} (hk : k ≤ k') (hQ : (∀ (r : Int32) (t : XT), Q r t → Q' r t)) (hR : wqX12_drawnOnce k t  Q) : wqX12_drawnOnce k' t  Q' := (wnX12_drawnOnce Q Q' hQ k k' hk).1 _ _ _ hR
set_option maxHeartbeats 4000000 in
set_option maxRecDepth 100000 in
theorem wnX12_drawn (Q Q' : Int32 → XT → Prop) (hQ : (∀ (r : Int32) (t : XT), Q r t → Q' r t)) : ∀ k k' : Nat, k ≤ k' → (∀ (t : XT) (li : Nat → Int32) (lj : Nat → Int64), wpX12_drawn k 0 t li lj Q → wpX12_drawn k' 0 t li lj Q') ∧ (∀ (t : XT) (li : Nat → Int32) (lj : Nat → Int64), wpX12_drawn k 1 t li lj Q → wpX12_drawn k' 1 t li lj Q') ∧ (∀ (t : XT) (li : Nat → Int32) (lj : Nat → Int64), wpX12_drawn k 2 t li lj Q → wpX12_drawn k' 2 t li lj Q') ∧ (∀ (t : XT) (li : Nat → Int32) (lj : Nat → Int64), wpX12_drawn k 3 t li lj Q → wpX12_drawn k' 3 t li lj Q') ∧ (∀ (t : XT) (li : Nat → Int32) (lj : Nat → Int64), wpX12_drawn k 4 t li lj Q → wpX12_drawn k' 4 t li lj Q') ∧ (∀ (t : XT) (li : Nat → Int32) (lj : Nat → Int64), wpX12_drawn k 5 t li lj Q → wpX12_drawn k' 5 t li lj Q') := by
  intro k
  induction k with
  | zero => intro k' _; exact ⟨fun _ _ _ hR => False.elim hR, fun _ _ _ hR => False.elim hR, fun _ _ _ hR => False.elim hR, fun _ _ _ hR => False.elim hR, fun _ _ _ hR => False.elim hR, fun _ _ _ hR => False.elim hR⟩
  | succ k ih =>
    intro k' hk
    cases k' with
    | zero => exact absurd hk (Nat.not_succ_le_zero k)
    | succ k' =>
      have hk := Nat.le_of_succ_le_succ hk
      have ihk := ih k' hk
      refine ⟨?_, ?_, ?_, ?_, ?_, ?_⟩
      · intro t li lj hR
        have hR : wbX12_drawn_0 (wpX12_drawn k) k t li lj Q := hR
        show wbX12_drawn_0 (wpX12_drawn k') k' t li lj Q'
        unfold wbX12_drawn_0 at hR ⊢
        exact ⟨fun c3 => ihk.2.1 _ _ _ (hR.1 c3), fun c3 => wmX12_in hk (fun y11_0 h11 => ⟨fun c2 => ihk.2.1 _ _ _ (h11.1 c2), fun c2 => wmX12_in hk (fun y12_0 h12 => ⟨fun c1 => ihk.2.2.1 _ _ _ (h12.1 c1), fun c1 => ihk.2.1 _ _ _ (h12.2 c1)⟩) (h11.2 c2)⟩) (hR.2 c3)⟩
      · intro t li lj hR
        have hR : wbX12_drawn_1 (wpX12_drawn k) k t li lj Q := hR
        show wbX12_drawn_1 (wpX12_drawn k') k' t li lj Q'
        unfold wbX12_drawn_1 at hR ⊢
        exact hQ _ _ hR
      · intro t li lj hR
        have hR : wbX12_drawn_2 (wpX12_drawn k) k t li lj Q := hR
        show wbX12_drawn_2 (wpX12_drawn k') k' t li lj Q'
        unfold wbX12_drawn_2 at hR ⊢
        exact ⟨fun c4 => ihk.2.2.2.1 _ _ _ (hR.1 c4), fun c4 => ⟨(hR.2 c4).1, fun x13 e13 => ⟨((hR.2 c4).2 x13 e13).1, fun x14 e14 => fun x15 e15 => ihk.2.2.1 _ _ _ ((((hR.2 c4).2 x13 e13).2 x14 e14) x15 e15)⟩⟩⟩
      · intro t li lj hR
        have hR : wbX12_drawn_3 (wpX12_drawn k) k t li lj Q := hR
        show wbX12_drawn_3 (wpX12_drawn k') k' t li lj Q'
        unfold wbX12_drawn_3 at hR ⊢
        exact ⟨fun c7 => fun x16 e16 => ihk.2.2.2.2.2 _ _ _ ((hR.1 c7) x16 e16), fun c7 => wmX12_drawnOnce hk (fun y17_0 y17_1 h17 => ⟨fun c6 => ⟨fun c5 => ihk.2.2.2.2.1 _ _ _ ((h17.1 c6).1 c5), fun c5 => fun x18 e18 => ihk.2.2.2.2.1 _ _ _ (((h17.1 c6).2 c5) x18 e18)⟩, fun c6 => ihk.2.2.2.2.1 _ _ _ (h17.2 c6)⟩) (hR.2 c7)⟩
      · intro t li lj hR
        have hR : wbX12_drawn_4 (wpX12_drawn k) k t li lj Q := hR
        show wbX12_drawn_4 (wpX12_drawn k') k' t li lj Q'
        unfold wbX12_drawn_4 at hR ⊢
        exact fun x19 e19 => fun x20 e20 => fun x21 e21 => ihk.2.2.2.1 _ _ _ (((hR x19 e19) x20 e20) x21 e21)
      · intro t li lj hR
        have hR : wbX12_drawn_5 (wpX12_drawn k) k t li lj Q := hR
        show wbX12_drawn_5 (wpX12_drawn k') k' t li lj Q'
        unfold wbX12_drawn_5 at hR ⊢
        exact ⟨fun c10 => ⟨fun c9 => ⟨fun c8 => hQ _ _ (((hR.1 c10).1 c9).1 c8), fun c8 => hQ _ _ (((hR.1 c10).1 c9).2 c8)⟩, fun c9 => hQ _ _ ((hR.1 c10).2 c9)⟩, fun c10 => ⟨(hR.2 c10).1, fun x22 e22 => ⟨((hR.2 c10).2 x22 e22).1, fun x23 e23 => fun x24 e24 => ihk.2.2.2.2.2 _ _ _ ((((hR.2 c10).2 x22 e22).2 x23 e23) x24 e24)⟩⟩⟩
theorem wmX12_drawn {k k' : Nat} {t : XT} {a1 : Int32} {a2 : Int32} {Q Q' : Int32 → XT → Prop} (hk : k ≤ k') (hQ : (∀ (r : Int32) (t : XT), Q r t → Q' r t)) (hR : wqX12_drawn k t a1 a2 Q) : wqX12_drawn k' t a1 a2 Q' := (wnX12_drawn Q Q' hQ k k' hk).1 _ _ _ hR
set_option maxHeartbeats 4000000 in
set_option maxRecDepth 100000 in
theorem wnX12_level (Q Q' : Int32 → XT → Prop) (hQ : (∀ (r : Int32) (t : XT), Q r t → Q' r t)) : ∀ k k' : Nat, k ≤ k' → (∀ (t : XT) (li : Nat → Int32) (lj : Nat → Int64), wpX12_level k 0 t li lj Q → wpX12_level k' 0 t li lj Q') ∧ (∀ (t : XT) (li : Nat → Int32) (lj : Nat → Int64), wpX12_level k 1 t li lj Q → wpX12_level k' 1 t li lj Q') ∧ (∀ (t : XT) (li : Nat → Int32) (lj : Nat → Int64), wpX12_level k 2 t li lj Q → wpX12_level k' 2 t li lj Q') ∧ (∀ (t : XT) (li : Nat → Int32) (lj : Nat → Int64), wpX12_level k 3 t li lj Q → wpX12_level k' 3 t li lj Q') ∧ (∀ (t : XT) (li : Nat → Int32) (lj : Nat → Int64), wpX12_level k 4 t li lj Q → wpX12_level k' 4 t li lj Q') := by
  intro k
  induction k with
  | zero => intro k' _; exact ⟨fun _ _ _ hR => False.elim hR, fun _ _ _ hR => False.elim hR, fun _ _ _ hR => False.elim hR, fun _ _ _ hR => False.elim hR, fun _ _ _ hR => False.elim hR⟩
  | succ k ih =>
    intro k' hk
    cases k' with
    | zero => exact absurd hk (Nat.not_succ_le_zero k)
    | succ k' =>
      have hk := Nat.le_of_succ_le_succ hk
      have ihk := ih k' hk
      refine ⟨?_, ?_, ?_, ?_, ?_⟩
      · intro t li lj hR
        have hR : wbX12_level_0 (wpX12_level k) k t li lj Q := hR
        show wbX12_level_0 (wpX12_level k') k' t li lj Q'
        unfold wbX12_level_0 at hR ⊢
        exact ⟨fun c2 => ihk.2.1 _ _ _ (hR.1 c2), fun c2 => wmX12_in hk (fun y7_0 h7 => ⟨fun c1 => wmX12_laysHeights hk (fun y8_0 h8 => ihk.2.2.1 _ _ _ h8) (h7.1 c1), fun c1 => ihk.2.1 _ _ _ (h7.2 c1)⟩) (hR.2 c2)⟩
      · intro t li lj hR
        have hR : wbX12_level_1 (wpX12_level k) k t li lj Q := hR
        show wbX12_level_1 (wpX12_level k') k' t li lj Q'
        unfold wbX12_level_1 at hR ⊢
        exact hQ _ _ hR
      · intro t li lj hR
        have hR : wbX12_level_2 (wpX12_level k) k t li lj Q := hR
        show wbX12_level_2 (wpX12_level k') k' t li lj Q'
        unfold wbX12_level_2 at hR ⊢
        exact ⟨fun c6 => hQ _ _ (hR.1 c6), fun c6 => wmX12_isThere hk (fun y9_0 y9_1 h9 => ⟨fun c5 => ihk.2.2.2.2 _ _ _ (h9.1 c5), fun c5 => ⟨(h9.2 c5).1, fun x10 e10 => ⟨fun c4 => ihk.2.2.2.2 _ _ _ (((h9.2 c5).2 x10 e10).1 c4), fun c4 => ⟨fun c3 => wmX12_alternating hk (fun y11_0 y11_1 h11 => ihk.2.2.2.1 _ _ _ h11) ((((h9.2 c5).2 x10 e10).2 c4).1 c3), fun c3 => ihk.2.2.2.1 _ _ _ ((((h9.2 c5).2 x10 e10).2 c4).2 c3)⟩⟩⟩⟩) (hR.2 c6)⟩
      · intro t li lj hR
        have hR : wbX12_level_3 (wpX12_level k) k t li lj Q := hR
        show wbX12_level_3 (wpX12_level k') k' t li lj Q'
        unfold wbX12_level_3 at hR ⊢
        exact fun x12 e12 => ihk.2.2.2.2 _ _ _ (hR x12 e12)
      · intro t li lj hR
        have hR : wbX12_level_4 (wpX12_level k) k t li lj Q := hR
        show wbX12_level_4 (wpX12_level k') k' t li lj Q'
        unfold wbX12_level_4 at hR ⊢
        exact fun x13 e13 => ihk.2.2.1 _ _ _ (hR x13 e13)
theorem wmX12_level {k k' : Nat} {t : XT} {a1 : Int32} {a2 : Int32} {Q Q' : Int32 → XT → Prop} (hk : k ≤ k') (hQ : (∀ (r : Int32) (t : XT), Q r t → Q' r t)) (hR : wqX12_level k t a1 a2 Q) : wqX12_level k' t a1 a2 Q' := (wnX12_level Q Q' hQ k k' hk).1 _ _ _ hR
set_option maxHeartbeats 4000000 in
set_option maxRecDepth 100000 in
theorem wnX12_levelBetti (Q Q' : Int32 → XT → Prop) (hQ : (∀ (r : Int32) (t : XT), Q r t → Q' r t)) : ∀ k k' : Nat, k ≤ k' → (∀ (t : XT) (li : Nat → Int32) (lj : Nat → Int64), wpX12_levelBetti k 0 t li lj Q → wpX12_levelBetti k' 0 t li lj Q') ∧ (∀ (t : XT) (li : Nat → Int32) (lj : Nat → Int64), wpX12_levelBetti k 1 t li lj Q → wpX12_levelBetti k' 1 t li lj Q') ∧ (∀ (t : XT) (li : Nat → Int32) (lj : Nat → Int64), wpX12_levelBetti k 2 t li lj Q → wpX12_levelBetti k' 2 t li lj Q') ∧ (∀ (t : XT) (li : Nat → Int32) (lj : Nat → Int64), wpX12_levelBetti k 3 t li lj Q → wpX12_levelBetti k' 3 t li lj Q') ∧ (∀ (t : XT) (li : Nat → Int32) (lj : Nat → Int64), wpX12_levelBetti k 4 t li lj Q → wpX12_levelBetti k' 4 t li lj Q') ∧ (∀ (t : XT) (li : Nat → Int32) (lj : Nat → Int64), wpX12_levelBetti k 5 t li lj Q → wpX12_levelBetti k' 5 t li lj Q') ∧ (∀ (t : XT) (li : Nat → Int32) (lj : Nat → Int64), wpX12_levelBetti k 6 t li lj Q → wpX12_levelBetti k' 6 t li lj Q') ∧ (∀ (t : XT) (li : Nat → Int32) (lj : Nat → Int64), wpX12_levelBetti k 7 t li lj Q → wpX12_levelBetti k' 7 t li lj Q') ∧ (∀ (t : XT) (li : Nat → Int32) (lj : Nat → Int64), wpX12_levelBetti k 8 t li lj Q → wpX12_levelBetti k' 8 t li lj Q') := by
  intro k
  induction k with
  | zero => intro k' _; exact ⟨fun _ _ _ hR => False.elim hR, fun _ _ _ hR => False.elim hR, fun _ _ _ hR => False.elim hR, fun _ _ _ hR => False.elim hR, fun _ _ _ hR => False.elim hR, fun _ _ _ hR => False.elim hR, fun _ _ _ hR => False.elim hR, fun _ _ _ hR => False.elim hR, fun _ _ _ hR => False.elim hR⟩
  | succ k ih =>
    intro k' hk
    cases k' with
    | zero => exact absurd hk (Nat.not_succ_le_zero k)
    | succ k' =>
      have hk := Nat.le_of_succ_le_succ hk
      have ihk := ih k' hk
      refine ⟨?_, ?_, ?_, ?_, ?_, ?_, ?_, ?_, ?_⟩
      · intro t li lj hR
        have hR : wbX12_levelBetti_0 (wpX12_levelBetti k) k t li lj Q := hR
        show wbX12_levelBetti_0 (wpX12_levelBetti k') k' t li lj Q'
        unfold wbX12_levelBetti_0 at hR ⊢
        exact ⟨fun c2 => ihk.2.1 _ _ _ (hR.1 c2), fun c2 => wmX12_in hk (fun y11_0 h11 => ⟨fun c1 => wmX12_laysHeights hk (fun y12_0 h12 => ihk.2.2.1 _ _ _ h12) (h11.1 c1), fun c1 => ihk.2.1 _ _ _ (h11.2 c1)⟩) (hR.2 c2)⟩
      · intro t li lj hR
        have hR : wbX12_levelBetti_1 (wpX12_levelBetti k) k t li lj Q := hR
        show wbX12_levelBetti_1 (wpX12_levelBetti k') k' t li lj Q'
        unfold wbX12_levelBetti_1 at hR ⊢
        exact hQ _ _ hR
      · intro t li lj hR
        have hR : wbX12_levelBetti_2 (wpX12_levelBetti k) k t li lj Q := hR
        show wbX12_levelBetti_2 (wpX12_levelBetti k') k' t li lj Q'
        unfold wbX12_levelBetti_2 at hR ⊢
        exact ⟨fun c3 => wmX12_bettiTaken hk (fun y13_0 y13_1 h13 => hQ _ _ h13) (hR.1 c3), fun c3 => ⟨(hR.2 c3).1, fun x14 e14 => ihk.2.2.2.1 _ _ _ ((hR.2 c3).2 x14 e14)⟩⟩
      · intro t li lj hR
        have hR : wbX12_levelBetti_3 (wpX12_levelBetti k) k t li lj Q := hR
        show wbX12_levelBetti_3 (wpX12_levelBetti k') k' t li lj Q'
        unfold wbX12_levelBetti_3 at hR ⊢
        exact ⟨fun c7 => fun x15 e15 => ihk.2.2.1 _ _ _ ((hR.1 c7) x15 e15), fun c7 => wmX12_isThere hk (fun y16_0 y16_1 h16 => ⟨fun c6 => ihk.2.2.2.2.1 _ _ _ (h16.1 c6), fun c6 => ⟨(h16.2 c6).1, fun x17 e17 => ⟨fun c5 => ihk.2.2.2.2.1 _ _ _ (((h16.2 c6).2 x17 e17).1 c5), fun c5 => ⟨(((h16.2 c6).2 x17 e17).2 c5).1, fun x18 e18 => ⟨((((h16.2 c6).2 x17 e17).2 c5).2 x18 e18).1, fun x19 e19 => fun x20 e20 => fun x21 e21 => ⟨fun c4 => ihk.2.2.2.2.1 _ _ _ ((((((((h16.2 c6).2 x17 e17).2 c5).2 x18 e18).2 x19 e19) x20 e20) x21 e21).1 c4), fun c4 => ihk.2.2.2.2.2.1 _ _ _ ((((((((h16.2 c6).2 x17 e17).2 c5).2 x18 e18).2 x19 e19) x20 e20) x21 e21).2 c4)⟩⟩⟩⟩⟩⟩) (hR.2 c7)⟩
      · intro t li lj hR
        have hR : wbX12_levelBetti_4 (wpX12_levelBetti k) k t li lj Q := hR
        show wbX12_levelBetti_4 (wpX12_levelBetti k') k' t li lj Q'
        unfold wbX12_levelBetti_4 at hR ⊢
        exact ihk.2.2.2.2.2.1 _ _ _ hR
      · intro t li lj hR
        have hR : wbX12_levelBetti_5 (wpX12_levelBetti k) k t li lj Q := hR
        show wbX12_levelBetti_5 (wpX12_levelBetti k') k' t li lj Q'
        unfold wbX12_levelBetti_5 at hR ⊢
        exact ⟨hR.1, fun x22 e22 => ⟨fun c10 => ihk.2.2.2.2.2.2.1 _ _ _ ((hR.2 x22 e22).1 c10), fun c10 => ⟨fun c9 => ihk.2.2.2.2.2.2.2.1 _ _ _ (((hR.2 x22 e22).2 c10).1 c9), fun c9 => wmX12_isThere hk (fun y23_0 y23_1 h23 => ⟨fun c8 => ihk.2.2.2.2.2.2.2.1 _ _ _ (h23.1 c8), fun c8 => ihk.2.2.2.2.2.2.1 _ _ _ (h23.2 c8)⟩) (((hR.2 x22 e22).2 c10).2 c9)⟩⟩⟩
      · intro t li lj hR
        have hR : wbX12_levelBetti_6 (wpX12_levelBetti k) k t li lj Q := hR
        show wbX12_levelBetti_6 (wpX12_levelBetti k') k' t li lj Q'
        unfold wbX12_levelBetti_6 at hR ⊢
        exact ihk.2.2.2.2.2.2.2.2 _ _ _ hR
      · intro t li lj hR
        have hR : wbX12_levelBetti_7 (wpX12_levelBetti k) k t li lj Q := hR
        show wbX12_levelBetti_7 (wpX12_levelBetti k') k' t li lj Q'
        unfold wbX12_levelBetti_7 at hR ⊢
        exact ihk.2.2.2.2.2.2.2.2 _ _ _ hR
      · intro t li lj hR
        have hR : wbX12_levelBetti_8 (wpX12_levelBetti k) k t li lj Q := hR
        show wbX12_levelBetti_8 (wpX12_levelBetti k') k' t li lj Q'
        unfold wbX12_levelBetti_8 at hR ⊢
        exact ⟨hR.1, fun x24 e24 => fun x25 e25 => ihk.2.2.2.1 _ _ _ ((hR.2 x24 e24) x25 e25)⟩
theorem wmX12_levelBetti {k k' : Nat} {t : XT} {a1 : Int32} {a2 : Int32} {Q Q' : Int32 → XT → Prop} (hk : k ≤ k') (hQ : (∀ (r : Int32) (t : XT), Q r t → Q' r t)) (hR : wqX12_levelBetti k t a1 a2 Q) : wqX12_levelBetti k' t a1 a2 Q' := (wnX12_levelBetti Q Q' hQ k k' hk).1 _ _ _ hR
set_option maxHeartbeats 4000000 in
set_option maxRecDepth 100000 in
theorem wnX12_pairMany (Q Q' : Int32 → XT → Prop) (hQ : (∀ (r : Int32) (t : XT), Q r t → Q' r t)) : ∀ k k' : Nat, k ≤ k' → (∀ (t : XT) (li : Nat → Int32) (lj : Nat → Int64), wpX12_pairMany k 0 t li lj Q → wpX12_pairMany k' 0 t li lj Q') ∧ (∀ (t : XT) (li : Nat → Int32) (lj : Nat → Int64), wpX12_pairMany k 1 t li lj Q → wpX12_pairMany k' 1 t li lj Q') := by
  intro k
  induction k with
  | zero => intro k' _; exact ⟨fun _ _ _ hR => False.elim hR, fun _ _ _ hR => False.elim hR⟩
  | succ k ih =>
    intro k' hk
    cases k' with
    | zero => exact absurd hk (Nat.not_succ_le_zero k)
    | succ k' =>
      have hk := Nat.le_of_succ_le_succ hk
      have ihk := ih k' hk
      refine ⟨?_, ?_⟩
      · intro t li lj hR
        have hR : wbX12_pairMany_0 (wpX12_pairMany k) k t li lj Q := hR
        show wbX12_pairMany_0 (wpX12_pairMany k') k' t li lj Q'
        unfold wbX12_pairMany_0 at hR ⊢
        exact ihk.2 _ _ _ hR
      · intro t li lj hR
        have hR : wbX12_pairMany_1 (wpX12_pairMany k) k t li lj Q := hR
        show wbX12_pairMany_1 (wpX12_pairMany k') k' t li lj Q'
        unfold wbX12_pairMany_1 at hR ⊢
        exact ⟨fun c1 => hQ _ _ (hR.1 c1), fun c1 => wmX12_isLower hk (fun y2_0 y2_1 h2 => wmX12_truth hk (fun y3_0 h3 => fun x4 e4 => fun x5 e5 => ihk.2 _ _ _ ((h3 x4 e4) x5 e5)) h2) (hR.2 c1)⟩
theorem wmX12_pairMany {k k' : Nat} {t : XT}  {Q Q' : Int32 → XT → Prop} (hk : k ≤ k') (hQ : (∀ (r : Int32) (t : XT), Q r t → Q' r t)) (hR : wqX12_pairMany k t  Q) : wqX12_pairMany k' t  Q' := (wnX12_pairMany Q Q' hQ k k' hk).1 _ _ _ hR
set_option maxHeartbeats 4000000 in
set_option maxRecDepth 100000 in
theorem wnX12_keep (Q Q' : Int32 → XT → Prop) (hQ : (∀ (r : Int32) (t : XT), Q r t → Q' r t)) : ∀ k k' : Nat, k ≤ k' → (∀ (t : XT) (li : Nat → Int32) (lj : Nat → Int64), wpX12_keep k 0 t li lj Q → wpX12_keep k' 0 t li lj Q') ∧ (∀ (t : XT) (li : Nat → Int32) (lj : Nat → Int64), wpX12_keep k 1 t li lj Q → wpX12_keep k' 1 t li lj Q') ∧ (∀ (t : XT) (li : Nat → Int32) (lj : Nat → Int64), wpX12_keep k 2 t li lj Q → wpX12_keep k' 2 t li lj Q') := by
  intro k
  induction k with
  | zero => intro k' _; exact ⟨fun _ _ _ hR => False.elim hR, fun _ _ _ hR => False.elim hR, fun _ _ _ hR => False.elim hR⟩
  | succ k ih =>
    intro k' hk
    cases k' with
    | zero => exact absurd hk (Nat.not_succ_le_zero k)
    | succ k' =>
      have hk := Nat.le_of_succ_le_succ hk
      have ihk := ih k' hk
      refine ⟨?_, ?_, ?_⟩
      · intro t li lj hR
        have hR : wbX12_keep_0 (wpX12_keep k) k t li lj Q := hR
        show wbX12_keep_0 (wpX12_keep k') k' t li lj Q'
        unfold wbX12_keep_0 at hR ⊢
        exact ⟨fun c2 => ihk.2.1 _ _ _ (hR.1 c2), fun c2 => wmX12_in hk (fun y4_0 h4 => ⟨fun c1 => ⟨(h4.1 c1).1, fun x5 e5 => ihk.2.2 _ _ _ ((h4.1 c1).2 x5 e5)⟩, fun c1 => ihk.2.1 _ _ _ (h4.2 c1)⟩) (hR.2 c2)⟩
      · intro t li lj hR
        have hR : wbX12_keep_1 (wpX12_keep k) k t li lj Q := hR
        show wbX12_keep_1 (wpX12_keep k') k' t li lj Q'
        unfold wbX12_keep_1 at hR ⊢
        exact hQ _ _ hR
      · intro t li lj hR
        have hR : wbX12_keep_2 (wpX12_keep k) k t li lj Q := hR
        show wbX12_keep_2 (wpX12_keep k') k' t li lj Q'
        unfold wbX12_keep_2 at hR ⊢
        exact ⟨fun c3 => wmX12_pairMany hk (fun y6_0 y6_1 h6 => hQ _ _ h6) (hR.1 c3), fun c3 => fun x7 e7 => fun x8 e8 => ⟨(((hR.2 c3) x7 e7) x8 e8).1, fun x9 e9 => ⟨((((hR.2 c3) x7 e7) x8 e8).2 x9 e9).1, fun x10 e10 => fun x11 e11 => ihk.2.2 _ _ _ ((((((hR.2 c3) x7 e7) x8 e8).2 x9 e9).2 x10 e10) x11 e11)⟩⟩⟩
theorem wmX12_keep {k k' : Nat} {t : XT} {a1 : Int32} {Q Q' : Int32 → XT → Prop} (hk : k ≤ k') (hQ : (∀ (r : Int32) (t : XT), Q r t → Q' r t)) (hR : wqX12_keep k t a1 Q) : wqX12_keep k' t a1 Q' := (wnX12_keep Q Q' hQ k k' hk).1 _ _ _ hR
set_option maxHeartbeats 4000000 in
set_option maxRecDepth 100000 in
theorem wnX12_same (Q Q' : Int32 → XT → Prop) (hQ : (∀ (r : Int32) (t : XT), Q r t → Q' r t)) : ∀ k k' : Nat, k ≤ k' → (∀ (t : XT) (li : Nat → Int32) (lj : Nat → Int64), wpX12_same k 0 t li lj Q → wpX12_same k' 0 t li lj Q') ∧ (∀ (t : XT) (li : Nat → Int32) (lj : Nat → Int64), wpX12_same k 1 t li lj Q → wpX12_same k' 1 t li lj Q') ∧ (∀ (t : XT) (li : Nat → Int32) (lj : Nat → Int64), wpX12_same k 2 t li lj Q → wpX12_same k' 2 t li lj Q') ∧ (∀ (t : XT) (li : Nat → Int32) (lj : Nat → Int64), wpX12_same k 3 t li lj Q → wpX12_same k' 3 t li lj Q') := by
  intro k
  induction k with
  | zero => intro k' _; exact ⟨fun _ _ _ hR => False.elim hR, fun _ _ _ hR => False.elim hR, fun _ _ _ hR => False.elim hR, fun _ _ _ hR => False.elim hR⟩
  | succ k ih =>
    intro k' hk
    cases k' with
    | zero => exact absurd hk (Nat.not_succ_le_zero k)
    | succ k' =>
      have hk := Nat.le_of_succ_le_succ hk
      have ihk := ih k' hk
      refine ⟨?_, ?_, ?_, ?_⟩
      · intro t li lj hR
        have hR : wbX12_same_0 (wpX12_same k) k t li lj Q := hR
        show wbX12_same_0 (wpX12_same k') k' t li lj Q'
        unfold wbX12_same_0 at hR ⊢
        exact wmX12_in hk (fun y6_0 h6 => ⟨fun c2 => ⟨(h6.1 c2).1, fun x7 e7 => ⟨fun c1 => ihk.2.1 _ _ _ (((h6.1 c2).2 x7 e7).1 c1), fun c1 => hQ _ _ (((h6.1 c2).2 x7 e7).2 c1)⟩⟩, fun c2 => hQ _ _ (h6.2 c2)⟩) hR
      · intro t li lj hR
        have hR : wbX12_same_1 (wpX12_same k) k t li lj Q := hR
        show wbX12_same_1 (wpX12_same k') k' t li lj Q'
        unfold wbX12_same_1 at hR ⊢
        exact ⟨fun c5 => hQ _ _ (hR.1 c5), fun c5 => wmX12_isLower hk (fun y8_0 y8_1 h8 => ⟨fun c4 => ihk.2.2.1 _ _ _ (h8.1 c4), fun c4 => fun x9 e9 => fun x10 e10 => ⟨(((h8.2 c4) x9 e9) x10 e10).1, fun x11 e11 => ⟨((((h8.2 c4) x9 e9) x10 e10).2 x11 e11).1, fun x12 e12 => ⟨fun c3 => ihk.2.2.1 _ _ _ ((((((h8.2 c4) x9 e9) x10 e10).2 x11 e11).2 x12 e12).1 c3), fun c3 => ihk.2.2.2 _ _ _ ((((((h8.2 c4) x9 e9) x10 e10).2 x11 e11).2 x12 e12).2 c3)⟩⟩⟩⟩) (hR.2 c5)⟩
      · intro t li lj hR
        have hR : wbX12_same_2 (wpX12_same k) k t li lj Q := hR
        show wbX12_same_2 (wpX12_same k') k' t li lj Q'
        unfold wbX12_same_2 at hR ⊢
        exact ihk.2.2.2 _ _ _ hR
      · intro t li lj hR
        have hR : wbX12_same_3 (wpX12_same k) k t li lj Q := hR
        show wbX12_same_3 (wpX12_same k') k' t li lj Q'
        unfold wbX12_same_3 at hR ⊢
        exact wmX12_truth hk (fun y13_0 h13 => fun x14 e14 => fun x15 e15 => ihk.2.1 _ _ _ ((h13 x14 e14) x15 e15)) hR
theorem wmX12_same {k k' : Nat} {t : XT} {a1 : Int32} {Q Q' : Int32 → XT → Prop} (hk : k ≤ k') (hQ : (∀ (r : Int32) (t : XT), Q r t → Q' r t)) (hR : wqX12_same k t a1 Q) : wqX12_same k' t a1 Q' := (wnX12_same Q Q' hQ k k' hk).1 _ _ _ hR
set_option maxHeartbeats 4000000 in
set_option maxRecDepth 100000 in
theorem wnX12_greatestDim (Q Q' : Int32 → XT → Prop) (hQ : (∀ (r : Int32) (t : XT), Q r t → Q' r t)) : ∀ k k' : Nat, k ≤ k' → (∀ (t : XT) (li : Nat → Int32) (lj : Nat → Int64), wpX12_greatestDim k 0 t li lj Q → wpX12_greatestDim k' 0 t li lj Q') ∧ (∀ (t : XT) (li : Nat → Int32) (lj : Nat → Int64), wpX12_greatestDim k 1 t li lj Q → wpX12_greatestDim k' 1 t li lj Q') ∧ (∀ (t : XT) (li : Nat → Int32) (lj : Nat → Int64), wpX12_greatestDim k 2 t li lj Q → wpX12_greatestDim k' 2 t li lj Q') := by
  intro k
  induction k with
  | zero => intro k' _; exact ⟨fun _ _ _ hR => False.elim hR, fun _ _ _ hR => False.elim hR, fun _ _ _ hR => False.elim hR⟩
  | succ k ih =>
    intro k' hk
    cases k' with
    | zero => exact absurd hk (Nat.not_succ_le_zero k)
    | succ k' =>
      have hk := Nat.le_of_succ_le_succ hk
      have ihk := ih k' hk
      refine ⟨?_, ?_, ?_⟩
      · intro t li lj hR
        have hR : wbX12_greatestDim_0 (wpX12_greatestDim k) k t li lj Q := hR
        show wbX12_greatestDim_0 (wpX12_greatestDim k') k' t li lj Q'
        unfold wbX12_greatestDim_0 at hR ⊢
        exact ihk.2.1 _ _ _ hR
      · intro t li lj hR
        have hR : wbX12_greatestDim_1 (wpX12_greatestDim k) k t li lj Q := hR
        show wbX12_greatestDim_1 (wpX12_greatestDim k') k' t li lj Q'
        unfold wbX12_greatestDim_1 at hR ⊢
        exact ⟨fun c2 => hQ _ _ (hR.1 c2), fun c2 => wmX12_isThere hk (fun y3_0 y3_1 h3 => ⟨fun c1 => ihk.2.2 _ _ _ (h3.1 c1), fun c1 => wmX12_dimOf hk (fun y4_0 y4_1 h4 => fun x5 e5 => ihk.2.2 _ _ _ (h4 x5 e5)) (h3.2 c1)⟩) (hR.2 c2)⟩
      · intro t li lj hR
        have hR : wbX12_greatestDim_2 (wpX12_greatestDim k) k t li lj Q := hR
        show wbX12_greatestDim_2 (wpX12_greatestDim k') k' t li lj Q'
        unfold wbX12_greatestDim_2 at hR ⊢
        exact fun x6 e6 => ihk.2.1 _ _ _ (hR x6 e6)
theorem wmX12_greatestDim {k k' : Nat} {t : XT}  {Q Q' : Int32 → XT → Prop} (hk : k ≤ k') (hQ : (∀ (r : Int32) (t : XT), Q r t → Q' r t)) (hR : wqX12_greatestDim k t  Q) : wqX12_greatestDim k' t  Q' := (wnX12_greatestDim Q Q' hQ k k' hk).1 _ _ _ hR
