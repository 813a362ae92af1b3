set_option maxHeartbeats 4000000 in
set_option maxRecDepth 100000 in
theorem wnX11_lowest (Q Q' : Int32 → Prop) (hQ : (∀ (r : Int32), Q r → Q' r)) : ∀ k k' : Nat, k ≤ k' → (∀ (li : Nat → Int32) (lj : Nat → Int64), wpX11_lowest k 0 li lj Q → wpX11_lowest k' 0 li lj Q') := by
  intro k
  induction k with
  | zero => intro k' _; exact fun _ _ hR => False.elim hR
  | succ k ih =>
    intro k' hk
    cases k' with
    | zero => exact absurd hk (Nat.not_succ_le_zero k)
    | succ k' =>
      have hk := Nat.le_of_succ_le_succ hk
      have ihk := ih k' hk
      intro li lj hR
      have hR : wbX11_lowest_0 (wpX11_lowest k) k li lj Q := hR
      show wbX11_lowest_0 (wpX11_lowest k') k' li lj Q'
      unfold wbX11_lowest_0 at hR ⊢
      exact fun x1 e1 => fun x2 e2 => fun x3 e3 => wmJ13_bitCount_95d88 hk (fun y4_0 h4 => fun x5 e5 => hQ _ (h4 x5 e5)) (((hR x1 e1) x2 e2) x3 e3)
theorem wmX11_lowest {k k' : Nat} {a0 : Int64} {Q Q' : Int32 → Prop} (hk : k ≤ k') (hQ : (∀ (r : Int32), Q r → Q' r)) (hR : wqX11_lowest k a0 Q) : wqX11_lowest k' a0 Q' := (wnX11_lowest Q Q' hQ k k' hk) _ _ hR
set_option maxHeartbeats 4000000 in
set_option maxRecDepth 100000 in
theorem wnX6_staysAcyclic (Q Q' : Int32 → XT → Prop) (hQ : (∀ (r : Int32) (t : XT), Q r t → Q' r t)) : ∀ k k' : Nat, k ≤ k' → (∀ (t : XT) (li : Nat → Int32) (lj : Nat → Int64), wpX6_staysAcyclic k 0 t li lj Q → wpX6_staysAcyclic k' 0 t li lj Q') ∧ (∀ (t : XT) (li : Nat → Int32) (lj : Nat → Int64), wpX6_staysAcyclic k 1 t li lj Q → wpX6_staysAcyclic k' 1 t li lj Q') ∧ (∀ (t : XT) (li : Nat → Int32) (lj : Nat → Int64), wpX6_staysAcyclic k 2 t li lj Q → wpX6_staysAcyclic k' 2 t li lj Q') ∧ (∀ (t : XT) (li : Nat → Int32) (lj : Nat → Int64), wpX6_staysAcyclic k 3 t li lj Q → wpX6_staysAcyclic k' 3 t li lj Q') := by
  intro k
  induction k with
  | zero => intro k' _; exact ⟨fun _ _ _ hR => False.elim hR, fun _ _ _ hR => False.elim hR, fun _ _ _ hR => False.elim hR, fun _ _ _ hR => False.elim hR⟩
  | succ k ih =>
    intro k' hk
    cases k' with
    | zero => exact absurd hk (Nat.not_succ_le_zero k)
    | succ k' =>
      have hk := Nat.le_of_succ_le_succ hk
      have ihk := ih k' hk
      refine ⟨?_, ?_, ?_, ?_⟩
      · intro t li lj hR
        have hR : wbX6_staysAcyclic_0 (wpX6_staysAcyclic k) k t li lj Q := hR
        show wbX6_staysAcyclic_0 (wpX6_staysAcyclic k') k' t li lj Q'
        unfold wbX6_staysAcyclic_0 at hR ⊢
        exact ⟨hR.1, fun x5 e5 => wmX11_bit hk (fun y6_0 h6 => fun x7 e7 => fun x8 e8 => fun x9 e9 => ihk.2.1 _ _ _ (((h6 x7 e7) x8 e8) x9 e9)) (hR.2 x5 e5)⟩
      · intro t li lj hR
        have hR : wbX6_staysAcyclic_1 (wpX6_staysAcyclic k) k t li lj Q := hR
        show wbX6_staysAcyclic_1 (wpX6_staysAcyclic k') k' t li lj Q'
        unfold wbX6_staysAcyclic_1 at hR ⊢
        exact ⟨fun c3 => ihk.2.2.2 _ _ _ (hR.1 c3), fun c3 => fun x10 e10 => ⟨fun c2 => ihk.2.2.2 _ _ _ (((hR.2 c3) x10 e10).1 c2), fun c2 => wmX11_lowest hk (fun y11_0 h11 => wmX11_bit hk (fun y12_0 h12 => fun x13 e13 => fun x14 e14 => ⟨((h12 x13 e13) x14 e14).1, fun x15 e15 => ⟨fun c1 => ihk.2.2.1 _ _ _ ((((h12 x13 e13) x14 e14).2 x15 e15).1 c1), fun c1 => ⟨((((h12 x13 e13) x14 e14).2 x15 e15).2 c1).1, fun x16 e16 => ⟨(((((h12 x13 e13) x14 e14).2 x15 e15).2 c1).2 x16 e16).1, fun x17 e17 => fun x18 e18 => fun x19 e19 => fun x20 e20 => fun x21 e21 => fun x22 e22 => ihk.2.2.1 _ _ _ (((((((((((h12 x13 e13) x14 e14).2 x15 e15).2 c1).2 x16 e16).2 x17 e17) x18 e18) x19 e19) x20 e20) x21 e21) x22 e22)⟩⟩⟩⟩) h11) (((hR.2 c3) x10 e10).2 c2)⟩⟩
      · intro t li lj hR
        have hR : wbX6_staysAcyclic_2 (wpX6_staysAcyclic k) k t li lj Q := hR
        show wbX6_staysAcyclic_2 (wpX6_staysAcyclic k') k' t li lj Q'
        unfold wbX6_staysAcyclic_2 at hR ⊢
        exact fun x23 e23 => ihk.2.1 _ _ _ (hR x23 e23)
      · intro t li lj hR
        have hR : wbX6_staysAcyclic_3 (wpX6_staysAcyclic k) k t li lj Q := hR
        show wbX6_staysAcyclic_3 (wpX6_staysAcyclic k') k' t li lj Q'
        unfold wbX6_staysAcyclic_3 at hR ⊢
        exact wmX11_isIn hk (fun y24_0 h24 => ⟨fun c4 => hQ _ _ (h24.1 c4), fun c4 => hQ _ _ (h24.2 c4)⟩) hR
theorem wmX6_staysAcyclic {k k' : Nat} {t : XT} {a1 : Int32} {a2 : Int32} {Q Q' : Int32 → XT → Prop} (hk : k ≤ k') (hQ : (∀ (r : Int32) (t : XT), Q r t → Q' r t)) (hR : wqX6_staysAcyclic k t a1 a2 Q) : wqX6_staysAcyclic k' t a1 a2 Q' := (wnX6_staysAcyclic Q Q' hQ k k' hk).1 _ _ _ hR
set_option maxHeartbeats 4000000 in
set_option maxRecDepth 100000 in
theorem wnX3_save_c4 (Q Q' : XT → Prop) (hQ : (∀ (t : XT), Q t → Q' t)) : ∀ k k' : Nat, k ≤ k' → (∀ (t : XT) (li : Nat → Int32) (lj : Nat → Int64), wpX3_save_c4 k 0 t li lj Q → wpX3_save_c4 k' 0 t li lj Q') := by
  intro k
  induction k with
  | zero => intro k' _; exact fun _ _ _ hR => False.elim hR
  | succ k ih =>
    intro k' hk
    cases k' with
    | zero => exact absurd hk (Nat.not_succ_le_zero k)
    | succ k' =>
      have hk := Nat.le_of_succ_le_succ hk
      have ihk := ih k' hk
      intro t li lj hR
      have hR : wbX3_save_c4_0 (wpX3_save_c4 k) k t li lj Q := hR
      show wbX3_save_c4_0 (wpX3_save_c4 k') k' t li lj Q'
      unfold wbX3_save_c4_0 at hR ⊢
      exact fun x1 e1 => ⟨(hR x1 e1).1, (hR x1 e1).2.1, (hR x1 e1).2.2.1, (hR x1 e1).2.2.2.1, (hR x1 e1).2.2.2.2.1, fun x2 e2 => ⟨((hR x1 e1).2.2.2.2.2 x2 e2).1, fun x3 e3 => fun x4 e4 => ⟨((((hR x1 e1).2.2.2.2.2 x2 e2).2 x3 e3) x4 e4).1, fun x5 e5 => fun x6 e6 => fun x7 e7 => fun x8 e8 => fun x9 e9 => hQ _ (((((((((hR x1 e1).2.2.2.2.2 x2 e2).2 x3 e3) x4 e4).2 x5 e5) x6 e6) x7 e7) x8 e8) x9 e9)⟩⟩⟩
theorem wmX3_save_c4 {k k' : Nat} {t : XT}  {Q Q' : XT → Prop} (hk : k ≤ k') (hQ : (∀ (t : XT), Q t → Q' t)) (hR : wqX3_save_c4 k t  Q) : wqX3_save_c4 k' t  Q' := (wnX3_save_c4 Q Q' hQ k k' hk) _ _ _ hR
set_option maxHeartbeats 4000000 in
set_option maxRecDepth 100000 in
theorem wnX6_unite (Q Q' : XT → Prop) (hQ : (∀ (t : XT), Q t → Q' t)) : ∀ k k' : Nat, k ≤ k' → (∀ (t : XT) (li : Nat → Int32) (lj : Nat → Int64), wpX6_unite k 0 t li lj Q → wpX6_unite k' 0 t li lj Q') := by
  intro k
  induction k with
  | zero => intro k' _; exact fun _ _ _ hR => False.elim hR
  | succ k ih =>
    intro k' hk
    cases k' with
    | zero => exact absurd hk (Nat.not_succ_le_zero k)
    | succ k' =>
      have hk := Nat.le_of_succ_le_succ hk
      have ihk := ih k' hk
      intro t li lj hR
      have hR : wbX6_unite_0 (wpX6_unite k) k t li lj Q := hR
      show wbX6_unite_0 (wpX6_unite k') k' t li lj Q'
      unfold wbX6_unite_0 at hR ⊢
      exact ⟨hR.1, fun x1 e1 => ⟨(hR.2 x1 e1).1, fun x2 e2 => wmX11_bit hk (fun y3_0 h3 => fun x4 e4 => fun x5 e5 => wmX11_bit hk (fun y6_0 h6 => fun x7 e7 => fun x8 e8 => fun x9 e9 => fun x10 e10 => hQ _ ((((h6 x7 e7) x8 e8) x9 e9) x10 e10)) ((h3 x4 e4) x5 e5)) ((hR.2 x1 e1).2 x2 e2)⟩⟩
theorem wmX6_unite {k k' : Nat} {t : XT} {a1 : Int32} {a2 : Int32} {Q Q' : XT → Prop} (hk : k ≤ k') (hQ : (∀ (t : XT), Q t → Q' t)) (hR : wqX6_unite k t a1 a2 Q) : wqX6_unite k' t a1 a2 Q' := (wnX6_unite Q Q' hQ k k' hk) _ _ _ hR
set_option maxHeartbeats 4000000 in
set_option maxRecDepth 100000 in
theorem wnX11_criticalOnes (Q Q' : Int32 → XT → Prop) (hQ : (∀ (r : Int32) (t : XT), Q r t → Q' r t)) : ∀ k k' : Nat, k ≤ k' → (∀ (t : XT) (li : Nat → Int32) (lj : Nat → Int64), wpX11_criticalOnes k 0 t li lj Q → wpX11_criticalOnes k' 0 t li lj Q') := by
  intro k
  induction k with
  | zero => intro k' _; exact fun _ _ _ hR => False.elim hR
  | succ k ih =>
    intro k' hk
    cases k' with
    | zero => exact absurd hk (Nat.not_succ_le_zero k)
    | succ k' =>
      have hk := Nat.le_of_succ_le_succ hk
      have ihk := ih k' hk
      intro t li lj hR
      have hR : wbX11_criticalOnes_0 (wpX11_criticalOnes k) k t li lj Q := hR
      show wbX11_criticalOnes_0 (wpX11_criticalOnes k') k' t li lj Q'
      unfold wbX11_criticalOnes_0 at hR ⊢
      exact wmX6_unpaired hk (fun y1_0 y1_1 h1 => wmJ13_bitCount_95d88 hk (fun y2_0 h2 => hQ _ _ h2) h1) hR
theorem wmX11_criticalOnes {k k' : Nat} {t : XT}  {Q Q' : Int32 → XT → Prop} (hk : k ≤ k') (hQ : (∀ (r : Int32) (t : XT), Q r t → Q' r t)) (hR : wqX11_criticalOnes k t  Q) : wqX11_criticalOnes k' t  Q' := (wnX11_criticalOnes Q Q' hQ k k' hk) _ _ _ hR
set_option maxHeartbeats 4000000 in
set_option maxRecDepth 100000 in
theorem wnX11_pair (Q Q' : Int32 → XT → Prop) (hQ : (∀ (r : Int32) (t : XT), Q r t → Q' r t)) : ∀ k k' : Nat, k ≤ k' → (∀ (t : XT) (li : Nat → Int32) (lj : Nat → Int64), wpX11_pair k 0 t li lj Q → wpX11_pair k' 0 t li lj Q') ∧ (∀ (t : XT) (li : Nat → Int32) (lj : Nat → Int64), wpX11_pair k 1 t li lj Q → wpX11_pair k' 1 t li lj Q') ∧ (∀ (t : XT) (li : Nat → Int32) (lj : Nat → Int64), wpX11_pair k 2 t li lj Q → wpX11_pair k' 2 t li lj Q') := by
  intro k
  induction k with
  | zero => intro k' _; exact ⟨fun _ _ _ hR => False.elim hR, fun _ _ _ hR => False.elim hR, fun _ _ _ hR => False.elim hR⟩
  | succ k ih =>
    intro k' hk
    cases k' with
    | zero => exact absurd hk (Nat.not_succ_le_zero k)
    | succ k' =>
      have hk := Nat.le_of_succ_le_succ hk
      have ihk := ih k' hk
      refine ⟨?_, ?_, ?_⟩
      · intro t li lj hR
        have hR : wbX11_pair_0 (wpX11_pair k) k t li lj Q := hR
        show wbX11_pair_0 (wpX11_pair k') k' t li lj Q'
        unfold wbX11_pair_0 at hR ⊢
        exact wmX11_isThere hk (fun y7_0 y7_1 h7 => ⟨fun c6 => ihk.2.1 _ _ _ (h7.1 c6), fun c6 => wmX11_isThere hk (fun y8_0 y8_1 h8 => ⟨fun c5 => ihk.2.1 _ _ _ (h8.1 c5), fun c5 => ⟨(h8.2 c5).1, fun x9 e9 => wmX11_isIn hk (fun y10_0 h10 => ⟨fun c4 => wmX6_isCritical hk (fun y11_0 y11_1 h11 => ⟨fun c3 => ihk.2.2 _ _ _ (h11.1 c3), fun c3 => wmX6_isCritical hk (fun y12_0 y12_1 h12 => ⟨fun c2 => wmX6_staysAcyclic hk (fun y13_0 y13_1 h13 => ⟨fun c1 => wmX3_save_c4 hk (fun y14_0 h14 => wmX6_unite hk (fun y15_0 h15 => wmX11_criticalOnes hk (fun y16_0 y16_1 h16 => hQ _ _ h16) h15) h14) (h13.1 c1), fun c1 => hQ _ _ (h13.2 c1)⟩) (h12.1 c2), fun c2 => ihk.2.2 _ _ _ (h12.2 c2)⟩) (h11.2 c3)⟩) (h10.1 c4), fun c4 => ihk.2.1 _ _ _ (h10.2 c4)⟩) ((h8.2 c5).2 x9 e9)⟩⟩) (h7.2 c6)⟩) hR
      · intro t li lj hR
        have hR : wbX11_pair_1 (wpX11_pair k) k t li lj Q := hR
        show wbX11_pair_1 (wpX11_pair k') k' t li lj Q'
        unfold wbX11_pair_1 at hR ⊢
        exact hQ _ _ hR
      · intro t li lj hR
        have hR : wbX11_pair_2 (wpX11_pair k) k t li lj Q := hR
        show wbX11_pair_2 (wpX11_pair k') k' t li lj Q'
        unfold wbX11_pair_2 at hR ⊢
        exact hQ _ _ hR
theorem wmX11_pair {k k' : Nat} {t : XT} {a1 : Int32} {a2 : Int32} {Q Q' : Int32 → XT → Prop} (hk : k ≤ k') (hQ : (∀ (r : Int32) (t : XT), Q r t → Q' r t)) (hR : wqX11_pair k t a1 a2 Q) : wqX11_pair k' t a1 a2 Q' := (wnX11_pair Q Q' hQ k k' hk).1 _ _ _ hR
set_option maxHeartbeats 4000000 in
set_option maxRecDepth 100000 in
theorem wnX6_divide (Q Q' : XT → Prop) (hQ : (∀ (t : XT), Q t → Q' t)) : ∀ k k' : Nat, k ≤ k' → (∀ (t : XT) (li : Nat → Int32) (lj : Nat → Int64), wpX6_divide k 0 t li lj Q → wpX6_divide k' 0 t li lj Q') := by
  intro k
  induction k with
  | zero => intro k' _; exact fun _ _ _ hR => False.elim hR
  | succ k ih =>
    intro k' hk
    cases k' with
    | zero => exact absurd hk (Nat.not_succ_le_zero k)
    | succ k' =>
      have hk := Nat.le_of_succ_le_succ hk
      have ihk := ih k' hk
      intro t li lj hR
      have hR : wbX6_divide_0 (wpX6_divide k) k t li lj Q := hR
      show wbX6_divide_0 (wpX6_divide k') k' t li lj Q'
      unfold wbX6_divide_0 at hR ⊢
      exact ⟨hR.1, fun x2 e2 => ⟨fun c1 => ⟨((hR.2 x2 e2).1 c1).1, fun x3 e3 => ⟨(((hR.2 x2 e2).1 c1).2 x3 e3).1, fun x4 e4 => wmX11_bit hk (fun y5_0 h5 => wmX11_bit hk (fun y6_0 h6 => fun x7 e7 => fun x8 e8 => fun x9 e9 => fun x10 e10 => fun x11 e11 => fun x12 e12 => fun x13 e13 => fun x14 e14 => hQ _ ((((((((h6 x7 e7) x8 e8) x9 e9) x10 e10) x11 e11) x12 e12) x13 e13) x14 e14)) h5) ((((hR.2 x2 e2).1 c1).2 x3 e3).2 x4 e4)⟩⟩, fun c1 => hQ _ ((hR.2 x2 e2).2 c1)⟩⟩
theorem wmX6_divide {k k' : Nat} {t : XT} {a1 : Int32} {Q Q' : XT → Prop} (hk : k ≤ k') (hQ : (∀ (t : XT), Q t → Q' t)) (hR : wqX6_divide k t a1 Q) : wqX6_divide k' t a1 Q' := (wnX6_divide Q Q' hQ k k' hk) _ _ _ hR
set_option maxHeartbeats 4000000 in
set_option maxRecDepth 100000 in
theorem wnX11_part (Q Q' : Int32 → XT → Prop) (hQ : (∀ (r : Int32) (t : XT), Q r t → Q' r t)) : ∀ k k' : Nat, k ≤ k' → (∀ (t : XT) (li : Nat → Int32) (lj : Nat → Int64), wpX11_part k 0 t li lj Q → wpX11_part k' 0 t li lj Q') ∧ (∀ (t : XT) (li : Nat → Int32) (lj : Nat → Int64), wpX11_part k 1 t li lj Q → wpX11_part k' 1 t li lj Q') := by
  intro k
  induction k with
  | zero => intro k' _; exact ⟨fun _ _ _ hR => False.elim hR, fun _ _ _ hR => False.elim hR⟩
  | succ k ih =>
    intro k' hk
    cases k' with
    | zero => exact absurd hk (Nat.not_succ_le_zero k)
    | succ k' =>
      have hk := Nat.le_of_succ_le_succ hk
      have ihk := ih k' hk
      refine ⟨?_, ?_⟩
      · intro t li lj hR
        have hR : wbX11_part_0 (wpX11_part k) k t li lj Q := hR
        show wbX11_part_0 (wpX11_part k') k' t li lj Q'
        unfold wbX11_part_0 at hR ⊢
        exact wmX11_isThere hk (fun y3_0 y3_1 h3 => ⟨fun c2 => ihk.2 _ _ _ (h3.1 c2), fun c2 => ⟨(h3.2 c2).1, fun x4 e4 => ⟨fun c1 => wmX3_save_c4 hk (fun y5_0 h5 => wmX6_divide hk (fun y6_0 h6 => wmX11_criticalOnes hk (fun y7_0 y7_1 h7 => hQ _ _ h7) h6) h5) (((h3.2 c2).2 x4 e4).1 c1), fun c1 => ihk.2 _ _ _ (((h3.2 c2).2 x4 e4).2 c1)⟩⟩⟩) hR
      · intro t li lj hR
        have hR : wbX11_part_1 (wpX11_part k) k t li lj Q := hR
        show wbX11_part_1 (wpX11_part k') k' t li lj Q'
        unfold wbX11_part_1 at hR ⊢
        exact hQ _ _ hR
theorem wmX11_part {k k' : Nat} {t : XT} {a1 : Int32} {Q Q' : Int32 → XT → Prop} (hk : k ≤ k') (hQ : (∀ (r : Int32) (t : XT), Q r t → Q' r t)) (hR : wqX11_part k t a1 Q) : wqX11_part k' t a1 Q' := (wnX11_part Q Q' hQ k k' hk).1 _ _ _ hR
set_option maxHeartbeats 4000000 in
set_option maxRecDepth 100000 in
theorem wnX7_lookAgain (Q Q' : XT → Prop) (hQ : (∀ (t : XT), Q t → Q' t)) : ∀ k k' : Nat, k ≤ k' → (∀ (t : XT) (li : Nat → Int32) (lj : Nat → Int64), wpX7_lookAgain k 0 t li lj Q → wpX7_lookAgain k' 0 t li lj Q') ∧ (∀ (t : XT) (li : Nat → Int32) (lj : Nat → Int64), wpX7_lookAgain k 1 t li lj Q → wpX7_lookAgain k' 1 t li lj Q') ∧ (∀ (t : XT) (li : Nat → Int32) (lj : Nat → Int64), wpX7_lookAgain k 2 t li lj Q → wpX7_lookAgain k' 2 t li lj Q') := by
  intro k
  induction k with
  | zero => intro k' _; exact ⟨fun _ _ _ hR => False.elim hR, fun _ _ _ hR => False.elim hR, fun _ _ _ hR => False.elim hR⟩
  | succ k ih =>
    intro k' hk
    cases k' with
    | zero => exact absurd hk (Nat.not_succ_le_zero k)
    | succ k' =>
      have hk := Nat.le_of_succ_le_succ hk
      have ihk := ih k' hk
      refine ⟨?_, ?_, ?_⟩
      · intro t li lj hR
        have hR : wbX7_lookAgain_0 (wpX7_lookAgain k) k t li lj Q := hR
        show wbX7_lookAgain_0 (wpX7_lookAgain k') k' t li lj Q'
        unfold wbX7_lookAgain_0 at hR ⊢
        exact ihk.2.1 _ _ _ hR
      · intro t li lj hR
        have hR : wbX7_lookAgain_1 (wpX7_lookAgain k) k t li lj Q := hR
        show wbX7_lookAgain_1 (wpX7_lookAgain k') k' t li lj Q'
        unfold wbX7_lookAgain_1 at hR ⊢
        exact ⟨fun c3 => hQ _ (hR.1 c3), fun c3 => fun x4 e4 => ⟨fun c2 => hQ _ (((hR.2 c3) x4 e4).1 c2), fun c2 => wmX11_lowest hk (fun y5_0 h5 => fun x6 e6 => fun x7 e7 => ⟨((h5 x6 e6) x7 e7).1, fun x8 e8 => fun x9 e9 => wmJ13_bitCount_95d88 hk (fun y10_0 h10 => ⟨fun c1 => wmX11_bit hk (fun y11_0 h11 => fun x12 e12 => fun x13 e13 => fun x14 e14 => ihk.2.2 _ _ _ (((h11 x12 e12) x13 e13) x14 e14)) (h10.1 c1), fun c1 => wmX11_bit hk (fun y15_0 h15 => fun x16 e16 => fun x17 e17 => ihk.2.2 _ _ _ ((h15 x16 e16) x17 e17)) (h10.2 c1)⟩) ((((h5 x6 e6) x7 e7).2 x8 e8) x9 e9)⟩) (((hR.2 c3) x4 e4).2 c2)⟩⟩
      · intro t li lj hR
        have hR : wbX7_lookAgain_2 (wpX7_lookAgain k) k t li lj Q := hR
        show wbX7_lookAgain_2 (wpX7_lookAgain k') k' t li lj Q'
        unfold wbX7_lookAgain_2 at hR ⊢
        exact fun x18 e18 => ihk.2.1 _ _ _ (hR x18 e18)
theorem wmX7_lookAgain {k k' : Nat} {t : XT} {a1 : Int64} {Q Q' : XT → Prop} (hk : k ≤ k') (hQ : (∀ (t : XT), Q t → Q' t)) (hR : wqX7_lookAgain k t a1 Q) : wqX7_lookAgain k' t a1 Q' := (wnX7_lookAgain Q Q' hQ k k' hk).1 _ _ _ hR
set_option maxHeartbeats 4000000 in
set_option maxRecDepth 100000 in
theorem wnX7_begin (Q Q' : XT → Prop) (hQ : (∀ (t : XT), Q t → Q' t)) : ∀ k k' : Nat, k ≤ k' → (∀ (t : XT) (li : Nat → Int32) (lj : Nat → Int64), wpX7_begin k 0 t li lj Q → wpX7_begin k' 0 t li lj Q') := by
  intro k
  induction k with
  | zero => intro k' _; exact fun _ _ _ hR => False.elim hR
  | succ k ih =>
    intro k' hk
    cases k' with
    | zero => exact absurd hk (Nat.not_succ_le_zero k)
    | succ k' =>
      have hk := Nat.le_of_succ_le_succ hk
      have ihk := ih k' hk
      intro t li lj hR
      have hR : wbX7_begin_0 (wpX7_begin k) k t li lj Q := hR
      show wbX7_begin_0 (wpX7_begin k') k' t li lj Q'
      unfold wbX7_begin_0 at hR ⊢
      exact fun x1 e1 => fun x2 e2 => wmX7_lookAgain hk (fun y3_0 h3 => hQ _ h3) ((hR x1 e1) x2 e2)
theorem wmX7_begin {k k' : Nat} {t : XT} {a1 : Int64} {Q Q' : XT → Prop} (hk : k ≤ k') (hQ : (∀ (t : XT), Q t → Q' t)) (hR : wqX7_begin k t a1 Q) : wqX7_begin k' t a1 Q' := (wnX7_begin Q Q' hQ k k' hk) _ _ _ hR
set_option maxHeartbeats 4000000 in
set_option maxRecDepth 100000 in
theorem wnX11_nth (Q Q' : Int32 → Prop) (hQ : (∀ (r : Int32), Q r → Q' r)) : ∀ k k' : Nat, k ≤ k' → (∀ (li : Nat → Int32) (lj : Nat → Int64), wpX11_nth k 0 li lj Q → wpX11_nth k' 0 li lj Q') ∧ (∀ (li : Nat → Int32) (lj : Nat → Int64), wpX11_nth k 1 li lj Q → wpX11_nth k' 1 li lj Q') ∧ (∀ (li : Nat → Int32) (lj : Nat → Int64), wpX11_nth k 2 li lj Q → wpX11_nth k' 2 li lj Q') := by
  intro k
  induction k with
  | zero => intro k' _; exact ⟨fun _ _ hR => False.elim hR, fun _ _ hR => False.elim hR, fun _ _ hR => False.elim hR⟩
  | succ k ih =>
    intro k' hk
    cases k' with
    | zero => exact absurd hk (Nat.not_succ_le_zero k)
    | succ k' =>
      have hk := Nat.le_of_succ_le_succ hk
      have ihk := ih k' hk
      refine ⟨?_, ?_, ?_⟩
      · intro li lj hR
        have hR : wbX11_nth_0 (wpX11_nth k) k li lj Q := hR
        show wbX11_nth_0 (wpX11_nth k') k' li lj Q'
        unfold wbX11_nth_0 at hR ⊢
        exact ihk.2.1 _ _ hR
      · intro li lj hR
        have hR : wbX11_nth_1 (wpX11_nth k) k li lj Q := hR
        show wbX11_nth_1 (wpX11_nth k') k' li lj Q'
        unfold wbX11_nth_1 at hR ⊢
        exact ⟨fun c2 => ihk.2.2 _ _ (hR.1 c2), fun c2 => fun x3 e3 => ⟨fun c1 => ihk.2.2 _ _ (((hR.2 c2) x3 e3).1 c1), fun c1 => fun x4 e4 => fun x5 e5 => fun x6 e6 => ihk.2.1 _ _ ((((((hR.2 c2) x3 e3).2 c1) x4 e4) x5 e5) x6 e6)⟩⟩
      · intro li lj hR
        have hR : wbX11_nth_2 (wpX11_nth k) k li lj Q := hR
        show wbX11_nth_2 (wpX11_nth k') k' li lj Q'
        unfold wbX11_nth_2 at hR ⊢
        exact wmX11_lowest hk (fun y7_0 h7 => hQ _ h7) hR
theorem wmX11_nth {k k' : Nat} {a0 : Int64} {a1 : Int32} {Q Q' : Int32 → Prop} (hk : k ≤ k') (hQ : (∀ (r : Int32), Q r → Q' r)) (hR : wqX11_nth k a0 a1 Q) : wqX11_nth k' a0 a1 Q' := (wnX11_nth Q Q' hQ k k' hk).1 _ _ hR
set_option maxHeartbeats 4000000 in
set_option maxRecDepth 100000 in
theorem wnX7_close (Q Q' : XT → Prop) (hQ : (∀ (t : XT), Q t → Q' t)) : ∀ k k' : Nat, k ≤ k' → (∀ (t : XT) (li : Nat → Int32) (lj : Nat → Int64), wpX7_close k 0 t li lj Q → wpX7_close k' 0 t li lj Q') := by
  intro k
  induction k with
  | zero => intro k' _; exact fun _ _ _ hR => False.elim hR
  | succ k ih =>
    intro k' hk
    cases k' with
    | zero => exact absurd hk (Nat.not_succ_le_zero k)
    | succ k' =>
      have hk := Nat.le_of_succ_le_succ hk
      have ihk := ih k' hk
      intro t li lj hR
      have hR : wbX7_close_0 (wpX7_close k) k t li lj Q := hR
      show wbX7_close_0 (wpX7_close k') k' t li lj Q'
      unfold wbX7_close_0 at hR ⊢
      exact wmX11_bit hk (fun y1_0 h1 => fun x2 e2 => fun x3 e3 => fun x4 e4 => wmX11_bit hk (fun y5_0 h5 => fun x6 e6 => fun x7 e7 => fun x8 e8 => ⟨(((h5 x6 e6) x7 e7) x8 e8).1, fun x9 e9 => fun x10 e10 => wmX7_lookAgain hk (fun y11_0 h11 => hQ _ h11) (((((h5 x6 e6) x7 e7) x8 e8).2 x9 e9) x10 e10)⟩) (((h1 x2 e2) x3 e3) x4 e4)) hR
theorem wmX7_close {k k' : Nat} {t : XT} {a1 : Int32} {Q Q' : XT → Prop} (hk : k ≤ k') (hQ : (∀ (t : XT), Q t → Q' t)) (hR : wqX7_close k t a1 Q) : wqX7_close k' t a1 Q' := (wnX7_close Q Q' hQ k k' hk) _ _ _ hR
set_option maxHeartbeats 4000000 in
set_option maxRecDepth 100000 in
theorem wnX7_above (Q Q' : Int32 → XT → Prop) (hQ : (∀ (r : Int32) (t : XT), Q r t → Q' r t)) : ∀ k k' : Nat, k ≤ k' → (∀ (t : XT) (li : Nat → Int32) (lj : Nat → Int64), wpX7_above k 0 t li lj Q → wpX7_above k' 0 t li lj Q') := by
  intro k
  induction k with
  | zero => intro k' _; exact fun _ _ _ hR => False.elim hR
  | succ k ih =>
    intro k' hk
    cases k' with
    | zero => exact absurd hk (Nat.not_succ_le_zero k)
    | succ k' =>
      have hk := Nat.le_of_succ_le_succ hk
      have ihk := ih k' hk
      intro t li lj hR
      have hR : wbX7_above_0 (wpX7_above k) k t li lj Q := hR
      show wbX7_above_0 (wpX7_above k') k' t li lj Q'
      unfold wbX7_above_0 at hR ⊢
      exact ⟨hR.1, fun x1 e1 => fun x2 e2 => wmX11_lowest hk (fun y3_0 h3 => hQ _ _ h3) ((hR.2 x1 e1) x2 e2)⟩
theorem wmX7_above {k k' : Nat} {t : XT} {a1 : Int32} {Q Q' : Int32 → XT → Prop} (hk : k ≤ k') (hQ : (∀ (r : Int32) (t : XT), Q r t → Q' r t)) (hR : wqX7_above k t a1 Q) : wqX7_above k' t a1 Q' := (wnX7_above Q Q' hQ k k' hk) _ _ _ hR
set_option maxHeartbeats 4000000 in
set_option maxRecDepth 100000 in
theorem wnX11_pairByPeeling (Q Q' : XT → Prop) (hQ : (∀ (t : XT), Q t → Q' t)) : ∀ k k' : Nat, k ≤ k' → (∀ (t : XT) (li : Nat → Int32) (lj : Nat → Int64), wpX11_pairByPeeling k 0 t li lj Q → wpX11_pairByPeeling k' 0 t li lj Q') ∧ (∀ (t : XT) (li : Nat → Int32) (lj : Nat → Int64), wpX11_pairByPeeling k 1 t li lj Q → wpX11_pairByPeeling k' 1 t li lj Q') ∧ (∀ (t : XT) (li : Nat → Int32) (lj : Nat → Int64), wpX11_pairByPeeling k 2 t li lj Q → wpX11_pairByPeeling k' 2 t li lj Q') := by
  intro k
  induction k with
  | zero => intro k' _; exact ⟨fun _ _ _ hR => False.elim hR, fun _ _ _ hR => False.elim hR, fun _ _ _ hR => False.elim hR⟩
  | succ k ih =>
    intro k' hk
    cases k' with
    | zero => exact absurd hk (Nat.not_succ_le_zero k)
    | succ k' =>
      have hk := Nat.le_of_succ_le_succ hk
      have ihk := ih k' hk
      refine ⟨?_, ?_, ?_⟩
      · intro t li lj hR
        have hR : wbX11_pairByPeeling_0 (wpX11_pairByPeeling k) k t li lj Q := hR
        show wbX11_pairByPeeling_0 (wpX11_pairByPeeling k') k' t li lj Q'
        unfold wbX11_pairByPeeling_0 at hR ⊢
        exact wmX7_begin hk (fun y4_0 h4 => ihk.2.1 _ _ _ h4) hR
      · intro t li lj hR
        have hR : wbX11_pairByPeeling_1 (wpX11_pairByPeeling k) k t li lj Q := hR
        show wbX11_pairByPeeling_1 (wpX11_pairByPeeling k') k' t li lj Q'
        unfold wbX11_pairByPeeling_1 at hR ⊢
        exact ⟨fun c3 => hQ _ (hR.1 c3), fun c3 => fun x5 e5 => ⟨fun c2 => hQ _ (((hR.2 c3) x5 e5).1 c2), fun c2 => fun x6 e6 => ⟨fun c1 => wmJ13_bitCount_95d88 hk (fun y7_0 h7 => fun x8 e8 => wmX11_nth hk (fun y9_0 h9 => wmX7_close hk (fun y10_0 h10 => ihk.2.2 _ _ _ h10) h9) (h7 x8 e8)) (((((hR.2 c3) x5 e5).2 c2) x6 e6).1 c1), fun c1 => wmX11_lowest hk (fun y11_0 h11 => wmX7_above hk (fun y12_0 y12_1 h12 => wmX6_unite hk (fun y13_0 h13 => wmX7_close hk (fun y14_0 h14 => wmX7_close hk (fun y15_0 h15 => ihk.2.2 _ _ _ h15) h14) h13) h12) h11) (((((hR.2 c3) x5 e5).2 c2) x6 e6).2 c1)⟩⟩⟩
      · intro t li lj hR
        have hR : wbX11_pairByPeeling_2 (wpX11_pairByPeeling k) k t li lj Q := hR
        show wbX11_pairByPeeling_2 (wpX11_pairByPeeling k') k' t li lj Q'
        unfold wbX11_pairByPeeling_2 at hR ⊢
        exact fun x16 e16 => ihk.2.1 _ _ _ (hR x16 e16)
theorem wmX11_pairByPeeling {k k' : Nat} {t : XT}  {Q Q' : XT → Prop} (hk : k ≤ k') (hQ : (∀ (t : XT), Q t → Q' t)) (hR : wqX11_pairByPeeling k t  Q) : wqX11_pairByPeeling k' t  Q' := (wnX11_pairByPeeling Q Q' hQ k k' hk).1 _ _ _ hR
set_option maxHeartbeats 4000000 in
set_option maxRecDepth 100000 in
theorem wnX11_pairDownwards (Q Q' : XT → Prop) (hQ : (∀ (t : XT), Q t → Q' t)) : ∀ k k' : Nat, k ≤ k' → (∀ (t : XT) (li : Nat → Int32) (lj : Nat → Int64), wpX11_pairDownwards k 0 t li lj Q → wpX11_pairDownwards k' 0 t li lj Q') ∧ (∀ (t : XT) (li : Nat → Int32) (lj : Nat → Int64), wpX11_pairDownwards k 1 t li lj Q → wpX11_pairDownwards k' 1 t li lj Q') ∧ (∀ (t : XT) (li : Nat → Int32) (lj : Nat → Int64), wpX11_pairDownwards k 2 t li lj Q → wpX11_pairDownwards k' 2 t li lj Q') ∧ (∀ (t : XT) (li : Nat → Int32) (lj : Nat → Int64), wpX11_pairDownwards k 3 t li lj Q → wpX11_pairDownwards k' 3 t li lj Q') ∧ (∀ (t : XT) (li : Nat → Int32) (lj : Nat → Int64), wpX11_pairDownwards k 4 t li lj Q → wpX11_pairDownwards k' 4 t li lj Q') ∧ (∀ (t : XT) (li : Nat → Int32) (lj : Nat → Int64), wpX11_pairDownwards k 5 t li lj Q → wpX11_pairDownwards k' 5 t li lj Q') := by
  intro k
  induction k with
  | zero => intro k' _; exact ⟨fun _ _ _ hR => False.elim hR, fun _ _ _ hR => False.elim hR, fun _ _ _ hR => False.elim hR, fun _ _ _ hR => False.elim hR, fun _ _ _ hR => False.elim hR, fun _ _ _ hR => False.elim hR⟩
  | succ k ih =>
    intro k' hk
    cases k' with
    | zero => exact absurd hk (Nat.not_succ_le_zero k)
    | succ k' =>
      have hk := Nat.le_of_succ_le_succ hk
      have ihk := ih k' hk
      refine ⟨?_, ?_, ?_, ?_, ?_, ?_⟩
      · intro t li lj hR
        have hR : wbX11_pairDownwards_0 (wpX11_pairDownwards k) k t li lj Q := hR
        show wbX11_pairDownwards_0 (wpX11_pairDownwards k') k' t li lj Q'
        unfold wbX11_pairDownwards_0 at hR ⊢
        exact fun x7 e7 => ihk.2.1 _ _ _ (hR x7 e7)
      · intro t li lj hR
        have hR : wbX11_pairDownwards_1 (wpX11_pairDownwards k) k t li lj Q := hR
        show wbX11_pairDownwards_1 (wpX11_pairDownwards k') k' t li lj Q'
        unfold wbX11_pairDownwards_1 at hR ⊢
        exact ⟨fun c2 => hQ _ (hR.1 c2), fun c2 => wmX6_isCritical hk (fun y8_0 y8_1 h8 => ⟨fun c1 => ihk.2.2.1 _ _ _ (h8.1 c1), fun c1 => ⟨(h8.2 c1).1, fun x9 e9 => wmX6_unpaired hk (fun y10_0 y10_1 h10 => fun x11 e11 => ihk.2.2.1 _ _ _ (h10 x11 e11)) ((h8.2 c1).2 x9 e9)⟩⟩) (hR.2 c2)⟩
      · intro t li lj hR
        have hR : wbX11_pairDownwards_2 (wpX11_pairDownwards k) k t li lj Q := hR
        show wbX11_pairDownwards_2 (wpX11_pairDownwards k') k' t li lj Q'
        unfold wbX11_pairDownwards_2 at hR ⊢
        exact fun x12 e12 => ihk.2.2.2.1 _ _ _ (hR x12 e12)
      · intro t li lj hR
        have hR : wbX11_pairDownwards_3 (wpX11_pairDownwards k) k t li lj Q := hR
        show wbX11_pairDownwards_3 (wpX11_pairDownwards k') k' t li lj Q'
        unfold wbX11_pairDownwards_3 at hR ⊢
        exact ⟨fun c6 => ihk.2.2.2.2.2 _ _ _ (hR.1 c6), fun c6 => fun x13 e13 => ⟨fun c5 => ihk.2.2.2.2.2 _ _ _ (((hR.2 c6) x13 e13).1 c5), fun c5 => wmX11_isIn hk (fun y14_0 h14 => ⟨fun c4 => ihk.2.2.2.2.1 _ _ _ (h14.1 c4), fun c4 => wmX6_staysAcyclic hk (fun y15_0 y15_1 h15 => ⟨fun c3 => ihk.2.2.2.2.1 _ _ _ (h15.1 c3), fun c3 => wmX6_unite hk (fun y16_0 h16 => ihk.2.2.2.2.1 _ _ _ h16) (h15.2 c3)⟩) (h14.2 c4)⟩) (((hR.2 c6) x13 e13).2 c5)⟩⟩
      · intro t li lj hR
        have hR : wbX11_pairDownwards_4 (wpX11_pairDownwards k) k t li lj Q := hR
        show wbX11_pairDownwards_4 (wpX11_pairDownwards k') k' t li lj Q'
        unfold wbX11_pairDownwards_4 at hR ⊢
        exact fun x17 e17 => ihk.2.2.2.1 _ _ _ (hR x17 e17)
      · intro t li lj hR
        have hR : wbX11_pairDownwards_5 (wpX11_pairDownwards k) k t li lj Q := hR
        show wbX11_pairDownwards_5 (wpX11_pairDownwards k') k' t li lj Q'
        unfold wbX11_pairDownwards_5 at hR ⊢
        exact fun x18 e18 => ihk.2.1 _ _ _ (hR x18 e18)
theorem wmX11_pairDownwards {k k' : Nat} {t : XT}  {Q Q' : XT → Prop} (hk : k ≤ k') (hQ : (∀ (t : XT), Q t → Q' t)) (hR : wqX11_pairDownwards k t  Q) : wqX11_pairDownwards k' t  Q' := (wnX11_pairDownwards Q Q' hQ k k' hk).1 _ _ _ hR
set_option maxHeartbeats 4000000 in
set_option maxRecDepth 100000 in
theorem wnX11_pairUpwards (Q Q' : XT → Prop) (hQ : (∀ (t : XT), Q t → Q' t)) : ∀ k k' : Nat, k ≤ k' → (∀ (t : XT) (li : Nat → Int32) (lj : Nat → Int64), wpX11_pairUpwards k 0 t li lj Q → wpX11_pairUpwards k' 0 t li lj Q') ∧ (∀ (t : XT) (li : Nat → Int32) (lj : Nat → Int64), wpX11_pairUpwards k 1 t li lj Q → wpX11_pairUpwards k' 1 t li lj Q') ∧ (∀ (t : XT) (li : Nat → Int32) (lj : Nat → Int64), wpX11_pairUpwards k 2 t li lj Q → wpX11_pairUpwards k' 2 t li lj Q') ∧ (∀ (t : XT) (li : Nat → Int32) (lj : Nat → Int64), wpX11_pairUpwards k 3 t li lj Q → wpX11_pairUpwards k' 3 t li lj Q') ∧ (∀ (t : XT) (li : Nat → Int32) (lj : Nat → Int64), wpX11_pairUpwards k 4 t li lj Q → wpX11_pairUpwards k' 4 t li lj Q') ∧ (∀ (t : XT) (li : Nat → Int32) (lj : Nat → Int64), wpX11_pairUpwards k 5 t li lj Q → wpX11_pairUpwards k' 5 t li lj Q') := by
  intro k
  induction k with
  | zero => intro k' _; exact ⟨fun _ _ _ hR => False.elim hR, fun _ _ _ hR => False.elim hR, fun _ _ _ hR => False.elim hR, fun _ _ _ hR => False.elim hR, fun _ _ _ hR => False.elim hR, fun _ _ _ hR => False.elim hR⟩
  | succ k ih =>
    intro k' hk
    cases k' with
    | zero => exact absurd hk (Nat.not_succ_le_zero k)
    | succ k' =>
      have hk := Nat.le_of_succ_le_succ hk
      have ihk := ih k' hk
      refine ⟨?_, ?_, ?_, ?_, ?_, ?_⟩
      · intro t li lj hR
        have hR : wbX11_pairUpwards_0 (wpX11_pairUpwards k) k t li lj Q := hR
        show wbX11_pairUpwards_0 (wpX11_pairUpwards k') k' t li lj Q'
        unfold wbX11_pairUpwards_0 at hR ⊢
        exact ihk.2.1 _ _ _ hR
      · intro t li lj hR
        have hR : wbX11_pairUpwards_1 (wpX11_pairUpwards k) k t li lj Q := hR
        show wbX11_pairUpwards_1 (wpX11_pairUpwards k') k' t li lj Q'
        unfold wbX11_pairUpwards_1 at hR ⊢
        exact ⟨fun c2 => hQ _ (hR.1 c2), fun c2 => wmX6_isCritical hk (fun y7_0 y7_1 h7 => ⟨fun c1 => ihk.2.2.1 _ _ _ (h7.1 c1), fun c1 => ⟨(h7.2 c1).1, fun x8 e8 => wmX6_unpaired hk (fun y9_0 y9_1 h9 => fun x10 e10 => ihk.2.2.1 _ _ _ (h9 x10 e10)) ((h7.2 c1).2 x8 e8)⟩⟩) (hR.2 c2)⟩
      · intro t li lj hR
        have hR : wbX11_pairUpwards_2 (wpX11_pairUpwards k) k t li lj Q := hR
        show wbX11_pairUpwards_2 (wpX11_pairUpwards k') k' t li lj Q'
        unfold wbX11_pairUpwards_2 at hR ⊢
        exact fun x11 e11 => ihk.2.2.2.1 _ _ _ (hR x11 e11)
      · intro t li lj hR
        have hR : wbX11_pairUpwards_3 (wpX11_pairUpwards k) k t li lj Q := hR
        show wbX11_pairUpwards_3 (wpX11_pairUpwards k') k' t li lj Q'
        unfold wbX11_pairUpwards_3 at hR ⊢
        exact ⟨fun c6 => ihk.2.2.2.2.2 _ _ _ (hR.1 c6), fun c6 => fun x12 e12 => ⟨fun c5 => ihk.2.2.2.2.2 _ _ _ (((hR.2 c6) x12 e12).1 c5), fun c5 => wmX11_isIn hk (fun y13_0 h13 => ⟨fun c4 => ihk.2.2.2.2.1 _ _ _ (h13.1 c4), fun c4 => wmX6_staysAcyclic hk (fun y14_0 y14_1 h14 => ⟨fun c3 => ihk.2.2.2.2.1 _ _ _ (h14.1 c3), fun c3 => wmX6_unite hk (fun y15_0 h15 => ihk.2.2.2.2.1 _ _ _ h15) (h14.2 c3)⟩) (h13.2 c4)⟩) (((hR.2 c6) x12 e12).2 c5)⟩⟩
      · intro t li lj hR
        have hR : wbX11_pairUpwards_4 (wpX11_pairUpwards k) k t li lj Q := hR
        show wbX11_pairUpwards_4 (wpX11_pairUpwards k') k' t li lj Q'
        unfold wbX11_pairUpwards_4 at hR ⊢
        exact fun x16 e16 => ihk.2.2.2.1 _ _ _ (hR x16 e16)
      · intro t li lj hR
        have hR : wbX11_pairUpwards_5 (wpX11_pairUpwards k) k t li lj Q := hR
        show wbX11_pairUpwards_5 (wpX11_pairUpwards k') k' t li lj Q'
        unfold wbX11_pairUpwards_5 at hR ⊢
        exact fun x17 e17 => ihk.2.1 _ _ _ (hR x17 e17)
theorem wmX11_pairUpwards {k k' : Nat} {t : XT}  {Q Q' : XT → Prop} (hk : k ≤ k') (hQ : (∀ (t : XT), Q t → Q' t)) (hR : wqX11_pairUpwards k t  Q) : wqX11_pairUpwards k' t  Q' := (wnX11_pairUpwards Q Q' hQ k k' hk).1 _ _ _ hR
set_option maxHeartbeats 4000000 in
set_option maxRecDepth 100000 in
theorem wnX11_auto (Q Q' : Int32 → XT → Prop) (hQ : (∀ (r : Int32) (t : XT), Q r t → Q' r t)) : ∀ k k' : Nat, k ≤ k' → (∀ (t : XT) (li : Nat → Int32) (lj : Nat → Int64), wpX11_auto k 0 t li lj Q → wpX11_auto k' 0 t li lj Q') ∧ (∀ (t : XT) (li : Nat → Int32) (lj : Nat → Int64), wpX11_auto k 1 t li lj Q → wpX11_auto k' 1 t li lj Q') ∧ (∀ (t : XT) (li : Nat → Int32) (lj : Nat → Int64), wpX11_auto k 2 t li lj Q → wpX11_auto k' 2 t li lj Q') := by
  intro k
  induction k with
  | zero => intro k' _; exact ⟨fun _ _ _ hR => False.elim hR, fun _ _ _ hR => False.elim hR, fun _ _ _ hR => False.elim hR⟩
  | succ k ih =>
    intro k' hk
    cases k' with
    | zero => exact absurd hk (Nat.not_succ_le_zero k)
    | succ k' =>
      have hk := Nat.le_of_succ_le_succ hk
      have ihk := ih k' hk
      refine ⟨?_, ?_, ?_⟩
      · intro t li lj hR
        have hR : wbX11_auto_0 (wpX11_auto k) k t li lj Q := hR
        show wbX11_auto_0 (wpX11_auto k') k' t li lj Q'
        unfold wbX11_auto_0 at hR ⊢
        exact ⟨fun c5 => ihk.2.1 _ _ _ (hR.1 c5), fun c5 => ⟨fun c4 => ihk.2.1 _ _ _ ((hR.2 c5).1 c4), fun c4 => ⟨fun c3 => wmX3_save_c4 hk (fun y6_0 h6 => wmX6_restart hk (fun y7_0 h7 => ⟨fun c2 => ⟨fun c1 => wmX11_pairByPeeling hk (fun y8_0 h8 => ihk.2.2 _ _ _ h8) ((h7.1 c2).1 c1), fun c1 => wmX11_pairDownwards hk (fun y9_0 h9 => ihk.2.2 _ _ _ h9) ((h7.1 c2).2 c1)⟩, fun c2 => wmX11_pairUpwards hk (fun y10_0 h10 => ihk.2.2 _ _ _ h10) (h7.2 c2)⟩) h6) (((hR.2 c5).2 c4).1 c3), fun c3 => ihk.2.1 _ _ _ (((hR.2 c5).2 c4).2 c3)⟩⟩⟩
      · intro t li lj hR
        have hR : wbX11_auto_1 (wpX11_auto k) k t li lj Q := hR
        show wbX11_auto_1 (wpX11_auto k') k' t li lj Q'
        unfold wbX11_auto_1 at hR ⊢
        exact hQ _ _ hR
      · intro t li lj hR
        have hR : wbX11_auto_2 (wpX11_auto k) k t li lj Q := hR
        show wbX11_auto_2 (wpX11_auto k') k' t li lj Q'
        unfold wbX11_auto_2 at hR ⊢
        exact wmX11_criticalOnes hk (fun y11_0 y11_1 h11 => hQ _ _ h11) hR
theorem wmX11_auto {k k' : Nat} {t : XT} {a1 : Int32} {Q Q' : Int32 → XT → Prop} (hk : k ≤ k') (hQ : (∀ (r : Int32) (t : XT), Q r t → Q' r t)) (hR : wqX11_auto k t a1 Q) : wqX11_auto k' t a1 Q' := (wnX11_auto Q Q' hQ k k' hk).1 _ _ _ hR
set_option maxHeartbeats 4000000 in
set_option maxRecDepth 100000 in
theorem wnX11_areEnds (Q Q' : Int32 → XT → Prop) (hQ : (∀ (r : Int32) (t : XT), Q r t → Q' r t)) : ∀ k k' : Nat, k ≤ k' → (∀ (t : XT) (li : Nat → Int32) (lj : Nat → Int64), wpX11_areEnds k 0 t li lj Q → wpX11_areEnds k' 0 t li lj Q') ∧ (∀ (t : XT) (li : Nat → Int32) (lj : Nat → Int64), wpX11_areEnds k 1 t li lj Q → wpX11_areEnds k' 1 t li lj Q') ∧ (∀ (t : XT) (li : Nat → Int32) (lj : Nat → Int64), wpX11_areEnds k 2 t li lj Q → wpX11_areEnds k' 2 t li lj Q') := by
  intro k
  induction k with
  | zero => intro k' _; exact ⟨fun _ _ _ hR => False.elim hR, fun _ _ _ hR => False.elim hR, fun _ _ _ hR => False.elim hR⟩
  | succ k ih =>
    intro k' hk
    cases k' with
    | zero => exact absurd hk (Nat.not_succ_le_zero k)
    | succ k' =>
      have hk := Nat.le_of_succ_le_succ hk
      have ihk := ih k' hk
      refine ⟨?_, ?_, ?_⟩
      · intro t li lj hR
        have hR : wbX11_areEnds_0 (wpX11_areEnds k) k t li lj Q := hR
        show wbX11_areEnds_0 (wpX11_areEnds k') k' t li lj Q'
        unfold wbX11_areEnds_0 at hR ⊢
        exact wmX11_isThere hk (fun y6_0 y6_1 h6 => ⟨fun c5 => ihk.2.1 _ _ _ (h6.1 c5), fun c5 => wmX11_isThere hk (fun y7_0 y7_1 h7 => ⟨fun c4 => ⟨(h7.1 c4).1, fun x8 e8 => ⟨((h7.1 c4).2 x8 e8).1, fun x9 e9 => fun x10 e10 => ⟨fun c3 => wmX6_isCritical hk (fun y11_0 y11_1 h11 => ⟨fun c2 => ihk.2.2 _ _ _ (h11.1 c2), fun c2 => wmX6_isCritical hk (fun y12_0 y12_1 h12 => ⟨fun c1 => ihk.2.2 _ _ _ (h12.1 c1), fun c1 => hQ _ _ (h12.2 c1)⟩) (h11.2 c2)⟩) (((((h7.1 c4).2 x8 e8).2 x9 e9) x10 e10).1 c3), fun c3 => hQ _ _ (((((h7.1 c4).2 x8 e8).2 x9 e9) x10 e10).2 c3)⟩⟩⟩, fun c4 => ihk.2.1 _ _ _ (h7.2 c4)⟩) (h6.2 c5)⟩) hR
      · intro t li lj hR
        have hR : wbX11_areEnds_1 (wpX11_areEnds k) k t li lj Q := hR
        show wbX11_areEnds_1 (wpX11_areEnds k') k' t li lj Q'
        unfold wbX11_areEnds_1 at hR ⊢
        exact hQ _ _ hR
      · intro t li lj hR
        have hR : wbX11_areEnds_2 (wpX11_areEnds k) k t li lj Q := hR
        show wbX11_areEnds_2 (wpX11_areEnds k') k' t li lj Q'
        unfold wbX11_areEnds_2 at hR ⊢
        exact hQ _ _ hR
theorem wmX11_areEnds {k k' : Nat} {t : XT} {a1 : Int32} {a2 : Int32} {Q Q' : Int32 → XT → Prop} (hk : k ≤ k') (hQ : (∀ (r : Int32) (t : XT), Q r t → Q' r t)) (hR : wqX11_areEnds k t a1 a2 Q) : wqX11_areEnds k' t a1 a2 Q' := (wnX11_areEnds Q Q' hQ k k' hk).1 _ _ _ hR
set_option maxHeartbeats 4000000 in
set_option maxRecDepth 100000 in
theorem wnX6_below (Q Q' : Int64 → XT → Prop) (hQ : (∀ (r : Int64) (t : XT), Q r t → Q' r t)) : ∀ k k' : Nat, k ≤ k' → (∀ (t : XT) (li : Nat → Int32) (lj : Nat → Int64), wpX6_below k 0 t li lj Q → wpX6_below k' 0 t li lj Q') := by
  intro k
  induction k with
  | zero => intro k' _; exact fun _ _ _ hR => False.elim hR
  | succ k ih =>
    intro k' hk
    cases k' with
    | zero => exact absurd hk (Nat.not_succ_le_zero k)
    | succ k' =>
      have hk := Nat.le_of_succ_le_succ hk
      have ihk := ih k' hk
      intro t li lj hR
      have hR : wbX6_below_0 (wpX6_below k) k t li lj Q := hR
      show wbX6_below_0 (wpX6_below k') k' t li lj Q'
      unfold wbX6_below_0 at hR ⊢
      exact ⟨hR.1, fun x2 e2 => ⟨fun c1 => ⟨((hR.2 x2 e2).1 c1).1, fun x3 e3 => ⟨(((hR.2 x2 e2).1 c1).2 x3 e3).1, fun x4 e4 => fun x5 e5 => fun x6 e6 => fun x7 e7 => hQ _ _ (((((((hR.2 x2 e2).1 c1).2 x3 e3).2 x4 e4) x5 e5) x6 e6) x7 e7)⟩⟩, fun c1 => ⟨((hR.2 x2 e2).2 c1).1, fun x8 e8 => hQ _ _ (((hR.2 x2 e2).2 c1).2 x8 e8)⟩⟩⟩
theorem wmX6_below {k k' : Nat} {t : XT} {a1 : Int32} {Q Q' : Int64 → XT → Prop} (hk : k ≤ k') (hQ : (∀ (r : Int64) (t : XT), Q r t → Q' r t)) (hR : wqX6_below k t a1 Q) : wqX6_below k' t a1 Q' := (wnX6_below Q Q' hQ k k' hk) _ _ _ hR
set_option maxHeartbeats 4000000 in
set_option maxRecDepth 100000 in
theorem wnX1_waysDown (Q Q' : Int64 → XT → Prop) (hQ : (∀ (r : Int64) (t : XT), Q r t → Q' r t)) : ∀ k k' : Nat, k ≤ k' → (∀ (t : XT) (li : Nat → Int32) (lj : Nat → Int64), wpX1_waysDown k 0 t li lj Q → wpX1_waysDown k' 0 t li lj Q') ∧ (∀ (t : XT) (li : Nat → Int32) (lj : Nat → Int64), wpX1_waysDown k 1 t li lj Q → wpX1_waysDown k' 1 t li lj Q') ∧ (∀ (t : XT) (li : Nat → Int32) (lj : Nat → Int64), wpX1_waysDown k 2 t li lj Q → wpX1_waysDown k' 2 t li lj Q') := by
  intro k
  induction k with
  | zero => intro k' _; exact ⟨fun _ _ _ hR => False.elim hR, fun _ _ _ hR => False.elim hR, fun _ _ _ hR => False.elim hR⟩
  | succ k ih =>
    intro k' hk
    cases k' with
    | zero => exact absurd hk (Nat.not_succ_le_zero k)
    | succ k' =>
      have hk := Nat.le_of_succ_le_succ hk
      have ihk := ih k' hk
      refine ⟨?_, ?_, ?_⟩
      · intro t li lj hR
        have hR : wbX1_waysDown_0 (wpX1_waysDown k) k t li lj Q := hR
        show wbX1_waysDown_0 (wpX1_waysDown k') k' t li lj Q'
        unfold wbX1_waysDown_0 at hR ⊢
        exact wmX6_below hk (fun y3_0 y3_1 h3 => ihk.2.1 _ _ _ h3) hR
      · intro t li lj hR
        have hR : wbX1_waysDown_1 (wpX1_waysDown k) k t li lj Q := hR
        show wbX1_waysDown_1 (wpX1_waysDown k') k' t li lj Q'
        unfold wbX1_waysDown_1 at hR ⊢
        exact ⟨fun c2 => ihk.2.2 _ _ _ (hR.1 c2), fun c2 => fun x4 e4 => ⟨fun c1 => ihk.2.2 _ _ _ (((hR.2 c2) x4 e4).1 c1), fun c1 => wmX11_lowest hk (fun y5_0 h5 => ⟨h5.1, fun x6 e6 => fun x7 e7 => fun x8 e8 => fun x9 e9 => fun x10 e10 => ihk.2.1 _ _ _ (((((h5.2 x6 e6) x7 e7) x8 e8) x9 e9) x10 e10)⟩) (((hR.2 c2) x4 e4).2 c1)⟩⟩
      · intro t li lj hR
        have hR : wbX1_waysDown_2 (wpX1_waysDown k) k t li lj Q := hR
        show wbX1_waysDown_2 (wpX1_waysDown k') k' t li lj Q'
        unfold wbX1_waysDown_2 at hR ⊢
        exact hQ _ _ hR
theorem wmX1_waysDown {k k' : Nat} {t : XT} {a1 : Int32} {Q Q' : Int64 → XT → Prop} (hk : k ≤ k') (hQ : (∀ (r : Int64) (t : XT), Q r t → Q' r t)) (hR : wqX1_waysDown k t a1 Q) : wqX1_waysDown k' t a1 Q' := (wnX1_waysDown Q Q' hQ k k' hk).1 _ _ _ hR
set_option maxHeartbeats 4000000 in
set_option maxRecDepth 100000 in
theorem wnX1_countWays (Q Q' : Int64 → XT → Prop) (hQ : (∀ (r : Int64) (t : XT), Q r t → Q' r t)) : ∀ k k' : Nat, k ≤ k' → (∀ (t : XT) (li : Nat → Int32) (lj : Nat → Int64), wpX1_countWays k 0 t li lj Q → wpX1_countWays k' 0 t li lj Q') ∧ (∀ (t : XT) (li : Nat → Int32) (lj : Nat → Int64), wpX1_countWays k 1 t li lj Q → wpX1_countWays k' 1 t li lj Q') ∧ (∀ (t : XT) (li : Nat → Int32) (lj : Nat → Int64), wpX1_countWays k 2 t li lj Q → wpX1_countWays k' 2 t li lj Q') := by
  intro k
  induction k with
  | zero => intro k' _; exact ⟨fun _ _ _ hR => False.elim hR, fun _ _ _ hR => False.elim hR, fun _ _ _ hR => False.elim hR⟩
  | succ k ih =>
    intro k' hk
    cases k' with
    | zero => exact absurd hk (Nat.not_succ_le_zero k)
    | succ k' =>
      have hk := Nat.le_of_succ_le_succ hk
      have ihk := ih k' hk
      refine ⟨?_, ?_, ?_⟩
      · intro t li lj hR
        have hR : wbX1_countWays_0 (wpX1_countWays k) k t li lj Q := hR
        show wbX1_countWays_0 (wpX1_countWays k') k' t li lj Q'
        unfold wbX1_countWays_0 at hR ⊢
        exact wmX2_measure hk (fun y6_0 h6 => fun x7 e7 => ihk.2.1 _ _ _ (h6 x7 e7)) hR
      · intro t li lj hR
        have hR : wbX1_countWays_1 (wpX1_countWays k) k t li lj Q := hR
        show wbX1_countWays_1 (wpX1_countWays k') k' t li lj Q'
        unfold wbX1_countWays_1 at hR ⊢
        exact ⟨fun c5 => ⟨(hR.1 c5).1, fun x8 e8 => hQ _ _ ((hR.1 c5).2 x8 e8)⟩, fun c5 => ⟨(hR.2 c5).1, fun x9 e9 => ⟨fun c4 => ⟨(((hR.2 c5).2 x9 e9).1 c4).1, fun x10 e10 => ⟨((((hR.2 c5).2 x9 e9).1 c4).2 x10 e10).1, fun x11 e11 => ⟨fun c3 => ⟨((((((hR.2 c5).2 x9 e9).1 c4).2 x10 e10).2 x11 e11).1 c3).1, fun x12 e12 => ⟨(((((((hR.2 c5).2 x9 e9).1 c4).2 x10 e10).2 x11 e11).1 c3).2 x12 e12).1, fun x13 e13 => ⟨fun c2 => ihk.2.2 _ _ _ (((((((((hR.2 c5).2 x9 e9).1 c4).2 x10 e10).2 x11 e11).1 c3).2 x12 e12).2 x13 e13).1 c2), fun c2 => ⟨(((((((((hR.2 c5).2 x9 e9).1 c4).2 x10 e10).2 x11 e11).1 c3).2 x12 e12).2 x13 e13).2 c2).1, fun x14 e14 => ⟨fun c1 => ihk.2.2 _ _ _ (((((((((((hR.2 c5).2 x9 e9).1 c4).2 x10 e10).2 x11 e11).1 c3).2 x12 e12).2 x13 e13).2 c2).2 x14 e14).1 c1), fun c1 => ⟨(((((((((((hR.2 c5).2 x9 e9).1 c4).2 x10 e10).2 x11 e11).1 c3).2 x12 e12).2 x13 e13).2 c2).2 x14 e14).2 c1).1, fun x15 e15 => ⟨((((((((((((hR.2 c5).2 x9 e9).1 c4).2 x10 e10).2 x11 e11).1 c3).2 x12 e12).2 x13 e13).2 c2).2 x14 e14).2 c1).2 x15 e15).1, fun x16 e16 => ⟨(((((((((((((hR.2 c5).2 x9 e9).1 c4).2 x10 e10).2 x11 e11).1 c3).2 x12 e12).2 x13 e13).2 c2).2 x14 e14).2 c1).2 x15 e15).2 x16 e16).1, fun x17 e17 => ihk.2.2 _ _ _ ((((((((((((((hR.2 c5).2 x9 e9).1 c4).2 x10 e10).2 x11 e11).1 c3).2 x12 e12).2 x13 e13).2 c2).2 x14 e14).2 c1).2 x15 e15).2 x16 e16).2 x17 e17)⟩⟩⟩⟩⟩⟩⟩⟩, fun c3 => wmX1_waysDown hk (fun y18_0 y18_1 h18 => ⟨h18.1, fun x19 e19 => ihk.2.2 _ _ _ (h18.2 x19 e19)⟩) ((((((hR.2 c5).2 x9 e9).1 c4).2 x10 e10).2 x11 e11).2 c3)⟩⟩⟩, fun c4 => ⟨(((hR.2 c5).2 x9 e9).2 c4).1, fun x20 e20 => ihk.2.2 _ _ _ ((((hR.2 c5).2 x9 e9).2 c4).2 x20 e20)⟩⟩⟩⟩
      · intro t li lj hR
        have hR : wbX1_countWays_2 (wpX1_countWays k) k t li lj Q := hR
        show wbX1_countWays_2 (wpX1_countWays k') k' t li lj Q'
        unfold wbX1_countWays_2 at hR ⊢
        exact fun x21 e21 => ihk.2.1 _ _ _ (hR x21 e21)
theorem wmX1_countWays {k k' : Nat} {t : XT} {a1 : Int32} {a2 : Int32} {Q Q' : Int64 → XT → Prop} (hk : k ≤ k') (hQ : (∀ (r : Int64) (t : XT), Q r t → Q' r t)) (hR : wqX1_countWays k t a1 a2 Q) : wqX1_countWays k' t a1 a2 Q' := (wnX1_countWays Q Q' hQ k k' hk).1 _ _ _ hR
set_option maxHeartbeats 4000000 in
set_option maxRecDepth 100000 in
theorem wnX1_chosenFace (Q Q' : Int32 → XT → Prop) (hQ : (∀ (r : Int32) (t : XT), Q r t → Q' r t)) : ∀ k k' : Nat, k ≤ k' → (∀ (t : XT) (li : Nat → Int32) (lj : Nat → Int64), wpX1_chosenFace k 0 t li lj Q → wpX1_chosenFace k' 0 t li lj Q') ∧ (∀ (t : XT) (li : Nat → Int32) (lj : Nat → Int64), wpX1_chosenFace k 1 t li lj Q → wpX1_chosenFace k' 1 t li lj Q') ∧ (∀ (t : XT) (li : Nat → Int32) (lj : Nat → Int64), wpX1_chosenFace k 2 t li lj Q → wpX1_chosenFace k' 2 t li lj Q') := by
  intro k
  induction k with
  | zero => intro k' _; exact ⟨fun _ _ _ hR => False.elim hR, fun _ _ _ hR => False.elim hR, fun _ _ _ hR => False.elim hR⟩
  | succ k ih =>
    intro k' hk
    cases k' with
    | zero => exact absurd hk (Nat.not_succ_le_zero k)
    | succ k' =>
      have hk := Nat.le_of_succ_le_succ hk
      have ihk := ih k' hk
      refine ⟨?_, ?_, ?_⟩
      · intro t li lj hR
        have hR : wbX1_chosenFace_0 (wpX1_chosenFace k) k t li lj Q := hR
        show wbX1_chosenFace_0 (wpX1_chosenFace k') k' t li lj Q'
        unfold wbX1_chosenFace_0 at hR ⊢
        exact wmX6_below hk (fun y4_0 y4_1 h4 => wmX11_lowest hk (fun y5_0 h5 => ihk.2.1 _ _ _ h5) h4) hR
      · intro t li lj hR
        have hR : wbX1_chosenFace_1 (wpX1_chosenFace k) k t li lj Q := hR
        show wbX1_chosenFace_1 (wpX1_chosenFace k') k' t li lj Q'
        unfold wbX1_chosenFace_1 at hR ⊢
        exact ⟨fun c3 => ihk.2.2 _ _ _ (hR.1 c3), fun c3 => fun x6 e6 => ⟨fun c2 => ihk.2.2 _ _ _ (((hR.2 c3) x6 e6).1 c2), fun c2 => wmX11_lowest hk (fun y7_0 h7 => ⟨h7.1, fun x8 e8 => fun x9 e9 => ⟨fun c1 => ⟨(((h7.2 x8 e8) x9 e9).1 c1).1, fun x10 e10 => fun x11 e11 => fun x12 e12 => fun x13 e13 => fun x14 e14 => fun x15 e15 => ihk.2.1 _ _ _ (((((((((h7.2 x8 e8) x9 e9).1 c1).2 x10 e10) x11 e11) x12 e12) x13 e13) x14 e14) x15 e15)⟩, fun c1 => hQ _ _ (((h7.2 x8 e8) x9 e9).2 c1)⟩⟩) (((hR.2 c3) x6 e6).2 c2)⟩⟩
      · intro t li lj hR
        have hR : wbX1_chosenFace_2 (wpX1_chosenFace k) k t li lj Q := hR
        show wbX1_chosenFace_2 (wpX1_chosenFace k') k' t li lj Q'
        unfold wbX1_chosenFace_2 at hR ⊢
        exact hQ _ _ hR
theorem wmX1_chosenFace {k k' : Nat} {t : XT} {a1 : Int32} {Q Q' : Int32 → XT → Prop} (hk : k ≤ k') (hQ : (∀ (r : Int32) (t : XT), Q r t → Q' r t)) (hR : wqX1_chosenFace k t a1 Q) : wqX1_chosenFace k' t a1 Q' := (wnX1_chosenFace Q Q' hQ k k' hk).1 _ _ _ hR
set_option maxHeartbeats 4000000 in
set_option maxRecDepth 100000 in
theorem wnX1_trace (Q Q' : Int32 → XT → Prop) (hQ : (∀ (r : Int32) (t : XT), Q r t → Q' r t)) : ∀ k k' : Nat, k ≤ k' → (∀ (t : XT) (li : Nat → Int32) (lj : Nat → Int64), wpX1_trace k 0 t li lj Q → wpX1_trace k' 0 t li lj Q') ∧ (∀ (t : XT) (li : Nat → Int32) (lj : Nat → Int64), wpX1_trace k 1 t li lj Q → wpX1_trace k' 1 t li lj Q') ∧ (∀ (t : XT) (li : Nat → Int32) (lj : Nat → Int64), wpX1_trace k 2 t li lj Q → wpX1_trace k' 2 t li lj Q') ∧ (∀ (t : XT) (li : Nat → Int32) (lj : Nat → Int64), wpX1_trace k 3 t li lj Q → wpX1_trace k' 3 t li lj Q') := by
  intro k
  induction k with
  | zero => intro k' _; exact ⟨fun _ _ _ hR => False.elim hR, fun _ _ _ hR => False.elim hR, fun _ _ _ hR => False.elim hR, fun _ _ _ hR => False.elim hR⟩
  | succ k ih =>
    intro k' hk
    cases k' with
    | zero => exact absurd hk (Nat.not_succ_le_zero k)
    | succ k' =>
      have hk := Nat.le_of_succ_le_succ hk
      have ihk := ih k' hk
      refine ⟨?_, ?_, ?_, ?_⟩
      · intro t li lj hR
        have hR : wbX1_trace_0 (wpX1_trace k) k t li lj Q := hR
        show wbX1_trace_0 (wpX1_trace k') k' t li lj Q'
        unfold wbX1_trace_0 at hR ⊢
        exact fun x5 e5 => ⟨(hR x5 e5).1, fun x6 e6 => ihk.2.1 _ _ _ ((hR x5 e5).2 x6 e6)⟩
      · intro t li lj hR
        have hR : wbX1_trace_1 (wpX1_trace k) k t li lj Q := hR
        show wbX1_trace_1 (wpX1_trace k') k' t li lj Q'
        unfold wbX1_trace_1 at hR ⊢
        exact ⟨fun c4 => ihk.2.2.2 _ _ _ (hR.1 c4), fun c4 => fun x7 e7 => ⟨fun c3 => ihk.2.2.2 _ _ _ (((hR.2 c4) x7 e7).1 c3), fun c3 => wmX1_chosenFace hk (fun y8_0 y8_1 h8 => ⟨h8.1, fun x9 e9 => fun x10 e10 => ⟨fun c2 => ihk.2.2.1 _ _ _ (((h8.2 x9 e9) x10 e10).1 c2), fun c2 => ⟨(((h8.2 x9 e9) x10 e10).2 c2).1, fun x11 e11 => ⟨fun c1 => ihk.2.2.1 _ _ _ (((((h8.2 x9 e9) x10 e10).2 c2).2 x11 e11).1 c1), fun c1 => ⟨(((((h8.2 x9 e9) x10 e10).2 c2).2 x11 e11).2 c1).1, fun x12 e12 => ⟨((((((h8.2 x9 e9) x10 e10).2 c2).2 x11 e11).2 c1).2 x12 e12).1, fun x13 e13 => fun x14 e14 => ihk.2.2.1 _ _ _ ((((((((h8.2 x9 e9) x10 e10).2 c2).2 x11 e11).2 c1).2 x12 e12).2 x13 e13) x14 e14)⟩⟩⟩⟩⟩⟩) (((hR.2 c4) x7 e7).2 c3)⟩⟩
      · intro t li lj hR
        have hR : wbX1_trace_2 (wpX1_trace k) k t li lj Q := hR
        show wbX1_trace_2 (wpX1_trace k') k' t li lj Q'
        unfold wbX1_trace_2 at hR ⊢
        exact ihk.2.1 _ _ _ hR
      · intro t li lj hR
        have hR : wbX1_trace_3 (wpX1_trace k) k t li lj Q := hR
        show wbX1_trace_3 (wpX1_trace k') k' t li lj Q'
        unfold wbX1_trace_3 at hR ⊢
        exact hQ _ _ hR
theorem wmX1_trace {k k' : Nat} {t : XT} {a1 : Int32} {a2 : Int32} {a3 : Int64} {Q Q' : Int32 → XT → Prop} (hk : k ≤ k') (hQ : (∀ (r : Int32) (t : XT), Q r t → Q' r t)) (hR : wqX1_trace k t a1 a2 a3 Q) : wqX1_trace k' t a1 a2 a3 Q' := (wnX1_trace Q Q' hQ k k' hk).1 _ _ _ hR
set_option maxHeartbeats 4000000 in
set_option maxRecDepth 100000 in
theorem wnX11_cancel (Q Q' : Int32 → XT → Prop) (hQ : (∀ (r : Int32) (t : XT), Q r t → Q' r t)) : ∀ k k' : Nat, k ≤ k' → (∀ (t : XT) (li : Nat → Int32) (lj : Nat → Int64), wpX11_cancel k 0 t li lj Q → wpX11_cancel k' 0 t li lj Q') ∧ (∀ (t : XT) (li : Nat → Int32) (lj : Nat → Int64), wpX11_cancel k 1 t li lj Q → wpX11_cancel k' 1 t li lj Q') ∧ (∀ (t : XT) (li : Nat → Int32) (lj : Nat → Int64), wpX11_cancel k 2 t li lj Q → wpX11_cancel k' 2 t li lj Q') := by
  intro k
  induction k with
  | zero => intro k' _; exact ⟨fun _ _ _ hR => False.elim hR, fun _ _ _ hR => False.elim hR, fun _ _ _ hR => False.elim hR⟩
  | succ k ih =>
    intro k' hk
    cases k' with
    | zero => exact absurd hk (Nat.not_succ_le_zero k)
    | succ k' =>
      have hk := Nat.le_of_succ_le_succ hk
      have ihk := ih k' hk
      refine ⟨?_, ?_, ?_⟩
      · intro t li lj hR
        have hR : wbX11_cancel_0 (wpX11_cancel k) k t li lj Q := hR
        show wbX11_cancel_0 (wpX11_cancel k') k' t li lj Q'
        unfold wbX11_cancel_0 at hR ⊢
        exact wmX11_areEnds hk (fun y5_0 y5_1 h5 => ⟨fun c2 => wmX1_countWays hk (fun y6_0 y6_1 h6 => fun x7 e7 => ⟨fun c1 => wmX3_save_c4 hk (fun y8_0 h8 => wmX1_trace hk (fun y9_0 y9_1 h9 => ihk.2.1 _ _ _ h9) h8) ((h6 x7 e7).1 c1), fun c1 => hQ _ _ ((h6 x7 e7).2 c1)⟩) (h5.1 c2), fun c2 => hQ _ _ (h5.2 c2)⟩) hR
      · intro t li lj hR
        have hR : wbX11_cancel_1 (wpX11_cancel k) k t li lj Q := hR
        show wbX11_cancel_1 (wpX11_cancel k') k' t li lj Q'
        unfold wbX11_cancel_1 at hR ⊢
        exact fun x10 e10 => ⟨fun c3 => ihk.2.2 _ _ _ ((hR x10 e10).1 c3), fun c3 => ⟨((hR x10 e10).2 c3).1, fun x11 e11 => wmX6_divide hk (fun y12_0 h12 => fun x13 e13 => ihk.2.1 _ _ _ (h12 x13 e13)) (((hR x10 e10).2 c3).2 x11 e11)⟩⟩
      · intro t li lj hR
        have hR : wbX11_cancel_2 (wpX11_cancel k) k t li lj Q := hR
        show wbX11_cancel_2 (wpX11_cancel k') k' t li lj Q'
        unfold wbX11_cancel_2 at hR ⊢
        exact ⟨fun c4 => wmX11_criticalOnes hk (fun y14_0 y14_1 h14 => hQ _ _ h14) (hR.1 c4), fun c4 => ⟨(hR.2 c4).1, fun x15 e15 => fun x16 e16 => ⟨(((hR.2 c4).2 x15 e15) x16 e16).1, fun x17 e17 => wmX6_unite hk (fun y18_0 h18 => fun x19 e19 => ihk.2.2 _ _ _ (h18 x19 e19)) ((((hR.2 c4).2 x15 e15) x16 e16).2 x17 e17)⟩⟩⟩
theorem wmX11_cancel {k k' : Nat} {t : XT} {a1 : Int32} {a2 : Int32} {Q Q' : Int32 → XT → Prop} (hk : k ≤ k') (hQ : (∀ (r : Int32) (t : XT), Q r t → Q' r t)) (hR : wqX11_cancel k t a1 a2 Q) : wqX11_cancel k' t a1 a2 Q' := (wnX11_cancel Q Q' hQ k k' hk).1 _ _ _ hR
set_option maxHeartbeats 4000000 in
set_option maxRecDepth 100000 in
theorem wnX11_isFree (Q Q' : Int32 → XT → Prop) (hQ : (∀ (r : Int32) (t : XT), Q r t → Q' r t)) : ∀ k k' : Nat, k ≤ k' → (∀ (t : XT) (li : Nat → Int32) (lj : Nat → Int64), wpX11_isFree k 0 t li lj Q → wpX11_isFree k' 0 t li lj Q') := by
  intro k
  induction k with
  | zero => intro k' _; exact fun _ _ _ hR => False.elim hR
  | succ k ih =>
    intro k' hk
    cases k' with
    | zero => exact absurd hk (Nat.not_succ_le_zero k)
    | succ k' =>
      have hk := Nat.le_of_succ_le_succ hk
      have ihk := ih k' hk
      intro t li lj hR
      have hR : wbX11_isFree_0 (wpX11_isFree k) k t li lj Q := hR
      show wbX11_isFree_0 (wpX11_isFree k') k' t li lj Q'
      unfold wbX11_isFree_0 at hR ⊢
      exact ⟨hR.1, fun x3 e3 => fun x4 e4 => wmJ13_bitCount_95d88 hk (fun y5_0 h5 => ⟨fun c2 => wmX11_lowest hk (fun y6_0 h6 => ⟨h6.1, fun x7 e7 => fun x8 e8 => fun x9 e9 => ⟨fun c1 => hQ _ _ ((((h6.2 x7 e7) x8 e8) x9 e9).1 c1), fun c1 => hQ _ _ ((((h6.2 x7 e7) x8 e8) x9 e9).2 c1)⟩⟩) (h5.1 c2), fun c2 => hQ _ _ (h5.2 c2)⟩) ((hR.2 x3 e3) x4 e4)⟩
theorem wmX11_isFree {k k' : Nat} {t : XT} {a1 : Int32} {Q Q' : Int32 → XT → Prop} (hk : k ≤ k') (hQ : (∀ (r : Int32) (t : XT), Q r t → Q' r t)) (hR : wqX11_isFree k t a1 Q) : wqX11_isFree k' t a1 Q' := (wnX11_isFree Q Q' hQ k k' hk) _ _ _ hR
set_option maxHeartbeats 4000000 in
set_option maxRecDepth 100000 in
theorem wnX6_drop (Q Q' : XT → Prop) (hQ : (∀ (t : XT), Q t → Q' t)) : ∀ k k' : Nat, k ≤ k' → (∀ (t : XT) (li : Nat → Int32) (lj : Nat → Int64), wpX6_drop k 0 t li lj Q → wpX6_drop k' 0 t li lj Q') := by
  intro k
  induction k with
  | zero => intro k' _; exact fun _ _ _ hR => False.elim hR
  | succ k ih =>
    intro k' hk
    cases k' with
    | zero => exact absurd hk (Nat.not_succ_le_zero k)
    | succ k' =>
      have hk := Nat.le_of_succ_le_succ hk
      have ihk := ih k' hk
      intro t li lj hR
      have hR : wbX6_drop_0 (wpX6_drop k) k t li lj Q := hR
      show wbX6_drop_0 (wpX6_drop k') k' t li lj Q'
      unfold wbX6_drop_0 at hR ⊢
      exact wmX6_divide hk (fun y1_0 h1 => wmX11_bit hk (fun y2_0 h2 => fun x3 e3 => fun x4 e4 => fun x5 e5 => fun x6 e6 => fun x7 e7 => hQ _ (((((h2 x3 e3) x4 e4) x5 e5) x6 e6) x7 e7)) h1) hR
theorem wmX6_drop {k k' : Nat} {t : XT} {a1 : Int32} {Q Q' : XT → Prop} (hk : k ≤ k') (hQ : (∀ (t : XT), Q t → Q' t)) (hR : wqX6_drop k t a1 Q) : wqX6_drop k' t a1 Q' := (wnX6_drop Q Q' hQ k k' hk) _ _ _ hR
set_option maxHeartbeats 4000000 in
set_option maxRecDepth 100000 in
theorem wnX11_collapse (Q Q' : Int32 → XT → Prop) (hQ : (∀ (r : Int32) (t : XT), Q r t → Q' r t)) : ∀ k k' : Nat, k ≤ k' → (∀ (t : XT) (li : Nat → Int32) (lj : Nat → Int64), wpX11_collapse k 0 t li lj Q → wpX11_collapse k' 0 t li lj Q') := by
  intro k
  induction k with
  | zero => intro k' _; exact fun _ _ _ hR => False.elim hR
  | succ k ih =>
    intro k' hk
    cases k' with
    | zero => exact absurd hk (Nat.not_succ_le_zero k)
    | succ k' =>
      have hk := Nat.le_of_succ_le_succ hk
      have ihk := ih k' hk
      intro t li lj hR
      have hR : wbX11_collapse_0 (wpX11_collapse k) k t li lj Q := hR
      show wbX11_collapse_0 (wpX11_collapse k') k' t li lj Q'
      unfold wbX11_collapse_0 at hR ⊢
      exact wmX11_isThere hk (fun y3_0 y3_1 h3 => ⟨fun c2 => wmX11_isFree hk (fun y4_0 y4_1 h4 => ⟨fun c1 => wmX3_save_c4 hk (fun y5_0 h5 => ⟨h5.1, fun x6 e6 => fun x7 e7 => wmX11_lowest hk (fun y8_0 h8 => wmX6_drop hk (fun y9_0 h9 => wmX6_drop hk (fun y10_0 h10 => wmJ13_bitCount_95d88 hk (fun y11_0 h11 => hQ _ _ h11) h10) h9) h8) ((h5.2 x6 e6) x7 e7)⟩) (h4.1 c1), fun c1 => hQ _ _ (h4.2 c1)⟩) (h3.1 c2), fun c2 => hQ _ _ (h3.2 c2)⟩) hR
theorem wmX11_collapse {k k' : Nat} {t : XT} {a1 : Int32} {Q Q' : Int32 → XT → Prop} (hk : k ≤ k') (hQ : (∀ (r : Int32) (t : XT), Q r t → Q' r t)) (hR : wqX11_collapse k t a1 Q) : wqX11_collapse k' t a1 Q' := (wnX11_collapse Q Q' hQ k k' hk) _ _ _ hR
set_option maxHeartbeats 4000000 in
set_option maxRecDepth 100000 in
theorem wnX6_takeBack_c27 (Q Q' : XT → Prop) (hQ : (∀ (t : XT), Q t → Q' t)) : ∀ k k' : Nat, k ≤ k' → (∀ (t : XT) (li : Nat → Int32) (lj : Nat → Int64), wpX6_takeBack_c27 k 0 t li lj Q → wpX6_takeBack_c27 k' 0 t li lj Q') ∧ (∀ (t : XT) (li : Nat → Int32) (lj : Nat → Int64), wpX6_takeBack_c27 k 1 t li lj Q → wpX6_takeBack_c27 k' 1 t li lj Q') ∧ (∀ (t : XT) (li : Nat → Int32) (lj : Nat → Int64), wpX6_takeBack_c27 k 2 t li lj Q → wpX6_takeBack_c27 k' 2 t li lj Q') := by
  intro k
  induction k with
  | zero => intro k' _; exact ⟨fun _ _ _ hR => False.elim hR, fun _ _ _ hR => False.elim hR, fun _ _ _ hR => False.elim hR⟩
  | succ k ih =>
    intro k' hk
    cases k' with
    | zero => exact absurd hk (Nat.not_succ_le_zero k)
    | succ k' =>
      have hk := Nat.le_of_succ_le_succ hk
      have ihk := ih k' hk
      refine ⟨?_, ?_, ?_⟩
      · intro t li lj hR
        have hR : wbX6_takeBack_c27_0 (wpX6_takeBack_c27 k) k t li lj Q := hR
        show wbX6_takeBack_c27_0 (wpX6_takeBack_c27 k') k' t li lj Q'
        unfold wbX6_takeBack_c27_0 at hR ⊢
        exact wmX6_restart hk (fun y4_0 h4 => ihk.2.1 _ _ _ h4) hR
      · intro t li lj hR
        have hR : wbX6_takeBack_c27_1 (wpX6_takeBack_c27 k) k t li lj Q := hR
        show wbX6_takeBack_c27_1 (wpX6_takeBack_c27 k') k' t li lj Q'
        unfold wbX6_takeBack_c27_1 at hR ⊢
        exact ⟨fun c3 => hQ _ (hR.1 c3), fun c3 => fun x5 e5 => ⟨fun c2 => hQ _ (((hR.2 c3) x5 e5).1 c2), fun c2 => fun x6 e6 => ⟨((((hR.2 c3) x5 e5).2 c2) x6 e6).1, fun x7 e7 => ⟨fun c1 => ihk.2.2 _ _ _ ((((((hR.2 c3) x5 e5).2 c2) x6 e6).2 x7 e7).1 c1), fun c1 => wmX6_unite hk (fun y8_0 h8 => ihk.2.2 _ _ _ h8) ((((((hR.2 c3) x5 e5).2 c2) x6 e6).2 x7 e7).2 c1)⟩⟩⟩⟩
      · intro t li lj hR
        have hR : wbX6_takeBack_c27_2 (wpX6_takeBack_c27 k) k t li lj Q := hR
        show wbX6_takeBack_c27_2 (wpX6_takeBack_c27 k') k' t li lj Q'
        unfold wbX6_takeBack_c27_2 at hR ⊢
        exact fun x9 e9 => ihk.2.1 _ _ _ (hR x9 e9)
theorem wmX6_takeBack_c27 {k k' : Nat} {t : XT} {a2 : Int32} {a3 : Int64} {Q Q' : XT → Prop} (hk : k ≤ k') (hQ : (∀ (t : XT), Q t → Q' t)) (hR : wqX6_takeBack_c27 k t a2 a3 Q) : wqX6_takeBack_c27 k' t a2 a3 Q' := (wnX6_takeBack_c27 Q Q' hQ k k' hk).1 _ _ _ hR
set_option maxHeartbeats 4000000 in
set_option maxRecDepth 100000 in
theorem wnX3_restore_c4 (Q Q' : XT → Prop) (hQ : (∀ (t : XT), Q t → Q' t)) : ∀ k k' : Nat, k ≤ k' → (∀ (t : XT) (li : Nat → Int32) (lj : Nat → Int64), wpX3_restore_c4 k 0 t li lj Q → wpX3_restore_c4 k' 0 t li lj Q') := by
  intro k
  induction k with
  | zero => intro k' _; exact fun _ _ _ hR => False.elim hR
  | succ k ih =>
    intro k' hk
    cases k' with
    | zero => exact absurd hk (Nat.not_succ_le_zero k)
    | succ k' =>
      have hk := Nat.le_of_succ_le_succ hk
      have ihk := ih k' hk
      intro t li lj hR
      have hR : wbX3_restore_c4_0 (wpX3_restore_c4 k) k t li lj Q := hR
      show wbX3_restore_c4_0 (wpX3_restore_c4 k') k' t li lj Q'
      unfold wbX3_restore_c4_0 at hR ⊢
      exact ⟨fun c1 => fun x2 e2 => fun x3 e3 => ⟨(((hR.1 c1) x2 e2) x3 e3).1, fun x4 e4 => fun x5 e5 => fun x6 e6 => fun x7 e7 => fun x8 e8 => ⟨((((((((hR.1 c1) x2 e2) x3 e3).2 x4 e4) x5 e5) x6 e6) x7 e7) x8 e8).1, fun x9 e9 => wmX6_takeBack_c27 hk (fun y10_0 h10 => hQ _ h10) (((((((((hR.1 c1) x2 e2) x3 e3).2 x4 e4) x5 e5) x6 e6) x7 e7) x8 e8).2 x9 e9)⟩⟩, fun c1 => hQ _ (hR.2 c1)⟩
theorem wmX3_restore_c4 {k k' : Nat} {t : XT}  {Q Q' : XT → Prop} (hk : k ≤ k') (hQ : (∀ (t : XT), Q t → Q' t)) (hR : wqX3_restore_c4 k t  Q) : wqX3_restore_c4 k' t  Q' := (wnX3_restore_c4 Q Q' hQ k k' hk) _ _ _ hR
set_option maxHeartbeats 4000000 in
set_option maxRecDepth 100000 in
theorem wnX11_undo (Q Q' : Int32 → XT → Prop) (hQ : (∀ (r : Int32) (t : XT), Q r t → Q' r t)) : ∀ k k' : Nat, k ≤ k' → (∀ (t : XT) (li : Nat → Int32) (lj : Nat → Int64), wpX11_undo k 0 t li lj Q → wpX11_undo k' 0 t li lj Q') := by
  intro k
  induction k with
  | zero => intro k' _; exact fun _ _ _ hR => False.elim hR
  | succ k ih =>
    intro k' hk
    cases k' with
    | zero => exact absurd hk (Nat.not_succ_le_zero k)
    | succ k' =>
      have hk := Nat.le_of_succ_le_succ hk
      have ihk := ih k' hk
      intro t li lj hR
      have hR : wbX11_undo_0 (wpX11_undo k) k t li lj Q := hR
      show wbX11_undo_0 (wpX11_undo k') k' t li lj Q'
      unfold wbX11_undo_0 at hR ⊢
      exact ⟨fun c1 => wmX3_restore_c4 hk (fun y2_0 h2 => hQ _ _ h2) (hR.1 c1), fun c1 => hQ _ _ (hR.2 c1)⟩
theorem wmX11_undo {k k' : Nat} {t : XT}  {Q Q' : Int32 → XT → Prop} (hk : k ≤ k') (hQ : (∀ (r : Int32) (t : XT), Q r t → Q' r t)) (hR : wqX11_undo k t  Q) : wqX11_undo k' t  Q' := (wnX11_undo Q Q' hQ k k' hk) _ _ _ hR
